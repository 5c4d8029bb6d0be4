/-! the law's own methods -/
/-- Out's cell -/
def xO (o : Nat) (d : Int64) (sv : Value) : HM := fun a => if a = o then some (.inr (6, [.long d, sv])) else none
theorem xO_s {o : Nat} {d : Int64} {sv : Value} : xO o d sv o = some (.inr (6, [.long d, sv])) := if_pos rfl
theorem xO_n {o a : Nat} {d : Int64} {sv : Value} (h : a ≠ o) : xO o d sv a = none := if_neg h
theorem xO_dis {A : HM} {o : Nat} {d d2 : Int64} {sv sv2 : Value} (h : xDis A (xO o d sv)) : xDis A (xO o d2 sv2) := fun a ha => by
  by_cases e : a = o
  · have h1 := h a ha
    rw [e, xO_s] at h1; cases h1
  · exact xO_n e
theorem xO_fr {A : HM} {o : Nat} {d : Int64} {sv : Value} (h : xDis A (xO o d sv)) : A o = none := by
  cases e : A o with
  | none => rfl
  | some x =>
    have h1 := h o (by rw [e]; exact fun q => nomatch q)
    rw [xO_s] at h1; cases h1
theorem xU_up {A : HM} {o : Nat} {d d2 : Int64} {sv sv2 : Value} (h : xDis A (xO o d sv)) : va_up (xU A (xO o d sv)) o (some (.inr (6, [.long d2, sv2]))) = xU A (xO o d2 sv2) := by
  funext a
  by_cases e : a = o
  · subst e; rw [va_up_self, xU_r (xO_fr h), xO_s]
  · rw [va_up_ne _ _ e]; simp only [xU, xO_n e]
theorem dv_X3_put : yX3_put.cls = RX3 ∧ yX3_put.cls ≠ "java/lang/invoke/MethodHandle" ∧ yX3_put.cls ≠ "java/lang/invoke/VarHandle" ∧ (parseMethodDescriptor yX3_put.desc).map (fun d => d.parameters.length) = some 3 := ⟨rfl, nmh_RX3.1, nmh_RX3.2, pds_32⟩
theorem dv_X3_putAbsent : yX3_putAbsent.cls = RX3 ∧ yX3_putAbsent.cls ≠ "java/lang/invoke/MethodHandle" ∧ yX3_putAbsent.cls ≠ "java/lang/invoke/VarHandle" ∧ (parseMethodDescriptor yX3_putAbsent.desc).map (fun d => d.parameters.length) = some 3 := ⟨rfl, nmh_RX3.1, nmh_RX3.2, pds_32⟩
theorem dv_X3_replace : yX3_replace.cls = RX3 ∧ yX3_replace.cls ≠ "java/lang/invoke/MethodHandle" ∧ yX3_replace.cls ≠ "java/lang/invoke/VarHandle" ∧ (parseMethodDescriptor yX3_replace.desc).map (fun d => d.parameters.length) = some 3 := ⟨rfl, nmh_RX3.1, nmh_RX3.2, pds_32⟩
theorem dv_X3_swap : yX3_swap.cls = RX3 ∧ yX3_swap.cls ≠ "java/lang/invoke/MethodHandle" ∧ yX3_swap.cls ≠ "java/lang/invoke/VarHandle" ∧ (parseMethodDescriptor yX3_swap.desc).map (fun d => d.parameters.length) = some 4 := ⟨rfl, nmh_RX3.1, nmh_RX3.2, pds_55⟩
theorem dv_X3_strike : yX3_strike.cls = RX3 ∧ yX3_strike.cls ≠ "java/lang/invoke/MethodHandle" ∧ yX3_strike.cls ≠ "java/lang/invoke/VarHandle" ∧ (parseMethodDescriptor yX3_strike.desc).map (fun d => d.parameters.length) = some 2 := ⟨rfl, nmh_RX3.1, nmh_RX3.2, pds_3⟩
theorem dv_X3_strikePair : yX3_strikePair.cls = RX3 ∧ yX3_strikePair.cls ≠ "java/lang/invoke/MethodHandle" ∧ yX3_strikePair.cls ≠ "java/lang/invoke/VarHandle" ∧ (parseMethodDescriptor yX3_strikePair.desc).map (fun d => d.parameters.length) = some 3 := ⟨rfl, nmh_RX3.1, nmh_RX3.2, pds_25⟩
theorem dv_X3_merge : yX3_merge.cls = RX3 ∧ yX3_merge.cls ≠ "java/lang/invoke/MethodHandle" ∧ yX3_merge.cls ≠ "java/lang/invoke/VarHandle" ∧ (parseMethodDescriptor yX3_merge.desc).map (fun d => d.parameters.length) = some 3 := ⟨rfl, nmh_RX3.1, nmh_RX3.2, pds_32⟩
theorem dv_X3_grow : yX3_grow.cls = RX3 ∧ yX3_grow.cls ≠ "java/lang/invoke/MethodHandle" ∧ yX3_grow.cls ≠ "java/lang/invoke/VarHandle" ∧ (parseMethodDescriptor yX3_grow.desc).map (fun d => d.parameters.length) = some 2 := ⟨rfl, nmh_RX3.1, nmh_RX3.2, pds_3⟩
theorem dv_X3_halve : yX3_halve.cls = RX3 ∧ yX3_halve.cls ≠ "java/lang/invoke/MethodHandle" ∧ yX3_halve.cls ≠ "java/lang/invoke/VarHandle" ∧ (parseMethodDescriptor yX3_halve.desc).map (fun d => d.parameters.length) = some 2 := ⟨rfl, nmh_RX3.1, nmh_RX3.2, pds_3⟩
theorem dv_X3_twice : yX3_twice.cls = RX3 ∧ yX3_twice.cls ≠ "java/lang/invoke/MethodHandle" ∧ yX3_twice.cls ≠ "java/lang/invoke/VarHandle" ∧ (parseMethodDescriptor yX3_twice.desc).map (fun d => d.parameters.length) = some 2 := ⟨rfl, nmh_RX3.1, nmh_RX3.2, pds_3⟩
theorem dv_X3_poll : yX3_poll.cls = RX3 ∧ yX3_poll.cls ≠ "java/lang/invoke/MethodHandle" ∧ yX3_poll.cls ≠ "java/lang/invoke/VarHandle" ∧ (parseMethodDescriptor yX3_poll.desc).map (fun d => d.parameters.length) = some 2 := ⟨rfl, nmh_RX3.1, nmh_RX3.2, pds_56⟩
theorem dv_X3_raise : yX3_raise.cls = RX3 ∧ yX3_raise.cls ≠ "java/lang/invoke/MethodHandle" ∧ yX3_raise.cls ≠ "java/lang/invoke/VarHandle" ∧ (parseMethodDescriptor yX3_raise.desc).map (fun d => d.parameters.length) = some 2 := ⟨rfl, nmh_RX3.1, nmh_RX3.2, pds_3⟩
theorem dv_X3_sift : yX3_sift.cls = RX3 ∧ yX3_sift.cls ≠ "java/lang/invoke/MethodHandle" ∧ yX3_sift.cls ≠ "java/lang/invoke/VarHandle" ∧ (parseMethodDescriptor yX3_sift.desc).map (fun d => d.parameters.length) = some 2 := ⟨rfl, nmh_RX3.1, nmh_RX3.2, pds_3⟩
theorem dv_X3_strikeValue : yX3_strikeValue.cls = RX3 ∧ yX3_strikeValue.cls ≠ "java/lang/invoke/MethodHandle" ∧ yX3_strikeValue.cls ≠ "java/lang/invoke/VarHandle" ∧ (parseMethodDescriptor yX3_strikeValue.desc).map (fun d => d.parameters.length) = some 2 := ⟨rfl, nmh_RX3.1, nmh_RX3.2, pds_7⟩
theorem dv_X3_clear : yX3_clear.cls = RX3 ∧ yX3_clear.cls ≠ "java/lang/invoke/MethodHandle" ∧ yX3_clear.cls ≠ "java/lang/invoke/VarHandle" ∧ (parseMethodDescriptor yX3_clear.desc).map (fun d => d.parameters.length) = some 1 := ⟨rfl, nmh_RX3.1, nmh_RX3.2, pds_0⟩
theorem dv_X3_pour : yX3_pour.cls = RX3 ∧ yX3_pour.cls ≠ "java/lang/invoke/MethodHandle" ∧ yX3_pour.cls ≠ "java/lang/invoke/VarHandle" ∧ (parseMethodDescriptor yX3_pour.desc).map (fun d => d.parameters.length) = some 2 := ⟨rfl, nmh_RX3.1, nmh_RX3.2, pds_3⟩
theorem dv_X3_copy : yX3_copy.cls = RX3 ∧ yX3_copy.cls ≠ "java/lang/invoke/MethodHandle" ∧ yX3_copy.cls ≠ "java/lang/invoke/VarHandle" ∧ (parseMethodDescriptor yX3_copy.desc).map (fun d => d.parameters.length) = some 2 := ⟨rfl, nmh_RX3.1, nmh_RX3.2, pds_3⟩
theorem dv_X3_thin : yX3_thin.cls = RX3 ∧ yX3_thin.cls ≠ "java/lang/invoke/MethodHandle" ∧ yX3_thin.cls ≠ "java/lang/invoke/VarHandle" ∧ (parseMethodDescriptor yX3_thin.desc).map (fun d => d.parameters.length) = some 3 := ⟨rfl, nmh_RX3.1, nmh_RX3.2, pds_57⟩
theorem dv_X3_head : yX3_head.cls = RX3 ∧ yX3_head.cls ≠ "java/lang/invoke/MethodHandle" ∧ yX3_head.cls ≠ "java/lang/invoke/VarHandle" ∧ (parseMethodDescriptor yX3_head.desc).map (fun d => d.parameters.length) = some 3 := ⟨rfl, nmh_RX3.1, nmh_RX3.2, pds_57⟩
theorem dv_X3_tail : yX3_tail.cls = RX3 ∧ yX3_tail.cls ≠ "java/lang/invoke/MethodHandle" ∧ yX3_tail.cls ≠ "java/lang/invoke/VarHandle" ∧ (parseMethodDescriptor yX3_tail.desc).map (fun d => d.parameters.length) = some 3 := ⟨rfl, nmh_RX3.1, nmh_RX3.2, pds_57⟩
theorem dv_X3_sub : yX3_sub.cls = RX3 ∧ yX3_sub.cls ≠ "java/lang/invoke/MethodHandle" ∧ yX3_sub.cls ≠ "java/lang/invoke/VarHandle" ∧ (parseMethodDescriptor yX3_sub.desc).map (fun d => d.parameters.length) = some 5 := ⟨rfl, nmh_RX3.1, nmh_RX3.2, pds_58⟩
theorem dv_X3_part : yX3_part.cls = RX3 ∧ yX3_part.cls ≠ "java/lang/invoke/MethodHandle" ∧ yX3_part.cls ≠ "java/lang/invoke/VarHandle" ∧ (parseMethodDescriptor yX3_part.desc).map (fun d => d.parameters.length) = some 5 := ⟨rfl, nmh_RX3.1, nmh_RX3.2, pds_58⟩
theorem dv_X3_shut : yX3_shut.cls = RX3 ∧ yX3_shut.cls ≠ "java/lang/invoke/MethodHandle" ∧ yX3_shut.cls ≠ "java/lang/invoke/VarHandle" ∧ (parseMethodDescriptor yX3_shut.desc).map (fun d => d.parameters.length) = some 1 := ⟨rfl, nmh_RX3.1, nmh_RX3.2, pds_0⟩
theorem dv_X3_viewPut : yX3_viewPut.cls = RX3 ∧ yX3_viewPut.cls ≠ "java/lang/invoke/MethodHandle" ∧ yX3_viewPut.cls ≠ "java/lang/invoke/VarHandle" ∧ (parseMethodDescriptor yX3_viewPut.desc).map (fun d => d.parameters.length) = some 3 := ⟨rfl, nmh_RX3.1, nmh_RX3.2, pds_32⟩
theorem dv_X3_viewStrike : yX3_viewStrike.cls = RX3 ∧ yX3_viewStrike.cls ≠ "java/lang/invoke/MethodHandle" ∧ yX3_viewStrike.cls ≠ "java/lang/invoke/VarHandle" ∧ (parseMethodDescriptor yX3_viewStrike.desc).map (fun d => d.parameters.length) = some 2 := ⟨rfl, nmh_RX3.1, nmh_RX3.2, pds_3⟩
theorem dv_X3_viewMerge : yX3_viewMerge.cls = RX3 ∧ yX3_viewMerge.cls ≠ "java/lang/invoke/MethodHandle" ∧ yX3_viewMerge.cls ≠ "java/lang/invoke/VarHandle" ∧ (parseMethodDescriptor yX3_viewMerge.desc).map (fun d => d.parameters.length) = some 3 := ⟨rfl, nmh_RX3.1, nmh_RX3.2, pds_32⟩
theorem dv_X3_viewPoll : yX3_viewPoll.cls = RX3 ∧ yX3_viewPoll.cls ≠ "java/lang/invoke/MethodHandle" ∧ yX3_viewPoll.cls ≠ "java/lang/invoke/VarHandle" ∧ (parseMethodDescriptor yX3_viewPoll.desc).map (fun d => d.parameters.length) = some 2 := ⟨rfl, nmh_RX3.1, nmh_RX3.2, pds_56⟩
theorem dv_X3_viewClear : yX3_viewClear.cls = RX3 ∧ yX3_viewClear.cls ≠ "java/lang/invoke/MethodHandle" ∧ yX3_viewClear.cls ≠ "java/lang/invoke/VarHandle" ∧ (parseMethodDescriptor yX3_viewClear.desc).map (fun d => d.parameters.length) = some 1 := ⟨rfl, nmh_RX3.1, nmh_RX3.2, pds_0⟩
theorem dv_X3_walk : yX3_walk.cls = RX3 ∧ yX3_walk.cls ≠ "java/lang/invoke/MethodHandle" ∧ yX3_walk.cls ≠ "java/lang/invoke/VarHandle" ∧ (parseMethodDescriptor yX3_walk.desc).map (fun d => d.parameters.length) = some 1 := ⟨rfl, nmh_RX3.1, nmh_RX3.2, pds_0⟩
theorem dv_X3_viewWalk : yX3_viewWalk.cls = RX3 ∧ yX3_viewWalk.cls ≠ "java/lang/invoke/MethodHandle" ∧ yX3_viewWalk.cls ≠ "java/lang/invoke/VarHandle" ∧ (parseMethodDescriptor yX3_viewWalk.desc).map (fun d => d.parameters.length) = some 1 := ⟨rfl, nmh_RX3.1, nmh_RX3.2, pds_0⟩
theorem dv_X3_step : yX3_step.cls = RX3 ∧ yX3_step.cls ≠ "java/lang/invoke/MethodHandle" ∧ yX3_step.cls ≠ "java/lang/invoke/VarHandle" ∧ (parseMethodDescriptor yX3_step.desc).map (fun d => d.parameters.length) = some 0 := ⟨rfl, nmh_RX3.1, nmh_RX3.2, pds_4⟩
theorem dv_X3_write : yX3_write.cls = RX3 ∧ yX3_write.cls ≠ "java/lang/invoke/MethodHandle" ∧ yX3_write.cls ≠ "java/lang/invoke/VarHandle" ∧ (parseMethodDescriptor yX3_write.desc).map (fun d => d.parameters.length) = some 1 := ⟨rfl, nmh_RX3.1, nmh_RX3.2, pds_0⟩
theorem dv_X3_drop : yX3_drop.cls = RX3 ∧ yX3_drop.cls ≠ "java/lang/invoke/MethodHandle" ∧ yX3_drop.cls ≠ "java/lang/invoke/VarHandle" ∧ (parseMethodDescriptor yX3_drop.desc).map (fun d => d.parameters.length) = some 0 := ⟨rfl, nmh_RX3.1, nmh_RX3.2, pds_4⟩
theorem dv_X3_keep : yX3_keep.cls = RX3 ∧ yX3_keep.cls ≠ "java/lang/invoke/MethodHandle" ∧ yX3_keep.cls ≠ "java/lang/invoke/VarHandle" ∧ (parseMethodDescriptor yX3_keep.desc).map (fun d => d.parameters.length) = some 2 := ⟨rfl, nmh_RX3.1, nmh_RX3.2, pds_56⟩
theorem dv_X3_brand : yX3_brand.cls = RX3 ∧ yX3_brand.cls ≠ "java/lang/invoke/MethodHandle" ∧ yX3_brand.cls ≠ "java/lang/invoke/VarHandle" ∧ (parseMethodDescriptor yX3_brand.desc).map (fun d => d.parameters.length) = some 1 := ⟨rfl, nmh_RX3.1, nmh_RX3.2, pds_0⟩
theorem dv_X3_get : yX3_get.cls = RX3 ∧ yX3_get.cls ≠ "java/lang/invoke/MethodHandle" ∧ yX3_get.cls ≠ "java/lang/invoke/VarHandle" ∧ (parseMethodDescriptor yX3_get.desc).map (fun d => d.parameters.length) = some 2 := ⟨rfl, nmh_RX3.1, nmh_RX3.2, pds_3⟩
theorem dv_X3_getOr : yX3_getOr.cls = RX3 ∧ yX3_getOr.cls ≠ "java/lang/invoke/MethodHandle" ∧ yX3_getOr.cls ≠ "java/lang/invoke/VarHandle" ∧ (parseMethodDescriptor yX3_getOr.desc).map (fun d => d.parameters.length) = some 3 := ⟨rfl, nmh_RX3.1, nmh_RX3.2, pds_32⟩
theorem dv_X3_has : yX3_has.cls = RX3 ∧ yX3_has.cls ≠ "java/lang/invoke/MethodHandle" ∧ yX3_has.cls ≠ "java/lang/invoke/VarHandle" ∧ (parseMethodDescriptor yX3_has.desc).map (fun d => d.parameters.length) = some 2 := ⟨rfl, nmh_RX3.1, nmh_RX3.2, pds_7⟩
theorem dv_X3_hasValue : yX3_hasValue.cls = RX3 ∧ yX3_hasValue.cls ≠ "java/lang/invoke/MethodHandle" ∧ yX3_hasValue.cls ≠ "java/lang/invoke/VarHandle" ∧ (parseMethodDescriptor yX3_hasValue.desc).map (fun d => d.parameters.length) = some 2 := ⟨rfl, nmh_RX3.1, nmh_RX3.2, pds_7⟩
theorem dv_X3_place : yX3_place.cls = RX3 ∧ yX3_place.cls ≠ "java/lang/invoke/MethodHandle" ∧ yX3_place.cls ≠ "java/lang/invoke/VarHandle" ∧ (parseMethodDescriptor yX3_place.desc).map (fun d => d.parameters.length) = some 2 := ⟨rfl, nmh_RX3.1, nmh_RX3.2, pds_3⟩
theorem dv_X3_at : yX3_at.cls = RX3 ∧ yX3_at.cls ≠ "java/lang/invoke/MethodHandle" ∧ yX3_at.cls ≠ "java/lang/invoke/VarHandle" ∧ (parseMethodDescriptor yX3_at.desc).map (fun d => d.parameters.length) = some 2 := ⟨rfl, nmh_RX3.1, nmh_RX3.2, pds_3⟩
theorem dv_X3_row : yX3_row.cls = RX3 ∧ yX3_row.cls ≠ "java/lang/invoke/MethodHandle" ∧ yX3_row.cls ≠ "java/lang/invoke/VarHandle" ∧ (parseMethodDescriptor yX3_row.desc).map (fun d => d.parameters.length) = some 1 := ⟨rfl, nmh_RX3.1, nmh_RX3.2, pds_59⟩
theorem dv_X3_same : yX3_same.cls = RX3 ∧ yX3_same.cls ≠ "java/lang/invoke/MethodHandle" ∧ yX3_same.cls ≠ "java/lang/invoke/VarHandle" ∧ (parseMethodDescriptor yX3_same.desc).map (fun d => d.parameters.length) = some 2 := ⟨rfl, nmh_RX3.1, nmh_RX3.2, pds_7⟩
theorem dv_X3_viewGet : yX3_viewGet.cls = RX3 ∧ yX3_viewGet.cls ≠ "java/lang/invoke/MethodHandle" ∧ yX3_viewGet.cls ≠ "java/lang/invoke/VarHandle" ∧ (parseMethodDescriptor yX3_viewGet.desc).map (fun d => d.parameters.length) = some 2 := ⟨rfl, nmh_RX3.1, nmh_RX3.2, pds_3⟩
theorem dv_X3_viewRow : yX3_viewRow.cls = RX3 ∧ yX3_viewRow.cls ≠ "java/lang/invoke/MethodHandle" ∧ yX3_viewRow.cls ≠ "java/lang/invoke/VarHandle" ∧ (parseMethodDescriptor yX3_viewRow.desc).map (fun d => d.parameters.length) = some 1 := ⟨rfl, nmh_RX3.1, nmh_RX3.2, pds_59⟩
set_option maxHeartbeats 4000000 in
set_option maxRecDepth 100000 in
theorem c_L_put (l : Launch) (G : xG) (hst : l.stackTraces = false) {A : HM} {h0 o : Nat} {N : Int} {O : OW} {V : BW} {Wv : VW} {K : WA} {kp kv rfd : Int32} {d : Int64} {sv : Value} (hG : RG G A h0 N (O, V, Wv, K, kp, kv, rfd)) (hN : N ≤ 590) (hd : xDis A (xO o d sv)) {p0 : Int} (hp0 : -2147483648 ≤ p0 ∧ p0 ≤ 2147483647) {p1 : Int} (hp1 : -2147483648 ≤ p1 ∧ p1 ≤ 2147483647) {p2 : Int} (hp2 : -2147483648 ≤ p2 ∧ p2 ≤ 2147483647) : xMet l G yL_put wsL_put 9 158 3 18 [.ref h0, .int (iN (p0)), .int (iN (p1)), .int (iN (p2)), .ref o] (xU A (xO o d sv)) (fun r M1 => ∃ k9 : Int, r = some (.int (iN k9)) ∧ ∃ (A1 : HM) (d1 : Int64) (sv1 : Value), M1 = xU A1 (xO o d1 sv1) ∧ xDis A1 (xO o d1 sv1) ∧ ((k9 = 0 ∧ ((0 ≤ p0 ∧ p0 ≤ 2) ∧ ((0 ≤ p1 ∧ p1 ≤ 99) ∧ (-9999 ≤ p2 ∧ p2 ≤ 9999))) ∧ (∃ z : Int, d1 = (iN z).toInt64 ∧ (-2147483648 ≤ z ∧ z ≤ 2147483647) ∧ z = A_put (O, V, Wv, K, kp, kv, rfd) p0 p1 p2) ∧ RG G A1 h0 (N + 1) (S_put (O, V, Wv, K, kp, kv, rfd) p0 p1 p2)) ∨ (k9 ≠ 0 ∧ ((k9 = 1 ∧ ¬ (0 ≤ p0 ∧ p0 ≤ 2)) ∨ (k9 = 2 ∧ (0 ≤ p0 ∧ p0 ≤ 2) ∧ ¬ ((0 ≤ p1 ∧ p1 ≤ 99) ∧ (-9999 ≤ p2 ∧ p2 ≤ 9999)))) ∧ RG G A1 h0 (N + 1) (O, V, Wv, K, kp, kv, rfd)))) := by
  obtain ⟨bs, vs, og, qb, qk, qv, fb, fv, T, C, K0, hR, hK, hcb⟩ := hG
  replace hK : K = abK T C K0 := hK
  subst hK
  replace hR : RGx G A h0 bs vs og kp kv rfd qb qk qv fb fv O O Wv V T C K0 := hR
  refine x_introW (cc := cL_put) (maxL := 6) (ret := (some .int)) (hh := [(0, 13, 16, 19), (0, 13, 20, 21)]) (by exact pln_RL) rfl (Nat.le_of_ble_eq_true rfl) ?_
  intro p e R s m args below meth c ls hRf hRc hRs hRl htab hC hw hl
  have hinX4 : ∀ w ∈ wsX40, w ∈ wsL_put := fun w h => (List.mem_cons_of_mem _ (List.mem_append_left _ (List.mem_append_left _ (List.mem_append_left _ (List.mem_append_left _ (List.mem_append_right _ h))))))
  have hl : lv_has ls 6 [(0, .ref h0), (1, .int (iN (p0))), (2, .int (iN (p1))), (3, .int (iN (p2))), (4, .ref o)] := hl
  refine lv_aload hC.1 hC.2.1 dL_put_0 (lv_at hl 4 rfl) ?_
  refine lv_aload_n hC.1 hC.2.1 dL_put_2 rfl (lv_at hl 0 rfl) ?_
  refine lv_iload_n hC.1 hC.2.1 dL_put_3 rfl (lv_at hl 1 rfl) ?_
  refine lv_iload_n hC.1 hC.2.1 dL_put_4 rfl (lv_at hl 2 rfl) ?_
  refine lv_iload_n hC.1 hC.2.1 dL_put_5 rfl (lv_at hl 3 rfl) ?_
  refine x_callVX hC hw (lv_size hl) ((c_X3_put l G hst hR hcb hN (p0 := p0) (by first | assumption | omega) (p1 := p1) (by first | assumption | omega) (p2 := p2) (by first | assumption | omega)).frame hd) gL_put_X3_put rfl dv_X3_put (xU_l hR.1) rfl rfl (Nat.le_of_ble_eq_true rfl) (by rw [hRf]; decide) (by rw [hRl]; decide) (by first | (rw [hRc]; decide) | omega) (by first | (rw [hRs]; decide) | omega) dL_put_6 (fun E ce q9 M1 H locs hqx hw hcell hcv hcls => ?_) (fun r9 M1 H locs hq hw => ?_)
  · obtain ⟨A1, ⟨hE, hG1⟩, hM1, hd1⟩ := hqx
    subst hM1
    rcases hE with ⟨rfl, hb9⟩ | ⟨rfl, hb9⟩
    · skip
      refine vx_catch (own := "RangeledgerLaw") (name := "java/lang/IndexOutOfBoundsException") hC.2.2.2.1 [] (⟨0, 13, 16, 19⟩ : ExceptionTableEntry) [(⟨0, 13, 20, 21⟩ : ExceptionTableEntry)] (by rw [htab]; rfl) (fun z hz => nomatch hz) (by decide) (by decide) (hC.2.2.2.2.1 _ (List.mem_cons_of_mem _ (List.mem_append_left _ (List.mem_append_left _ (List.mem_append_left _ (List.mem_append_left _ (List.mem_append_left _ (List.mem_append_left _ (List.mem_of_getElem? (i := 0) rfl))))))))) (va_Nw.use rfl (hC.2.2.2.2.2.2.2.2.1.2.2.2.1.1 ("java/lang/IndexOutOfBoundsException", "java/lang/IndexOutOfBoundsException") (by decide))) hcell hcv hcls ?_
      show W p l e R s m args below meth c H locs _ _ _ (F0 m 16 ls [.ref q9])
      refine lv_astore (lv' := [(5, .ref q9), (0, .ref h0), (1, .int (iN (p0))), (2, .int (iN (p1))), (3, .int (iN (p2))), (4, .ref o)]) hC.1 hC.2.1 dL_put_16 hl (by decide) rfl (fun ls hl => ?_)
      refine x_const hC dL_put_18 ?_
      exact vx_ret (x_iret hC hw dL_put_19 (by first | decide | omega) (by first | decide | omega) ⟨1, rfl, _, _, _, rfl, hd1, Or.inr ⟨by omega, by omega, hG1⟩⟩)
    · skip
      refine vx_catch (own := "RangeledgerLaw") (name := "java/lang/IllegalArgumentException") hC.2.2.2.1 [(⟨0, 13, 16, 19⟩ : ExceptionTableEntry)] (⟨0, 13, 20, 21⟩ : ExceptionTableEntry) [] (by rw [htab]; rfl) (fun z hz => by simp only [List.mem_cons, List.not_mem_nil, or_false] at hz; subst hz; (· exact Or.inr ⟨by decide, "java/lang/IndexOutOfBoundsException", hC.2.2.2.2.1 _ (List.mem_cons_of_mem _ (List.mem_append_left _ (List.mem_append_left _ (List.mem_append_left _ (List.mem_append_left _ (List.mem_append_left _ (List.mem_append_left _ (List.mem_of_getElem? (i := 0) rfl)))))))), hC.2.2.2.2.2.2.2.2.1.2.2.2.2.1 ("java/lang/IllegalArgumentException", "java/lang/IndexOutOfBoundsException") (by decide)⟩)) (by decide) (by decide) (hC.2.2.2.2.1 _ (List.mem_cons_of_mem _ (List.mem_append_left _ (List.mem_append_left _ (List.mem_append_left _ (List.mem_append_left _ (List.mem_append_left _ (List.mem_append_left _ (List.mem_of_getElem? (i := 1) rfl))))))))) (va_Nw.use rfl (hC.2.2.2.2.2.2.2.2.1.2.2.2.1.1 ("java/lang/IllegalArgumentException", "java/lang/IllegalArgumentException") (by decide))) hcell hcv hcls ?_
      show W p l e R s m args below meth c H locs _ _ _ (F0 m 20 ls [.ref q9])
      refine lv_astore (lv' := [(5, .ref q9), (0, .ref h0), (1, .int (iN (p0))), (2, .int (iN (p1))), (3, .int (iN (p2))), (4, .ref o)]) hC.1 hC.2.1 dL_put_20 hl (by decide) rfl (fun ls hl => ?_)
      refine x_const hC dL_put_22 ?_
      exact vx_ret (x_iret hC hw dL_put_23 (by first | decide | omega) (by first | decide | omega) ⟨2, rfl, _, _, _, rfl, hd1, Or.inr ⟨by omega, by omega, hG1⟩⟩)
  · obtain ⟨A1, ⟨z8, hr9, hz8, ho8, hA8, hG1⟩, hM1, hd1⟩ := hq
    subst hr9
    subst hM1
    show W p l e R s m args below meth c H locs _ _ _ (F0 m 9 ls [.int (iN (z8)), .ref o])
    refine lv_i2l hC.1 hC.2.1 dL_put_9 rfl ?_
    refine lv_topl (fun d_1 hd_1 => ?_)
    refine x_putOn (fs2 := [.long (d_1), sv]) hC hw hinX4 (xU_b hd1 xO_s) (by simp) rfl dL_put_10 (fun H locs hw => ?_)
    rw [xU_up hd1] at hw
    refine lv_goto (tgt := 24) hC.1 hC.2.1 dL_put_13 (by decide) ?_
    refine x_const hC dL_put_24 ?_
    exact vx_ret (x_iret hC hw dL_put_25 (by first | decide | omega) (by first | decide | omega) ⟨0, rfl, _, _, _, rfl, xO_dis hd1, Or.inl ⟨by omega, ho8, ⟨z8, hd_1, by omega, hA8⟩, hG1⟩⟩)
set_option maxHeartbeats 4000000 in
set_option maxRecDepth 100000 in
theorem c_L_putAbsent (l : Launch) (G : xG) (hst : l.stackTraces = false) {A : HM} {h0 o : Nat} {N : Int} {O : OW} {V : BW} {Wv : VW} {K : WA} {kp kv rfd : Int32} {d : Int64} {sv : Value} (hG : RG G A h0 N (O, V, Wv, K, kp, kv, rfd)) (hN : N ≤ 590) (hd : xDis A (xO o d sv)) {p0 : Int} (hp0 : -2147483648 ≤ p0 ∧ p0 ≤ 2147483647) {p1 : Int} (hp1 : -2147483648 ≤ p1 ∧ p1 ≤ 2147483647) {p2 : Int} (hp2 : -2147483648 ≤ p2 ∧ p2 ≤ 2147483647) : xMet l G yL_putAbsent wsL_putAbsent 9 159 3 18 [.ref h0, .int (iN (p0)), .int (iN (p1)), .int (iN (p2)), .ref o] (xU A (xO o d sv)) (fun r M1 => ∃ k9 : Int, r = some (.int (iN k9)) ∧ ∃ (A1 : HM) (d1 : Int64) (sv1 : Value), M1 = xU A1 (xO o d1 sv1) ∧ xDis A1 (xO o d1 sv1) ∧ ((k9 = 0 ∧ ((0 ≤ p0 ∧ p0 ≤ 2) ∧ ((0 ≤ p1 ∧ p1 ≤ 99) ∧ (-9999 ≤ p2 ∧ p2 ≤ 9999))) ∧ (∃ z : Int, d1 = (iN z).toInt64 ∧ (-2147483648 ≤ z ∧ z ≤ 2147483647) ∧ z = A_putAbsent (O, V, Wv, K, kp, kv, rfd) p0 p1 p2) ∧ RG G A1 h0 (N + 1) (S_putAbsent (O, V, Wv, K, kp, kv, rfd) p0 p1 p2)) ∨ (k9 ≠ 0 ∧ ((k9 = 1 ∧ ¬ (0 ≤ p0 ∧ p0 ≤ 2)) ∨ (k9 = 2 ∧ (0 ≤ p0 ∧ p0 ≤ 2) ∧ ¬ ((0 ≤ p1 ∧ p1 ≤ 99) ∧ (-9999 ≤ p2 ∧ p2 ≤ 9999)))) ∧ RG G A1 h0 (N + 1) (O, V, Wv, K, kp, kv, rfd)))) := by
  obtain ⟨bs, vs, og, qb, qk, qv, fb, fv, T, C, K0, hR, hK, hcb⟩ := hG
  replace hK : K = abK T C K0 := hK
  subst hK
  replace hR : RGx G A h0 bs vs og kp kv rfd qb qk qv fb fv O O Wv V T C K0 := hR
  refine x_introW (cc := cL_putAbsent) (maxL := 6) (ret := (some .int)) (hh := [(0, 13, 16, 19), (0, 13, 20, 21)]) (by exact pln_RL) rfl (Nat.le_of_ble_eq_true rfl) ?_
  intro p e R s m args below meth c ls hRf hRc hRs hRl htab hC hw hl
  have hinX4 : ∀ w ∈ wsX40, w ∈ wsL_putAbsent := fun w h => (List.mem_cons_of_mem _ (List.mem_append_left _ (List.mem_append_left _ (List.mem_append_left _ (List.mem_append_left _ (List.mem_append_right _ h))))))
  have hl : lv_has ls 6 [(0, .ref h0), (1, .int (iN (p0))), (2, .int (iN (p1))), (3, .int (iN (p2))), (4, .ref o)] := hl
  refine lv_aload hC.1 hC.2.1 dL_putAbsent_0 (lv_at hl 4 rfl) ?_
  refine lv_aload_n hC.1 hC.2.1 dL_putAbsent_2 rfl (lv_at hl 0 rfl) ?_
  refine lv_iload_n hC.1 hC.2.1 dL_putAbsent_3 rfl (lv_at hl 1 rfl) ?_
  refine lv_iload_n hC.1 hC.2.1 dL_putAbsent_4 rfl (lv_at hl 2 rfl) ?_
  refine lv_iload_n hC.1 hC.2.1 dL_putAbsent_5 rfl (lv_at hl 3 rfl) ?_
  refine x_callVX hC hw (lv_size hl) ((c_X3_putAbsent l G hst hR hcb hN (p0 := p0) (by first | assumption | omega) (p1 := p1) (by first | assumption | omega) (p2 := p2) (by first | assumption | omega)).frame hd) gL_putAbsent_X3_putAbsent rfl dv_X3_putAbsent (xU_l hR.1) rfl rfl (Nat.le_of_ble_eq_true rfl) (by rw [hRf]; decide) (by rw [hRl]; decide) (by first | (rw [hRc]; decide) | omega) (by first | (rw [hRs]; decide) | omega) dL_putAbsent_6 (fun E ce q9 M1 H locs hqx hw hcell hcv hcls => ?_) (fun r9 M1 H locs hq hw => ?_)
  · obtain ⟨A1, ⟨hE, hG1⟩, hM1, hd1⟩ := hqx
    subst hM1
    rcases hE with ⟨rfl, hb9⟩ | ⟨rfl, hb9⟩
    · skip
      refine vx_catch (own := "RangeledgerLaw") (name := "java/lang/IndexOutOfBoundsException") hC.2.2.2.1 [] (⟨0, 13, 16, 19⟩ : ExceptionTableEntry) [(⟨0, 13, 20, 21⟩ : ExceptionTableEntry)] (by rw [htab]; rfl) (fun z hz => nomatch hz) (by decide) (by decide) (hC.2.2.2.2.1 _ (List.mem_cons_of_mem _ (List.mem_append_left _ (List.mem_append_left _ (List.mem_append_left _ (List.mem_append_left _ (List.mem_append_left _ (List.mem_append_left _ (List.mem_of_getElem? (i := 0) rfl))))))))) (va_Nw.use rfl (hC.2.2.2.2.2.2.2.2.1.2.2.2.1.1 ("java/lang/IndexOutOfBoundsException", "java/lang/IndexOutOfBoundsException") (by decide))) hcell hcv hcls ?_
      show W p l e R s m args below meth c H locs _ _ _ (F0 m 16 ls [.ref q9])
      refine lv_astore (lv' := [(5, .ref q9), (0, .ref h0), (1, .int (iN (p0))), (2, .int (iN (p1))), (3, .int (iN (p2))), (4, .ref o)]) hC.1 hC.2.1 dL_putAbsent_16 hl (by decide) rfl (fun ls hl => ?_)
      refine x_const hC dL_putAbsent_18 ?_
      exact vx_ret (x_iret hC hw dL_putAbsent_19 (by first | decide | omega) (by first | decide | omega) ⟨1, rfl, _, _, _, rfl, hd1, Or.inr ⟨by omega, by omega, hG1⟩⟩)
    · skip
      refine vx_catch (own := "RangeledgerLaw") (name := "java/lang/IllegalArgumentException") hC.2.2.2.1 [(⟨0, 13, 16, 19⟩ : ExceptionTableEntry)] (⟨0, 13, 20, 21⟩ : ExceptionTableEntry) [] (by rw [htab]; rfl) (fun z hz => by simp only [List.mem_cons, List.not_mem_nil, or_false] at hz; subst hz; (· exact Or.inr ⟨by decide, "java/lang/IndexOutOfBoundsException", hC.2.2.2.2.1 _ (List.mem_cons_of_mem _ (List.mem_append_left _ (List.mem_append_left _ (List.mem_append_left _ (List.mem_append_left _ (List.mem_append_left _ (List.mem_append_left _ (List.mem_of_getElem? (i := 0) rfl)))))))), hC.2.2.2.2.2.2.2.2.1.2.2.2.2.1 ("java/lang/IllegalArgumentException", "java/lang/IndexOutOfBoundsException") (by decide)⟩)) (by decide) (by decide) (hC.2.2.2.2.1 _ (List.mem_cons_of_mem _ (List.mem_append_left _ (List.mem_append_left _ (List.mem_append_left _ (List.mem_append_left _ (List.mem_append_left _ (List.mem_append_left _ (List.mem_of_getElem? (i := 1) rfl))))))))) (va_Nw.use rfl (hC.2.2.2.2.2.2.2.2.1.2.2.2.1.1 ("java/lang/IllegalArgumentException", "java/lang/IllegalArgumentException") (by decide))) hcell hcv hcls ?_
      show W p l e R s m args below meth c H locs _ _ _ (F0 m 20 ls [.ref q9])
      refine lv_astore (lv' := [(5, .ref q9), (0, .ref h0), (1, .int (iN (p0))), (2, .int (iN (p1))), (3, .int (iN (p2))), (4, .ref o)]) hC.1 hC.2.1 dL_putAbsent_20 hl (by decide) rfl (fun ls hl => ?_)
      refine x_const hC dL_putAbsent_22 ?_
      exact vx_ret (x_iret hC hw dL_putAbsent_23 (by first | decide | omega) (by first | decide | omega) ⟨2, rfl, _, _, _, rfl, hd1, Or.inr ⟨by omega, by omega, hG1⟩⟩)
  · obtain ⟨A1, ⟨z8, hr9, hz8, ho8, hA8, hG1⟩, hM1, hd1⟩ := hq
    subst hr9
    subst hM1
    show W p l e R s m args below meth c H locs _ _ _ (F0 m 9 ls [.int (iN (z8)), .ref o])
    refine lv_i2l hC.1 hC.2.1 dL_putAbsent_9 rfl ?_
    refine lv_topl (fun d_1 hd_1 => ?_)
    refine x_putOn (fs2 := [.long (d_1), sv]) hC hw hinX4 (xU_b hd1 xO_s) (by simp) rfl dL_putAbsent_10 (fun H locs hw => ?_)
    rw [xU_up hd1] at hw
    refine lv_goto (tgt := 24) hC.1 hC.2.1 dL_putAbsent_13 (by decide) ?_
    refine x_const hC dL_putAbsent_24 ?_
    exact vx_ret (x_iret hC hw dL_putAbsent_25 (by first | decide | omega) (by first | decide | omega) ⟨0, rfl, _, _, _, rfl, xO_dis hd1, Or.inl ⟨by omega, ho8, ⟨z8, hd_1, by omega, hA8⟩, hG1⟩⟩)
set_option maxHeartbeats 4000000 in
set_option maxRecDepth 100000 in
theorem c_L_replace (l : Launch) (G : xG) (hst : l.stackTraces = false) {A : HM} {h0 o : Nat} {N : Int} {O : OW} {V : BW} {Wv : VW} {K : WA} {kp kv rfd : Int32} {d : Int64} {sv : Value} (hG : RG G A h0 N (O, V, Wv, K, kp, kv, rfd)) (hN : N ≤ 590) (hd : xDis A (xO o d sv)) {p0 : Int} (hp0 : -2147483648 ≤ p0 ∧ p0 ≤ 2147483647) {p1 : Int} (hp1 : -2147483648 ≤ p1 ∧ p1 ≤ 2147483647) {p2 : Int} (hp2 : -2147483648 ≤ p2 ∧ p2 ≤ 2147483647) : xMet l G yL_replace wsL_replace 9 159 3 18 [.ref h0, .int (iN (p0)), .int (iN (p1)), .int (iN (p2)), .ref o] (xU A (xO o d sv)) (fun r M1 => ∃ k9 : Int, r = some (.int (iN k9)) ∧ ∃ (A1 : HM) (d1 : Int64) (sv1 : Value), M1 = xU A1 (xO o d1 sv1) ∧ xDis A1 (xO o d1 sv1) ∧ ((k9 = 0 ∧ ((0 ≤ p0 ∧ p0 ≤ 2) ∧ ((0 ≤ p1 ∧ p1 ≤ 99) ∧ (-9999 ≤ p2 ∧ p2 ≤ 9999))) ∧ (∃ z : Int, d1 = (iN z).toInt64 ∧ (-2147483648 ≤ z ∧ z ≤ 2147483647) ∧ z = A_replace (O, V, Wv, K, kp, kv, rfd) p0 p1 p2) ∧ RG G A1 h0 (N + 1) (S_replace (O, V, Wv, K, kp, kv, rfd) p0 p1 p2)) ∨ (k9 ≠ 0 ∧ ((k9 = 1 ∧ ¬ (0 ≤ p0 ∧ p0 ≤ 2)) ∨ (k9 = 2 ∧ (0 ≤ p0 ∧ p0 ≤ 2) ∧ ¬ ((0 ≤ p1 ∧ p1 ≤ 99) ∧ (-9999 ≤ p2 ∧ p2 ≤ 9999)))) ∧ RG G A1 h0 (N + 1) (O, V, Wv, K, kp, kv, rfd)))) := by
  obtain ⟨bs, vs, og, qb, qk, qv, fb, fv, T, C, K0, hR, hK, hcb⟩ := hG
  replace hK : K = abK T C K0 := hK
  subst hK
  replace hR : RGx G A h0 bs vs og kp kv rfd qb qk qv fb fv O O Wv V T C K0 := hR
  refine x_introW (cc := cL_replace) (maxL := 6) (ret := (some .int)) (hh := [(0, 13, 16, 19), (0, 13, 20, 21)]) (by exact pln_RL) rfl (Nat.le_of_ble_eq_true rfl) ?_
  intro p e R s m args below meth c ls hRf hRc hRs hRl htab hC hw hl
  have hinX4 : ∀ w ∈ wsX40, w ∈ wsL_replace := fun w h => (List.mem_cons_of_mem _ (List.mem_append_left _ (List.mem_append_left _ (List.mem_append_left _ (List.mem_append_left _ (List.mem_append_right _ h))))))
  have hl : lv_has ls 6 [(0, .ref h0), (1, .int (iN (p0))), (2, .int (iN (p1))), (3, .int (iN (p2))), (4, .ref o)] := hl
  refine lv_aload hC.1 hC.2.1 dL_replace_0 (lv_at hl 4 rfl) ?_
  refine lv_aload_n hC.1 hC.2.1 dL_replace_2 rfl (lv_at hl 0 rfl) ?_
  refine lv_iload_n hC.1 hC.2.1 dL_replace_3 rfl (lv_at hl 1 rfl) ?_
  refine lv_iload_n hC.1 hC.2.1 dL_replace_4 rfl (lv_at hl 2 rfl) ?_
  refine lv_iload_n hC.1 hC.2.1 dL_replace_5 rfl (lv_at hl 3 rfl) ?_
  refine x_callVX hC hw (lv_size hl) ((c_X3_replace l G hst hR hcb hN (p0 := p0) (by first | assumption | omega) (p1 := p1) (by first | assumption | omega) (p2 := p2) (by first | assumption | omega)).frame hd) gL_replace_X3_replace rfl dv_X3_replace (xU_l hR.1) rfl rfl (Nat.le_of_ble_eq_true rfl) (by rw [hRf]; decide) (by rw [hRl]; decide) (by first | (rw [hRc]; decide) | omega) (by first | (rw [hRs]; decide) | omega) dL_replace_6 (fun E ce q9 M1 H locs hqx hw hcell hcv hcls => ?_) (fun r9 M1 H locs hq hw => ?_)
  · obtain ⟨A1, ⟨hE, hG1⟩, hM1, hd1⟩ := hqx
    subst hM1
    rcases hE with ⟨rfl, hb9⟩ | ⟨rfl, hb9⟩
    · skip
      refine vx_catch (own := "RangeledgerLaw") (name := "java/lang/IndexOutOfBoundsException") hC.2.2.2.1 [] (⟨0, 13, 16, 19⟩ : ExceptionTableEntry) [(⟨0, 13, 20, 21⟩ : ExceptionTableEntry)] (by rw [htab]; rfl) (fun z hz => nomatch hz) (by decide) (by decide) (hC.2.2.2.2.1 _ (List.mem_cons_of_mem _ (List.mem_append_left _ (List.mem_append_left _ (List.mem_append_left _ (List.mem_append_left _ (List.mem_append_left _ (List.mem_append_left _ (List.mem_of_getElem? (i := 0) rfl))))))))) (va_Nw.use rfl (hC.2.2.2.2.2.2.2.2.1.2.2.2.1.1 ("java/lang/IndexOutOfBoundsException", "java/lang/IndexOutOfBoundsException") (by decide))) hcell hcv hcls ?_
      show W p l e R s m args below meth c H locs _ _ _ (F0 m 16 ls [.ref q9])
      refine lv_astore (lv' := [(5, .ref q9), (0, .ref h0), (1, .int (iN (p0))), (2, .int (iN (p1))), (3, .int (iN (p2))), (4, .ref o)]) hC.1 hC.2.1 dL_replace_16 hl (by decide) rfl (fun ls hl => ?_)
      refine x_const hC dL_replace_18 ?_
      exact vx_ret (x_iret hC hw dL_replace_19 (by first | decide | omega) (by first | decide | omega) ⟨1, rfl, _, _, _, rfl, hd1, Or.inr ⟨by omega, by omega, hG1⟩⟩)
    · skip
      refine vx_catch (own := "RangeledgerLaw") (name := "java/lang/IllegalArgumentException") hC.2.2.2.1 [(⟨0, 13, 16, 19⟩ : ExceptionTableEntry)] (⟨0, 13, 20, 21⟩ : ExceptionTableEntry) [] (by rw [htab]; rfl) (fun z hz => by simp only [List.mem_cons, List.not_mem_nil, or_false] at hz; subst hz; (· exact Or.inr ⟨by decide, "java/lang/IndexOutOfBoundsException", hC.2.2.2.2.1 _ (List.mem_cons_of_mem _ (List.mem_append_left _ (List.mem_append_left _ (List.mem_append_left _ (List.mem_append_left _ (List.mem_append_left _ (List.mem_append_left _ (List.mem_of_getElem? (i := 0) rfl)))))))), hC.2.2.2.2.2.2.2.2.1.2.2.2.2.1 ("java/lang/IllegalArgumentException", "java/lang/IndexOutOfBoundsException") (by decide)⟩)) (by decide) (by decide) (hC.2.2.2.2.1 _ (List.mem_cons_of_mem _ (List.mem_append_left _ (List.mem_append_left _ (List.mem_append_left _ (List.mem_append_left _ (List.mem_append_left _ (List.mem_append_left _ (List.mem_of_getElem? (i := 1) rfl))))))))) (va_Nw.use rfl (hC.2.2.2.2.2.2.2.2.1.2.2.2.1.1 ("java/lang/IllegalArgumentException", "java/lang/IllegalArgumentException") (by decide))) hcell hcv hcls ?_
      show W p l e R s m args below meth c H locs _ _ _ (F0 m 20 ls [.ref q9])
      refine lv_astore (lv' := [(5, .ref q9), (0, .ref h0), (1, .int (iN (p0))), (2, .int (iN (p1))), (3, .int (iN (p2))), (4, .ref o)]) hC.1 hC.2.1 dL_replace_20 hl (by decide) rfl (fun ls hl => ?_)
      refine x_const hC dL_replace_22 ?_
      exact vx_ret (x_iret hC hw dL_replace_23 (by first | decide | omega) (by first | decide | omega) ⟨2, rfl, _, _, _, rfl, hd1, Or.inr ⟨by omega, by omega, hG1⟩⟩)
  · obtain ⟨A1, ⟨z8, hr9, hz8, ho8, hA8, hG1⟩, hM1, hd1⟩ := hq
    subst hr9
    subst hM1
    show W p l e R s m args below meth c H locs _ _ _ (F0 m 9 ls [.int (iN (z8)), .ref o])
    refine lv_i2l hC.1 hC.2.1 dL_replace_9 rfl ?_
    refine lv_topl (fun d_1 hd_1 => ?_)
    refine x_putOn (fs2 := [.long (d_1), sv]) hC hw hinX4 (xU_b hd1 xO_s) (by simp) rfl dL_replace_10 (fun H locs hw => ?_)
    rw [xU_up hd1] at hw
    refine lv_goto (tgt := 24) hC.1 hC.2.1 dL_replace_13 (by decide) ?_
    refine x_const hC dL_replace_24 ?_
    exact vx_ret (x_iret hC hw dL_replace_25 (by first | decide | omega) (by first | decide | omega) ⟨0, rfl, _, _, _, rfl, xO_dis hd1, Or.inl ⟨by omega, ho8, ⟨z8, hd_1, by omega, hA8⟩, hG1⟩⟩)
set_option maxHeartbeats 4000000 in
set_option maxRecDepth 100000 in
theorem c_L_swap (l : Launch) (G : xG) (hst : l.stackTraces = false) {A : HM} {h0 o : Nat} {N : Int} {O : OW} {V : BW} {Wv : VW} {K : WA} {kp kv rfd : Int32} {d : Int64} {sv : Value} (hG : RG G A h0 N (O, V, Wv, K, kp, kv, rfd)) (hN : N ≤ 590) (hd : xDis A (xO o d sv)) {p0 : Int} (hp0 : -2147483648 ≤ p0 ∧ p0 ≤ 2147483647) {p1 : Int} (hp1 : -2147483648 ≤ p1 ∧ p1 ≤ 2147483647) {p2 : Int} (hp2 : -2147483648 ≤ p2 ∧ p2 ≤ 2147483647) {p3 : Int} (hp3 : -2147483648 ≤ p3 ∧ p3 ≤ 2147483647) : xMet l G yL_swap wsL_swap 8 136 4 24 [.ref h0, .int (iN (p0)), .int (iN (p1)), .int (iN (p2)), .int (iN (p3)), .ref o] (xU A (xO o d sv)) (fun r M1 => ∃ k9 : Int, r = some (.int (iN k9)) ∧ ∃ (A1 : HM) (d1 : Int64) (sv1 : Value), M1 = xU A1 (xO o d1 sv1) ∧ xDis A1 (xO o d1 sv1) ∧ ((k9 = 0 ∧ ((0 ≤ p0 ∧ p0 ≤ 2) ∧ ((0 ≤ p1 ∧ p1 ≤ 99) ∧ (-9999 ≤ p2 ∧ p2 ≤ 9999) ∧ (-9999 ≤ p3 ∧ p3 ≤ 9999))) ∧ (∃ z : Int, d1 = (iN z).toInt64 ∧ (-2147483648 ≤ z ∧ z ≤ 2147483647) ∧ z = A_swap (O, V, Wv, K, kp, kv, rfd) p0 p1 p2 p3) ∧ RG G A1 h0 (N + 1) (S_swap (O, V, Wv, K, kp, kv, rfd) p0 p1 p2 p3)) ∨ (k9 ≠ 0 ∧ ((k9 = 1 ∧ ¬ (0 ≤ p0 ∧ p0 ≤ 2)) ∨ (k9 = 2 ∧ (0 ≤ p0 ∧ p0 ≤ 2) ∧ ¬ ((0 ≤ p1 ∧ p1 ≤ 99) ∧ (-9999 ≤ p2 ∧ p2 ≤ 9999) ∧ (-9999 ≤ p3 ∧ p3 ≤ 9999)))) ∧ RG G A1 h0 (N + 1) (O, V, Wv, K, kp, kv, rfd)))) := by
  obtain ⟨bs, vs, og, qb, qk, qv, fb, fv, T, C, K0, hR, hK, hcb⟩ := hG
  replace hK : K = abK T C K0 := hK
  subst hK
  replace hR : RGx G A h0 bs vs og kp kv rfd qb qk qv fb fv O O Wv V T C K0 := hR
  refine x_introW (cc := cL_swap) (maxL := 7) (ret := (some .int)) (hh := [(0, 22, 25, 19), (0, 22, 29, 21)]) (by exact pln_RL) rfl (Nat.le_of_ble_eq_true rfl) ?_
  intro p e R s m args below meth c ls hRf hRc hRs hRl htab hC hw hl
  have hinX4 : ∀ w ∈ wsX40, w ∈ wsL_swap := fun w h => (List.mem_cons_of_mem _ (List.mem_append_left _ (List.mem_append_left _ (List.mem_append_left _ (List.mem_append_left _ (List.mem_append_right _ h))))))
  have hl : lv_has ls 7 [(0, .ref h0), (1, .int (iN (p0))), (2, .int (iN (p1))), (3, .int (iN (p2))), (4, .int (iN (p3))), (5, .ref o)] := hl
  refine lv_aload hC.1 hC.2.1 dL_swap_0 (lv_at hl 5 rfl) ?_
  refine lv_aload_n hC.1 hC.2.1 dL_swap_2 rfl (lv_at hl 0 rfl) ?_
  refine lv_iload_n hC.1 hC.2.1 dL_swap_3 rfl (lv_at hl 1 rfl) ?_
  refine lv_iload_n hC.1 hC.2.1 dL_swap_4 rfl (lv_at hl 2 rfl) ?_
  refine lv_iload_n hC.1 hC.2.1 dL_swap_5 rfl (lv_at hl 3 rfl) ?_
  refine lv_iload hC.1 hC.2.1 dL_swap_6 (lv_at hl 4 rfl) ?_
  refine x_callVX hC hw (lv_size hl) ((c_X3_swap l G hst hR hcb hN (p0 := p0) (by first | assumption | omega) (p1 := p1) (by first | assumption | omega) (p2 := p2) (by first | assumption | omega) (p3 := p3) (by first | assumption | omega)).frame hd) gL_swap_X3_swap rfl dv_X3_swap (xU_l hR.1) rfl rfl (Nat.le_of_ble_eq_true rfl) (by rw [hRf]; decide) (by rw [hRl]; decide) (by first | (rw [hRc]; decide) | omega) (by first | (rw [hRs]; decide) | omega) dL_swap_8 (fun E ce q9 M1 H locs hqx hw hcell hcv hcls => ?_) (fun r9 M1 H locs hq hw => ?_)
  · obtain ⟨A1, ⟨hE, hG1⟩, hM1, hd1⟩ := hqx
    subst hM1
    rcases hE with ⟨rfl, hb9⟩ | ⟨rfl, hb9⟩
    · skip
      refine vx_catch (own := "RangeledgerLaw") (name := "java/lang/IndexOutOfBoundsException") hC.2.2.2.1 [] (⟨0, 22, 25, 19⟩ : ExceptionTableEntry) [(⟨0, 22, 29, 21⟩ : ExceptionTableEntry)] (by rw [htab]; rfl) (fun z hz => nomatch hz) (by decide) (by decide) (hC.2.2.2.2.1 _ (List.mem_cons_of_mem _ (List.mem_append_left _ (List.mem_append_left _ (List.mem_append_left _ (List.mem_append_left _ (List.mem_append_left _ (List.mem_append_left _ (List.mem_of_getElem? (i := 0) rfl))))))))) (va_Nw.use rfl (hC.2.2.2.2.2.2.2.2.1.2.2.2.1.1 ("java/lang/IndexOutOfBoundsException", "java/lang/IndexOutOfBoundsException") (by decide))) hcell hcv hcls ?_
      show W p l e R s m args below meth c H locs _ _ _ (F0 m 25 ls [.ref q9])
      refine lv_astore (lv' := [(6, .ref q9), (0, .ref h0), (1, .int (iN (p0))), (2, .int (iN (p1))), (3, .int (iN (p2))), (4, .int (iN (p3))), (5, .ref o)]) hC.1 hC.2.1 dL_swap_25 hl (by decide) rfl (fun ls hl => ?_)
      refine x_const hC dL_swap_27 ?_
      exact vx_ret (x_iret hC hw dL_swap_28 (by first | decide | omega) (by first | decide | omega) ⟨1, rfl, _, _, _, rfl, hd1, Or.inr ⟨by omega, by omega, hG1⟩⟩)
    · skip
      refine vx_catch (own := "RangeledgerLaw") (name := "java/lang/IllegalArgumentException") hC.2.2.2.1 [(⟨0, 22, 25, 19⟩ : ExceptionTableEntry)] (⟨0, 22, 29, 21⟩ : ExceptionTableEntry) [] (by rw [htab]; rfl) (fun z hz => by simp only [List.mem_cons, List.not_mem_nil, or_false] at hz; subst hz; (· exact Or.inr ⟨by decide, "java/lang/IndexOutOfBoundsException", hC.2.2.2.2.1 _ (List.mem_cons_of_mem _ (List.mem_append_left _ (List.mem_append_left _ (List.mem_append_left _ (List.mem_append_left _ (List.mem_append_left _ (List.mem_append_left _ (List.mem_of_getElem? (i := 0) rfl)))))))), hC.2.2.2.2.2.2.2.2.1.2.2.2.2.1 ("java/lang/IllegalArgumentException", "java/lang/IndexOutOfBoundsException") (by decide)⟩)) (by decide) (by decide) (hC.2.2.2.2.1 _ (List.mem_cons_of_mem _ (List.mem_append_left _ (List.mem_append_left _ (List.mem_append_left _ (List.mem_append_left _ (List.mem_append_left _ (List.mem_append_left _ (List.mem_of_getElem? (i := 1) rfl))))))))) (va_Nw.use rfl (hC.2.2.2.2.2.2.2.2.1.2.2.2.1.1 ("java/lang/IllegalArgumentException", "java/lang/IllegalArgumentException") (by decide))) hcell hcv hcls ?_
      show W p l e R s m args below meth c H locs _ _ _ (F0 m 29 ls [.ref q9])
      refine lv_astore (lv' := [(6, .ref q9), (0, .ref h0), (1, .int (iN (p0))), (2, .int (iN (p1))), (3, .int (iN (p2))), (4, .int (iN (p3))), (5, .ref o)]) hC.1 hC.2.1 dL_swap_29 hl (by decide) rfl (fun ls hl => ?_)
      refine x_const hC dL_swap_31 ?_
      exact vx_ret (x_iret hC hw dL_swap_32 (by first | decide | omega) (by first | decide | omega) ⟨2, rfl, _, _, _, rfl, hd1, Or.inr ⟨by omega, by omega, hG1⟩⟩)
  · obtain ⟨A1, ⟨z8, hr9, hz8, ho8, hA8, hG1⟩, hM1, hd1⟩ := hq
    subst hr9
    subst hM1
    show W p l e R s m args below meth c H locs _ _ _ (F0 m 11 ls [.int (iN (z8)), .ref o])
    refine x_if_eq (tgt := 18) hC ⟨by omega, by omega⟩ dL_swap_11 (by decide) (fun c_1 => ?_) (fun c_1 => ?_)
    · refine lv_lconst (v := 0) hC.1 hC.2.1 dL_swap_18 rfl ?_
      refine x_putOn (fs2 := [.long (0), sv]) hC hw hinX4 (xU_b hd1 xO_s) (by simp) rfl dL_swap_19 (fun H locs hw => ?_)
      rw [xU_up hd1] at hw
      refine lv_goto (tgt := 33) hC.1 hC.2.1 dL_swap_22 (by decide) ?_
      refine x_const hC dL_swap_33 ?_
      exact vx_ret (x_iret hC hw dL_swap_34 (by first | decide | omega) (by first | decide | omega) ⟨0, rfl, _, _, _, rfl, xO_dis hd1, Or.inl ⟨by omega, ho8, ⟨z8, by rw [show z8 = 0 by omega]; rfl, by omega, hA8⟩, hG1⟩⟩)
    · refine lv_lconst (v := 1) hC.1 hC.2.1 dL_swap_14 rfl ?_
      refine lv_goto (tgt := 19) hC.1 hC.2.1 dL_swap_15 (by decide) ?_
      refine x_putOn (fs2 := [.long (1), sv]) hC hw hinX4 (xU_b hd1 xO_s) (by simp) rfl dL_swap_19 (fun H locs hw => ?_)
      rw [xU_up hd1] at hw
      refine lv_goto (tgt := 33) hC.1 hC.2.1 dL_swap_22 (by decide) ?_
      refine x_const hC dL_swap_33 ?_
      exact vx_ret (x_iret hC hw dL_swap_34 (by first | decide | omega) (by first | decide | omega) ⟨0, rfl, _, _, _, rfl, xO_dis hd1, Or.inl ⟨by omega, ho8, ⟨z8, by rw [show z8 = 1 by omega]; rfl, by omega, hA8⟩, hG1⟩⟩)
set_option maxHeartbeats 4000000 in
set_option maxRecDepth 100000 in
theorem c_L_strike (l : Launch) (G : xG) (hst : l.stackTraces = false) {A : HM} {h0 o : Nat} {N : Int} {O : OW} {V : BW} {Wv : VW} {K : WA} {kp kv rfd : Int32} {d : Int64} {sv : Value} (hG : RG G A h0 N (O, V, Wv, K, kp, kv, rfd)) (hN : N ≤ 590) (hd : xDis A (xO o d sv)) {p0 : Int} (hp0 : -2147483648 ≤ p0 ∧ p0 ≤ 2147483647) {p1 : Int} (hp1 : -2147483648 ≤ p1 ∧ p1 ≤ 2147483647) : xMet l G yL_strike wsL_strike 9 156 2 12 [.ref h0, .int (iN (p0)), .int (iN (p1)), .ref o] (xU A (xO o d sv)) (fun r M1 => ∃ k9 : Int, r = some (.int (iN k9)) ∧ ∃ (A1 : HM) (d1 : Int64) (sv1 : Value), M1 = xU A1 (xO o d1 sv1) ∧ xDis A1 (xO o d1 sv1) ∧ ((k9 = 0 ∧ ((0 ≤ p0 ∧ p0 ≤ 2) ∧ (0 ≤ p1 ∧ p1 ≤ 99)) ∧ (∃ z : Int, d1 = (iN z).toInt64 ∧ (-2147483648 ≤ z ∧ z ≤ 2147483647) ∧ z = A_strike (O, V, Wv, K, kp, kv, rfd) p0 p1) ∧ RG G A1 h0 (N + 1) (S_strike (O, V, Wv, K, kp, kv, rfd) p0 p1)) ∨ (k9 ≠ 0 ∧ ((k9 = 1 ∧ ¬ (0 ≤ p0 ∧ p0 ≤ 2)) ∨ (k9 = 2 ∧ (0 ≤ p0 ∧ p0 ≤ 2) ∧ ¬ (0 ≤ p1 ∧ p1 ≤ 99))) ∧ RG G A1 h0 (N + 1) (O, V, Wv, K, kp, kv, rfd)))) := by
  obtain ⟨bs, vs, og, qb, qk, qv, fb, fv, T, C, K0, hR, hK, hcb⟩ := hG
  replace hK : K = abK T C K0 := hK
  subst hK
  replace hR : RGx G A h0 bs vs og kp kv rfd qb qk qv fb fv O O Wv V T C K0 := hR
  refine x_introW (cc := cL_strike) (maxL := 5) (ret := (some .int)) (hh := [(0, 11, 14, 19), (0, 11, 18, 21)]) (by exact pln_RL) rfl (Nat.le_of_ble_eq_true rfl) ?_
  intro p e R s m args below meth c ls hRf hRc hRs hRl htab hC hw hl
  have hinX4 : ∀ w ∈ wsX40, w ∈ wsL_strike := fun w h => (List.mem_cons_of_mem _ (List.mem_append_left _ (List.mem_append_left _ (List.mem_append_left _ (List.mem_append_left _ (List.mem_append_right _ h))))))
  have hl : lv_has ls 5 [(0, .ref h0), (1, .int (iN (p0))), (2, .int (iN (p1))), (3, .ref o)] := hl
  refine lv_aload_n hC.1 hC.2.1 dL_strike_0 rfl (lv_at hl 3 rfl) ?_
  refine lv_aload_n hC.1 hC.2.1 dL_strike_1 rfl (lv_at hl 0 rfl) ?_
  refine lv_iload_n hC.1 hC.2.1 dL_strike_2 rfl (lv_at hl 1 rfl) ?_
  refine lv_iload_n hC.1 hC.2.1 dL_strike_3 rfl (lv_at hl 2 rfl) ?_
  refine x_callVX hC hw (lv_size hl) ((c_X3_strike l G hst hR hcb hN (p0 := p0) (by first | assumption | omega) (p1 := p1) (by first | assumption | omega)).frame hd) gL_strike_X3_strike rfl dv_X3_strike (xU_l hR.1) rfl rfl (Nat.le_of_ble_eq_true rfl) (by rw [hRf]; decide) (by rw [hRl]; decide) (by first | (rw [hRc]; decide) | omega) (by first | (rw [hRs]; decide) | omega) dL_strike_4 (fun E ce q9 M1 H locs hqx hw hcell hcv hcls => ?_) (fun r9 M1 H locs hq hw => ?_)
  · obtain ⟨A1, ⟨hE, hG1⟩, hM1, hd1⟩ := hqx
    subst hM1
    rcases hE with ⟨rfl, hb9⟩ | ⟨rfl, hb9⟩
    · skip
      refine vx_catch (own := "RangeledgerLaw") (name := "java/lang/IndexOutOfBoundsException") hC.2.2.2.1 [] (⟨0, 11, 14, 19⟩ : ExceptionTableEntry) [(⟨0, 11, 18, 21⟩ : ExceptionTableEntry)] (by rw [htab]; rfl) (fun z hz => nomatch hz) (by decide) (by decide) (hC.2.2.2.2.1 _ (List.mem_cons_of_mem _ (List.mem_append_left _ (List.mem_append_left _ (List.mem_append_left _ (List.mem_append_left _ (List.mem_append_left _ (List.mem_append_left _ (List.mem_of_getElem? (i := 0) rfl))))))))) (va_Nw.use rfl (hC.2.2.2.2.2.2.2.2.1.2.2.2.1.1 ("java/lang/IndexOutOfBoundsException", "java/lang/IndexOutOfBoundsException") (by decide))) hcell hcv hcls ?_
      show W p l e R s m args below meth c H locs _ _ _ (F0 m 14 ls [.ref q9])
      refine lv_astore (lv' := [(4, .ref q9), (0, .ref h0), (1, .int (iN (p0))), (2, .int (iN (p1))), (3, .ref o)]) hC.1 hC.2.1 dL_strike_14 hl (by decide) rfl (fun ls hl => ?_)
      refine x_const hC dL_strike_16 ?_
      exact vx_ret (x_iret hC hw dL_strike_17 (by first | decide | omega) (by first | decide | omega) ⟨1, rfl, _, _, _, rfl, hd1, Or.inr ⟨by omega, by omega, hG1⟩⟩)
    · skip
      refine vx_catch (own := "RangeledgerLaw") (name := "java/lang/IllegalArgumentException") hC.2.2.2.1 [(⟨0, 11, 14, 19⟩ : ExceptionTableEntry)] (⟨0, 11, 18, 21⟩ : ExceptionTableEntry) [] (by rw [htab]; rfl) (fun z hz => by simp only [List.mem_cons, List.not_mem_nil, or_false] at hz; subst hz; (· exact Or.inr ⟨by decide, "java/lang/IndexOutOfBoundsException", hC.2.2.2.2.1 _ (List.mem_cons_of_mem _ (List.mem_append_left _ (List.mem_append_left _ (List.mem_append_left _ (List.mem_append_left _ (List.mem_append_left _ (List.mem_append_left _ (List.mem_of_getElem? (i := 0) rfl)))))))), hC.2.2.2.2.2.2.2.2.1.2.2.2.2.1 ("java/lang/IllegalArgumentException", "java/lang/IndexOutOfBoundsException") (by decide)⟩)) (by decide) (by decide) (hC.2.2.2.2.1 _ (List.mem_cons_of_mem _ (List.mem_append_left _ (List.mem_append_left _ (List.mem_append_left _ (List.mem_append_left _ (List.mem_append_left _ (List.mem_append_left _ (List.mem_of_getElem? (i := 1) rfl))))))))) (va_Nw.use rfl (hC.2.2.2.2.2.2.2.2.1.2.2.2.1.1 ("java/lang/IllegalArgumentException", "java/lang/IllegalArgumentException") (by decide))) hcell hcv hcls ?_
      show W p l e R s m args below meth c H locs _ _ _ (F0 m 18 ls [.ref q9])
      refine lv_astore (lv' := [(4, .ref q9), (0, .ref h0), (1, .int (iN (p0))), (2, .int (iN (p1))), (3, .ref o)]) hC.1 hC.2.1 dL_strike_18 hl (by decide) rfl (fun ls hl => ?_)
      refine x_const hC dL_strike_20 ?_
      exact vx_ret (x_iret hC hw dL_strike_21 (by first | decide | omega) (by first | decide | omega) ⟨2, rfl, _, _, _, rfl, hd1, Or.inr ⟨by omega, by omega, hG1⟩⟩)
  · obtain ⟨A1, ⟨z8, hr9, hz8, ho8, hA8, hG1⟩, hM1, hd1⟩ := hq
    subst hr9
    subst hM1
    show W p l e R s m args below meth c H locs _ _ _ (F0 m 7 ls [.int (iN (z8)), .ref o])
    refine lv_i2l hC.1 hC.2.1 dL_strike_7 rfl ?_
    refine lv_topl (fun d_1 hd_1 => ?_)
    refine x_putOn (fs2 := [.long (d_1), sv]) hC hw hinX4 (xU_b hd1 xO_s) (by simp) rfl dL_strike_8 (fun H locs hw => ?_)
    rw [xU_up hd1] at hw
    refine lv_goto (tgt := 22) hC.1 hC.2.1 dL_strike_11 (by decide) ?_
    refine x_const hC dL_strike_22 ?_
    exact vx_ret (x_iret hC hw dL_strike_23 (by first | decide | omega) (by first | decide | omega) ⟨0, rfl, _, _, _, rfl, xO_dis hd1, Or.inl ⟨by omega, ho8, ⟨z8, hd_1, by omega, hA8⟩, hG1⟩⟩)
set_option maxHeartbeats 4000000 in
set_option maxRecDepth 100000 in
theorem c_L_strikePair (l : Launch) (G : xG) (hst : l.stackTraces = false) {A : HM} {h0 o : Nat} {N : Int} {O : OW} {V : BW} {Wv : VW} {K : WA} {kp kv rfd : Int32} {d : Int64} {sv : Value} (hG : RG G A h0 N (O, V, Wv, K, kp, kv, rfd)) (hN : N ≤ 590) (hd : xDis A (xO o d sv)) {p0 : Int} (hp0 : -2147483648 ≤ p0 ∧ p0 ≤ 2147483647) {p1 : Int} (hp1 : -2147483648 ≤ p1 ∧ p1 ≤ 2147483647) {p2 : Int} (hp2 : -2147483648 ≤ p2 ∧ p2 ≤ 2147483647) : xMet l G yL_strikePair wsL_strikePair 9 159 3 18 [.ref h0, .int (iN (p0)), .int (iN (p1)), .int (iN (p2)), .ref o] (xU A (xO o d sv)) (fun r M1 => ∃ k9 : Int, r = some (.int (iN k9)) ∧ ∃ (A1 : HM) (d1 : Int64) (sv1 : Value), M1 = xU A1 (xO o d1 sv1) ∧ xDis A1 (xO o d1 sv1) ∧ ((k9 = 0 ∧ ((0 ≤ p0 ∧ p0 ≤ 2) ∧ ((0 ≤ p1 ∧ p1 ≤ 99) ∧ (-9999 ≤ p2 ∧ p2 ≤ 9999))) ∧ (∃ z : Int, d1 = (iN z).toInt64 ∧ (-2147483648 ≤ z ∧ z ≤ 2147483647) ∧ z = A_strikePair (O, V, Wv, K, kp, kv, rfd) p0 p1 p2) ∧ RG G A1 h0 (N + 1) (S_strikePair (O, V, Wv, K, kp, kv, rfd) p0 p1 p2)) ∨ (k9 ≠ 0 ∧ ((k9 = 1 ∧ ¬ (0 ≤ p0 ∧ p0 ≤ 2)) ∨ (k9 = 2 ∧ (0 ≤ p0 ∧ p0 ≤ 2) ∧ ¬ ((0 ≤ p1 ∧ p1 ≤ 99) ∧ (-9999 ≤ p2 ∧ p2 ≤ 9999)))) ∧ RG G A1 h0 (N + 1) (O, V, Wv, K, kp, kv, rfd)))) := by
  obtain ⟨bs, vs, og, qb, qk, qv, fb, fv, T, C, K0, hR, hK, hcb⟩ := hG
  replace hK : K = abK T C K0 := hK
  subst hK
  replace hR : RGx G A h0 bs vs og kp kv rfd qb qk qv fb fv O O Wv V T C K0 := hR
  refine x_introW (cc := cL_strikePair) (maxL := 6) (ret := (some .int)) (hh := [(0, 20, 23, 19), (0, 20, 27, 21)]) (by exact pln_RL) rfl (Nat.le_of_ble_eq_true rfl) ?_
  intro p e R s m args below meth c ls hRf hRc hRs hRl htab hC hw hl
  have hinX4 : ∀ w ∈ wsX40, w ∈ wsL_strikePair := fun w h => (List.mem_cons_of_mem _ (List.mem_append_left _ (List.mem_append_left _ (List.mem_append_left _ (List.mem_append_left _ (List.mem_append_right _ h))))))
  have hl : lv_has ls 6 [(0, .ref h0), (1, .int (iN (p0))), (2, .int (iN (p1))), (3, .int (iN (p2))), (4, .ref o)] := hl
  refine lv_aload hC.1 hC.2.1 dL_strikePair_0 (lv_at hl 4 rfl) ?_
  refine lv_aload_n hC.1 hC.2.1 dL_strikePair_2 rfl (lv_at hl 0 rfl) ?_
  refine lv_iload_n hC.1 hC.2.1 dL_strikePair_3 rfl (lv_at hl 1 rfl) ?_
  refine lv_iload_n hC.1 hC.2.1 dL_strikePair_4 rfl (lv_at hl 2 rfl) ?_
  refine lv_iload_n hC.1 hC.2.1 dL_strikePair_5 rfl (lv_at hl 3 rfl) ?_
  refine x_callVX hC hw (lv_size hl) ((c_X3_strikePair l G hst hR hcb hN (p0 := p0) (by first | assumption | omega) (p1 := p1) (by first | assumption | omega) (p2 := p2) (by first | assumption | omega)).frame hd) gL_strikePair_X3_strikePair rfl dv_X3_strikePair (xU_l hR.1) rfl rfl (Nat.le_of_ble_eq_true rfl) (by rw [hRf]; decide) (by rw [hRl]; decide) (by first | (rw [hRc]; decide) | omega) (by first | (rw [hRs]; decide) | omega) dL_strikePair_6 (fun E ce q9 M1 H locs hqx hw hcell hcv hcls => ?_) (fun r9 M1 H locs hq hw => ?_)
  · obtain ⟨A1, ⟨hE, hG1⟩, hM1, hd1⟩ := hqx
    subst hM1
    rcases hE with ⟨rfl, hb9⟩ | ⟨rfl, hb9⟩
    · skip
      refine vx_catch (own := "RangeledgerLaw") (name := "java/lang/IndexOutOfBoundsException") hC.2.2.2.1 [] (⟨0, 20, 23, 19⟩ : ExceptionTableEntry) [(⟨0, 20, 27, 21⟩ : ExceptionTableEntry)] (by rw [htab]; rfl) (fun z hz => nomatch hz) (by decide) (by decide) (hC.2.2.2.2.1 _ (List.mem_cons_of_mem _ (List.mem_append_left _ (List.mem_append_left _ (List.mem_append_left _ (List.mem_append_left _ (List.mem_append_left _ (List.mem_append_left _ (List.mem_of_getElem? (i := 0) rfl))))))))) (va_Nw.use rfl (hC.2.2.2.2.2.2.2.2.1.2.2.2.1.1 ("java/lang/IndexOutOfBoundsException", "java/lang/IndexOutOfBoundsException") (by decide))) hcell hcv hcls ?_
      show W p l e R s m args below meth c H locs _ _ _ (F0 m 23 ls [.ref q9])
      refine lv_astore (lv' := [(5, .ref q9), (0, .ref h0), (1, .int (iN (p0))), (2, .int (iN (p1))), (3, .int (iN (p2))), (4, .ref o)]) hC.1 hC.2.1 dL_strikePair_23 hl (by decide) rfl (fun ls hl => ?_)
      refine x_const hC dL_strikePair_25 ?_
      exact vx_ret (x_iret hC hw dL_strikePair_26 (by first | decide | omega) (by first | decide | omega) ⟨1, rfl, _, _, _, rfl, hd1, Or.inr ⟨by omega, by omega, hG1⟩⟩)
    · skip
      refine vx_catch (own := "RangeledgerLaw") (name := "java/lang/IllegalArgumentException") hC.2.2.2.1 [(⟨0, 20, 23, 19⟩ : ExceptionTableEntry)] (⟨0, 20, 27, 21⟩ : ExceptionTableEntry) [] (by rw [htab]; rfl) (fun z hz => by simp only [List.mem_cons, List.not_mem_nil, or_false] at hz; subst hz; (· exact Or.inr ⟨by decide, "java/lang/IndexOutOfBoundsException", hC.2.2.2.2.1 _ (List.mem_cons_of_mem _ (List.mem_append_left _ (List.mem_append_left _ (List.mem_append_left _ (List.mem_append_left _ (List.mem_append_left _ (List.mem_append_left _ (List.mem_of_getElem? (i := 0) rfl)))))))), hC.2.2.2.2.2.2.2.2.1.2.2.2.2.1 ("java/lang/IllegalArgumentException", "java/lang/IndexOutOfBoundsException") (by decide)⟩)) (by decide) (by decide) (hC.2.2.2.2.1 _ (List.mem_cons_of_mem _ (List.mem_append_left _ (List.mem_append_left _ (List.mem_append_left _ (List.mem_append_left _ (List.mem_append_left _ (List.mem_append_left _ (List.mem_of_getElem? (i := 1) rfl))))))))) (va_Nw.use rfl (hC.2.2.2.2.2.2.2.2.1.2.2.2.1.1 ("java/lang/IllegalArgumentException", "java/lang/IllegalArgumentException") (by decide))) hcell hcv hcls ?_
      show W p l e R s m args below meth c H locs _ _ _ (F0 m 27 ls [.ref q9])
      refine lv_astore (lv' := [(5, .ref q9), (0, .ref h0), (1, .int (iN (p0))), (2, .int (iN (p1))), (3, .int (iN (p2))), (4, .ref o)]) hC.1 hC.2.1 dL_strikePair_27 hl (by decide) rfl (fun ls hl => ?_)
      refine x_const hC dL_strikePair_29 ?_
      exact vx_ret (x_iret hC hw dL_strikePair_30 (by first | decide | omega) (by first | decide | omega) ⟨2, rfl, _, _, _, rfl, hd1, Or.inr ⟨by omega, by omega, hG1⟩⟩)
  · obtain ⟨A1, ⟨z8, hr9, hz8, ho8, hA8, hG1⟩, hM1, hd1⟩ := hq
    subst hr9
    subst hM1
    show W p l e R s m args below meth c H locs _ _ _ (F0 m 9 ls [.int (iN (z8)), .ref o])
    refine x_if_eq (tgt := 16) hC ⟨by omega, by omega⟩ dL_strikePair_9 (by decide) (fun c_1 => ?_) (fun c_1 => ?_)
    · refine lv_lconst (v := 0) hC.1 hC.2.1 dL_strikePair_16 rfl ?_
      refine x_putOn (fs2 := [.long (0), sv]) hC hw hinX4 (xU_b hd1 xO_s) (by simp) rfl dL_strikePair_17 (fun H locs hw => ?_)
      rw [xU_up hd1] at hw
      refine lv_goto (tgt := 31) hC.1 hC.2.1 dL_strikePair_20 (by decide) ?_
      refine x_const hC dL_strikePair_31 ?_
      exact vx_ret (x_iret hC hw dL_strikePair_32 (by first | decide | omega) (by first | decide | omega) ⟨0, rfl, _, _, _, rfl, xO_dis hd1, Or.inl ⟨by omega, ho8, ⟨z8, by rw [show z8 = 0 by omega]; rfl, by omega, hA8⟩, hG1⟩⟩)
    · refine lv_lconst (v := 1) hC.1 hC.2.1 dL_strikePair_12 rfl ?_
      refine lv_goto (tgt := 17) hC.1 hC.2.1 dL_strikePair_13 (by decide) ?_
      refine x_putOn (fs2 := [.long (1), sv]) hC hw hinX4 (xU_b hd1 xO_s) (by simp) rfl dL_strikePair_17 (fun H locs hw => ?_)
      rw [xU_up hd1] at hw
      refine lv_goto (tgt := 31) hC.1 hC.2.1 dL_strikePair_20 (by decide) ?_
      refine x_const hC dL_strikePair_31 ?_
      exact vx_ret (x_iret hC hw dL_strikePair_32 (by first | decide | omega) (by first | decide | omega) ⟨0, rfl, _, _, _, rfl, xO_dis hd1, Or.inl ⟨by omega, ho8, ⟨z8, by rw [show z8 = 1 by omega]; rfl, by omega, hA8⟩, hG1⟩⟩)
set_option maxHeartbeats 4000000 in
set_option maxRecDepth 100000 in
theorem c_L_merge (l : Launch) (G : xG) (hst : l.stackTraces = false) {A : HM} {h0 o : Nat} {N : Int} {O : OW} {V : BW} {Wv : VW} {K : WA} {kp kv rfd : Int32} {d : Int64} {sv : Value} (hG : RG G A h0 N (O, V, Wv, K, kp, kv, rfd)) (hN : N ≤ 590) (hd : xDis A (xO o d sv)) {p0 : Int} (hp0 : -2147483648 ≤ p0 ∧ p0 ≤ 2147483647) {p1 : Int} (hp1 : -2147483648 ≤ p1 ∧ p1 ≤ 2147483647) {p2 : Int} (hp2 : -2147483648 ≤ p2 ∧ p2 ≤ 2147483647) : xMet l G yL_merge wsL_merge 9 161 3 18 [.ref h0, .int (iN (p0)), .int (iN (p1)), .int (iN (p2)), .ref o] (xU A (xO o d sv)) (fun r M1 => ∃ k9 : Int, r = some (.int (iN k9)) ∧ ∃ (A1 : HM) (d1 : Int64) (sv1 : Value), M1 = xU A1 (xO o d1 sv1) ∧ xDis A1 (xO o d1 sv1) ∧ ((k9 = 0 ∧ ((0 ≤ p0 ∧ p0 ≤ 2) ∧ ((0 ≤ p1 ∧ p1 ≤ 99) ∧ (-9999 ≤ p2 ∧ p2 ≤ 9999))) ∧ (∃ z : Int, d1 = (iN z).toInt64 ∧ (-2147483648 ≤ z ∧ z ≤ 2147483647) ∧ z = A_merge (O, V, Wv, K, kp, kv, rfd) p0 p1 p2) ∧ RG G A1 h0 (N + 1) (S_merge (O, V, Wv, K, kp, kv, rfd) p0 p1 p2)) ∨ (k9 ≠ 0 ∧ ((k9 = 1 ∧ ¬ (0 ≤ p0 ∧ p0 ≤ 2)) ∨ (k9 = 2 ∧ (0 ≤ p0 ∧ p0 ≤ 2) ∧ ¬ ((0 ≤ p1 ∧ p1 ≤ 99) ∧ (-9999 ≤ p2 ∧ p2 ≤ 9999)))) ∧ RG G A1 h0 (N + 1) (O, V, Wv, K, kp, kv, rfd)))) := by
  obtain ⟨bs, vs, og, qb, qk, qv, fb, fv, T, C, K0, hR, hK, hcb⟩ := hG
  replace hK : K = abK T C K0 := hK
  subst hK
  replace hR : RGx G A h0 bs vs og kp kv rfd qb qk qv fb fv O O Wv V T C K0 := hR
  refine x_introW (cc := cL_merge) (maxL := 6) (ret := (some .int)) (hh := [(0, 13, 16, 19), (0, 13, 20, 21)]) (by exact pln_RL) rfl (Nat.le_of_ble_eq_true rfl) ?_
  intro p e R s m args below meth c ls hRf hRc hRs hRl htab hC hw hl
  have hinX4 : ∀ w ∈ wsX40, w ∈ wsL_merge := fun w h => (List.mem_cons_of_mem _ (List.mem_append_left _ (List.mem_append_left _ (List.mem_append_left _ (List.mem_append_left _ (List.mem_append_right _ h))))))
  have hl : lv_has ls 6 [(0, .ref h0), (1, .int (iN (p0))), (2, .int (iN (p1))), (3, .int (iN (p2))), (4, .ref o)] := hl
  refine lv_aload hC.1 hC.2.1 dL_merge_0 (lv_at hl 4 rfl) ?_
  refine lv_aload_n hC.1 hC.2.1 dL_merge_2 rfl (lv_at hl 0 rfl) ?_
  refine lv_iload_n hC.1 hC.2.1 dL_merge_3 rfl (lv_at hl 1 rfl) ?_
  refine lv_iload_n hC.1 hC.2.1 dL_merge_4 rfl (lv_at hl 2 rfl) ?_
  refine lv_iload_n hC.1 hC.2.1 dL_merge_5 rfl (lv_at hl 3 rfl) ?_
  refine x_callVX hC hw (lv_size hl) ((c_X3_merge l G hst hR hcb hN (p0 := p0) (by first | assumption | omega) (p1 := p1) (by first | assumption | omega) (p2 := p2) (by first | assumption | omega)).frame hd) gL_merge_X3_merge rfl dv_X3_merge (xU_l hR.1) rfl rfl (Nat.le_of_ble_eq_true rfl) (by rw [hRf]; decide) (by rw [hRl]; decide) (by first | (rw [hRc]; decide) | omega) (by first | (rw [hRs]; decide) | omega) dL_merge_6 (fun E ce q9 M1 H locs hqx hw hcell hcv hcls => ?_) (fun r9 M1 H locs hq hw => ?_)
  · obtain ⟨A1, ⟨hE, hG1⟩, hM1, hd1⟩ := hqx
    subst hM1
    rcases hE with ⟨rfl, hb9⟩ | ⟨rfl, hb9⟩
    · skip
      refine vx_catch (own := "RangeledgerLaw") (name := "java/lang/IndexOutOfBoundsException") hC.2.2.2.1 [] (⟨0, 13, 16, 19⟩ : ExceptionTableEntry) [(⟨0, 13, 20, 21⟩ : ExceptionTableEntry)] (by rw [htab]; rfl) (fun z hz => nomatch hz) (by decide) (by decide) (hC.2.2.2.2.1 _ (List.mem_cons_of_mem _ (List.mem_append_left _ (List.mem_append_left _ (List.mem_append_left _ (List.mem_append_left _ (List.mem_append_left _ (List.mem_append_left _ (List.mem_of_getElem? (i := 0) rfl))))))))) (va_Nw.use rfl (hC.2.2.2.2.2.2.2.2.1.2.2.2.1.1 ("java/lang/IndexOutOfBoundsException", "java/lang/IndexOutOfBoundsException") (by decide))) hcell hcv hcls ?_
      show W p l e R s m args below meth c H locs _ _ _ (F0 m 16 ls [.ref q9])
      refine lv_astore (lv' := [(5, .ref q9), (0, .ref h0), (1, .int (iN (p0))), (2, .int (iN (p1))), (3, .int (iN (p2))), (4, .ref o)]) hC.1 hC.2.1 dL_merge_16 hl (by decide) rfl (fun ls hl => ?_)
      refine x_const hC dL_merge_18 ?_
      exact vx_ret (x_iret hC hw dL_merge_19 (by first | decide | omega) (by first | decide | omega) ⟨1, rfl, _, _, _, rfl, hd1, Or.inr ⟨by omega, by omega, hG1⟩⟩)
    · skip
      refine vx_catch (own := "RangeledgerLaw") (name := "java/lang/IllegalArgumentException") hC.2.2.2.1 [(⟨0, 13, 16, 19⟩ : ExceptionTableEntry)] (⟨0, 13, 20, 21⟩ : ExceptionTableEntry) [] (by rw [htab]; rfl) (fun z hz => by simp only [List.mem_cons, List.not_mem_nil, or_false] at hz; subst hz; (· exact Or.inr ⟨by decide, "java/lang/IndexOutOfBoundsException", hC.2.2.2.2.1 _ (List.mem_cons_of_mem _ (List.mem_append_left _ (List.mem_append_left _ (List.mem_append_left _ (List.mem_append_left _ (List.mem_append_left _ (List.mem_append_left _ (List.mem_of_getElem? (i := 0) rfl)))))))), hC.2.2.2.2.2.2.2.2.1.2.2.2.2.1 ("java/lang/IllegalArgumentException", "java/lang/IndexOutOfBoundsException") (by decide)⟩)) (by decide) (by decide) (hC.2.2.2.2.1 _ (List.mem_cons_of_mem _ (List.mem_append_left _ (List.mem_append_left _ (List.mem_append_left _ (List.mem_append_left _ (List.mem_append_left _ (List.mem_append_left _ (List.mem_of_getElem? (i := 1) rfl))))))))) (va_Nw.use rfl (hC.2.2.2.2.2.2.2.2.1.2.2.2.1.1 ("java/lang/IllegalArgumentException", "java/lang/IllegalArgumentException") (by decide))) hcell hcv hcls ?_
      show W p l e R s m args below meth c H locs _ _ _ (F0 m 20 ls [.ref q9])
      refine lv_astore (lv' := [(5, .ref q9), (0, .ref h0), (1, .int (iN (p0))), (2, .int (iN (p1))), (3, .int (iN (p2))), (4, .ref o)]) hC.1 hC.2.1 dL_merge_20 hl (by decide) rfl (fun ls hl => ?_)
      refine x_const hC dL_merge_22 ?_
      exact vx_ret (x_iret hC hw dL_merge_23 (by first | decide | omega) (by first | decide | omega) ⟨2, rfl, _, _, _, rfl, hd1, Or.inr ⟨by omega, by omega, hG1⟩⟩)
  · obtain ⟨A1, ⟨z8, hr9, hz8, ho8, hA8, hG1⟩, hM1, hd1⟩ := hq
    subst hr9
    subst hM1
    show W p l e R s m args below meth c H locs _ _ _ (F0 m 9 ls [.int (iN (z8)), .ref o])
    refine lv_i2l hC.1 hC.2.1 dL_merge_9 rfl ?_
    refine lv_topl (fun d_1 hd_1 => ?_)
    refine x_putOn (fs2 := [.long (d_1), sv]) hC hw hinX4 (xU_b hd1 xO_s) (by simp) rfl dL_merge_10 (fun H locs hw => ?_)
    rw [xU_up hd1] at hw
    refine lv_goto (tgt := 24) hC.1 hC.2.1 dL_merge_13 (by decide) ?_
    refine x_const hC dL_merge_24 ?_
    exact vx_ret (x_iret hC hw dL_merge_25 (by first | decide | omega) (by first | decide | omega) ⟨0, rfl, _, _, _, rfl, xO_dis hd1, Or.inl ⟨by omega, ho8, ⟨z8, hd_1, by omega, hA8⟩, hG1⟩⟩)
set_option maxHeartbeats 4000000 in
set_option maxRecDepth 100000 in
theorem c_L_grow (l : Launch) (G : xG) (hst : l.stackTraces = false) {A : HM} {h0 o : Nat} {N : Int} {O : OW} {V : BW} {Wv : VW} {K : WA} {kp kv rfd : Int32} {d : Int64} {sv : Value} (hG : RG G A h0 N (O, V, Wv, K, kp, kv, rfd)) (hN : N ≤ 590) (hd : xDis A (xO o d sv)) {p0 : Int} (hp0 : -2147483648 ≤ p0 ∧ p0 ≤ 2147483647) {p1 : Int} (hp1 : -2147483648 ≤ p1 ∧ p1 ≤ 2147483647) : xMet l G yL_grow wsL_grow 9 156 2 12 [.ref h0, .int (iN (p0)), .int (iN (p1)), .ref o] (xU A (xO o d sv)) (fun r M1 => ∃ k9 : Int, r = some (.int (iN k9)) ∧ ∃ (A1 : HM) (d1 : Int64) (sv1 : Value), M1 = xU A1 (xO o d1 sv1) ∧ xDis A1 (xO o d1 sv1) ∧ ((k9 = 0 ∧ ((0 ≤ p0 ∧ p0 ≤ 2) ∧ (0 ≤ p1 ∧ p1 ≤ 99)) ∧ (∃ z : Int, d1 = (iN z).toInt64 ∧ (-2147483648 ≤ z ∧ z ≤ 2147483647) ∧ z = A_grow (O, V, Wv, K, kp, kv, rfd) p0 p1) ∧ RG G A1 h0 (N + 1) (S_grow (O, V, Wv, K, kp, kv, rfd) p0 p1)) ∨ (k9 ≠ 0 ∧ ((k9 = 1 ∧ ¬ (0 ≤ p0 ∧ p0 ≤ 2)) ∨ (k9 = 2 ∧ (0 ≤ p0 ∧ p0 ≤ 2) ∧ ¬ (0 ≤ p1 ∧ p1 ≤ 99))) ∧ RG G A1 h0 (N + 1) (O, V, Wv, K, kp, kv, rfd)))) := by
  obtain ⟨bs, vs, og, qb, qk, qv, fb, fv, T, C, K0, hR, hK, hcb⟩ := hG
  replace hK : K = abK T C K0 := hK
  subst hK
  replace hR : RGx G A h0 bs vs og kp kv rfd qb qk qv fb fv O O Wv V T C K0 := hR
  refine x_introW (cc := cL_grow) (maxL := 5) (ret := (some .int)) (hh := [(0, 11, 14, 19), (0, 11, 18, 21)]) (by exact pln_RL) rfl (Nat.le_of_ble_eq_true rfl) ?_
  intro p e R s m args below meth c ls hRf hRc hRs hRl htab hC hw hl
  have hinX4 : ∀ w ∈ wsX40, w ∈ wsL_grow := fun w h => (List.mem_cons_of_mem _ (List.mem_append_left _ (List.mem_append_left _ (List.mem_append_left _ (List.mem_append_left _ (List.mem_append_right _ h))))))
  have hl : lv_has ls 5 [(0, .ref h0), (1, .int (iN (p0))), (2, .int (iN (p1))), (3, .ref o)] := hl
  refine lv_aload_n hC.1 hC.2.1 dL_grow_0 rfl (lv_at hl 3 rfl) ?_
  refine lv_aload_n hC.1 hC.2.1 dL_grow_1 rfl (lv_at hl 0 rfl) ?_
  refine lv_iload_n hC.1 hC.2.1 dL_grow_2 rfl (lv_at hl 1 rfl) ?_
  refine lv_iload_n hC.1 hC.2.1 dL_grow_3 rfl (lv_at hl 2 rfl) ?_
  refine x_callVX hC hw (lv_size hl) ((c_X3_grow l G hst hR hcb hN (p0 := p0) (by first | assumption | omega) (p1 := p1) (by first | assumption | omega)).frame hd) gL_grow_X3_grow rfl dv_X3_grow (xU_l hR.1) rfl rfl (Nat.le_of_ble_eq_true rfl) (by rw [hRf]; decide) (by rw [hRl]; decide) (by first | (rw [hRc]; decide) | omega) (by first | (rw [hRs]; decide) | omega) dL_grow_4 (fun E ce q9 M1 H locs hqx hw hcell hcv hcls => ?_) (fun r9 M1 H locs hq hw => ?_)
  · obtain ⟨A1, ⟨hE, hG1⟩, hM1, hd1⟩ := hqx
    subst hM1
    rcases hE with ⟨rfl, hb9⟩ | ⟨rfl, hb9⟩
    · skip
      refine vx_catch (own := "RangeledgerLaw") (name := "java/lang/IndexOutOfBoundsException") hC.2.2.2.1 [] (⟨0, 11, 14, 19⟩ : ExceptionTableEntry) [(⟨0, 11, 18, 21⟩ : ExceptionTableEntry)] (by rw [htab]; rfl) (fun z hz => nomatch hz) (by decide) (by decide) (hC.2.2.2.2.1 _ (List.mem_cons_of_mem _ (List.mem_append_left _ (List.mem_append_left _ (List.mem_append_left _ (List.mem_append_left _ (List.mem_append_left _ (List.mem_append_left _ (List.mem_of_getElem? (i := 0) rfl))))))))) (va_Nw.use rfl (hC.2.2.2.2.2.2.2.2.1.2.2.2.1.1 ("java/lang/IndexOutOfBoundsException", "java/lang/IndexOutOfBoundsException") (by decide))) hcell hcv hcls ?_
      show W p l e R s m args below meth c H locs _ _ _ (F0 m 14 ls [.ref q9])
      refine lv_astore (lv' := [(4, .ref q9), (0, .ref h0), (1, .int (iN (p0))), (2, .int (iN (p1))), (3, .ref o)]) hC.1 hC.2.1 dL_grow_14 hl (by decide) rfl (fun ls hl => ?_)
      refine x_const hC dL_grow_16 ?_
      exact vx_ret (x_iret hC hw dL_grow_17 (by first | decide | omega) (by first | decide | omega) ⟨1, rfl, _, _, _, rfl, hd1, Or.inr ⟨by omega, by omega, hG1⟩⟩)
    · skip
      refine vx_catch (own := "RangeledgerLaw") (name := "java/lang/IllegalArgumentException") hC.2.2.2.1 [(⟨0, 11, 14, 19⟩ : ExceptionTableEntry)] (⟨0, 11, 18, 21⟩ : ExceptionTableEntry) [] (by rw [htab]; rfl) (fun z hz => by simp only [List.mem_cons, List.not_mem_nil, or_false] at hz; subst hz; (· exact Or.inr ⟨by decide, "java/lang/IndexOutOfBoundsException", hC.2.2.2.2.1 _ (List.mem_cons_of_mem _ (List.mem_append_left _ (List.mem_append_left _ (List.mem_append_left _ (List.mem_append_left _ (List.mem_append_left _ (List.mem_append_left _ (List.mem_of_getElem? (i := 0) rfl)))))))), hC.2.2.2.2.2.2.2.2.1.2.2.2.2.1 ("java/lang/IllegalArgumentException", "java/lang/IndexOutOfBoundsException") (by decide)⟩)) (by decide) (by decide) (hC.2.2.2.2.1 _ (List.mem_cons_of_mem _ (List.mem_append_left _ (List.mem_append_left _ (List.mem_append_left _ (List.mem_append_left _ (List.mem_append_left _ (List.mem_append_left _ (List.mem_of_getElem? (i := 1) rfl))))))))) (va_Nw.use rfl (hC.2.2.2.2.2.2.2.2.1.2.2.2.1.1 ("java/lang/IllegalArgumentException", "java/lang/IllegalArgumentException") (by decide))) hcell hcv hcls ?_
      show W p l e R s m args below meth c H locs _ _ _ (F0 m 18 ls [.ref q9])
      refine lv_astore (lv' := [(4, .ref q9), (0, .ref h0), (1, .int (iN (p0))), (2, .int (iN (p1))), (3, .ref o)]) hC.1 hC.2.1 dL_grow_18 hl (by decide) rfl (fun ls hl => ?_)
      refine x_const hC dL_grow_20 ?_
      exact vx_ret (x_iret hC hw dL_grow_21 (by first | decide | omega) (by first | decide | omega) ⟨2, rfl, _, _, _, rfl, hd1, Or.inr ⟨by omega, by omega, hG1⟩⟩)
  · obtain ⟨A1, ⟨z8, hr9, hz8, ho8, hA8, hG1⟩, hM1, hd1⟩ := hq
    subst hr9
    subst hM1
    show W p l e R s m args below meth c H locs _ _ _ (F0 m 7 ls [.int (iN (z8)), .ref o])
    refine lv_i2l hC.1 hC.2.1 dL_grow_7 rfl ?_
    refine lv_topl (fun d_1 hd_1 => ?_)
    refine x_putOn (fs2 := [.long (d_1), sv]) hC hw hinX4 (xU_b hd1 xO_s) (by simp) rfl dL_grow_8 (fun H locs hw => ?_)
    rw [xU_up hd1] at hw
    refine lv_goto (tgt := 22) hC.1 hC.2.1 dL_grow_11 (by decide) ?_
    refine x_const hC dL_grow_22 ?_
    exact vx_ret (x_iret hC hw dL_grow_23 (by first | decide | omega) (by first | decide | omega) ⟨0, rfl, _, _, _, rfl, xO_dis hd1, Or.inl ⟨by omega, ho8, ⟨z8, hd_1, by omega, hA8⟩, hG1⟩⟩)
set_option maxHeartbeats 4000000 in
set_option maxRecDepth 100000 in
theorem c_L_halve (l : Launch) (G : xG) (hst : l.stackTraces = false) {A : HM} {h0 o : Nat} {N : Int} {O : OW} {V : BW} {Wv : VW} {K : WA} {kp kv rfd : Int32} {d : Int64} {sv : Value} (hG : RG G A h0 N (O, V, Wv, K, kp, kv, rfd)) (hN : N ≤ 590) (hd : xDis A (xO o d sv)) {p0 : Int} (hp0 : -2147483648 ≤ p0 ∧ p0 ≤ 2147483647) {p1 : Int} (hp1 : -2147483648 ≤ p1 ∧ p1 ≤ 2147483647) : xMet l G yL_halve wsL_halve 9 158 2 12 [.ref h0, .int (iN (p0)), .int (iN (p1)), .ref o] (xU A (xO o d sv)) (fun r M1 => ∃ k9 : Int, r = some (.int (iN k9)) ∧ ∃ (A1 : HM) (d1 : Int64) (sv1 : Value), M1 = xU A1 (xO o d1 sv1) ∧ xDis A1 (xO o d1 sv1) ∧ ((k9 = 0 ∧ ((0 ≤ p0 ∧ p0 ≤ 2) ∧ (0 ≤ p1 ∧ p1 ≤ 99)) ∧ (∃ z : Int, d1 = (iN z).toInt64 ∧ (-2147483648 ≤ z ∧ z ≤ 2147483647) ∧ z = A_halve (O, V, Wv, K, kp, kv, rfd) p0 p1) ∧ RG G A1 h0 (N + 1) (S_halve (O, V, Wv, K, kp, kv, rfd) p0 p1)) ∨ (k9 ≠ 0 ∧ ((k9 = 1 ∧ ¬ (0 ≤ p0 ∧ p0 ≤ 2)) ∨ (k9 = 2 ∧ (0 ≤ p0 ∧ p0 ≤ 2) ∧ ¬ (0 ≤ p1 ∧ p1 ≤ 99))) ∧ RG G A1 h0 (N + 1) (O, V, Wv, K, kp, kv, rfd)))) := by
  obtain ⟨bs, vs, og, qb, qk, qv, fb, fv, T, C, K0, hR, hK, hcb⟩ := hG
  replace hK : K = abK T C K0 := hK
  subst hK
  replace hR : RGx G A h0 bs vs og kp kv rfd qb qk qv fb fv O O Wv V T C K0 := hR
  refine x_introW (cc := cL_halve) (maxL := 5) (ret := (some .int)) (hh := [(0, 11, 14, 19), (0, 11, 18, 21)]) (by exact pln_RL) rfl (Nat.le_of_ble_eq_true rfl) ?_
  intro p e R s m args below meth c ls hRf hRc hRs hRl htab hC hw hl
  have hinX4 : ∀ w ∈ wsX40, w ∈ wsL_halve := fun w h => (List.mem_cons_of_mem _ (List.mem_append_left _ (List.mem_append_left _ (List.mem_append_left _ (List.mem_append_left _ (List.mem_append_right _ h))))))
  have hl : lv_has ls 5 [(0, .ref h0), (1, .int (iN (p0))), (2, .int (iN (p1))), (3, .ref o)] := hl
  refine lv_aload_n hC.1 hC.2.1 dL_halve_0 rfl (lv_at hl 3 rfl) ?_
  refine lv_aload_n hC.1 hC.2.1 dL_halve_1 rfl (lv_at hl 0 rfl) ?_
  refine lv_iload_n hC.1 hC.2.1 dL_halve_2 rfl (lv_at hl 1 rfl) ?_
  refine lv_iload_n hC.1 hC.2.1 dL_halve_3 rfl (lv_at hl 2 rfl) ?_
  refine x_callVX hC hw (lv_size hl) ((c_X3_halve l G hst hR hcb hN (p0 := p0) (by first | assumption | omega) (p1 := p1) (by first | assumption | omega)).frame hd) gL_halve_X3_halve rfl dv_X3_halve (xU_l hR.1) rfl rfl (Nat.le_of_ble_eq_true rfl) (by rw [hRf]; decide) (by rw [hRl]; decide) (by first | (rw [hRc]; decide) | omega) (by first | (rw [hRs]; decide) | omega) dL_halve_4 (fun E ce q9 M1 H locs hqx hw hcell hcv hcls => ?_) (fun r9 M1 H locs hq hw => ?_)
  · obtain ⟨A1, ⟨hE, hG1⟩, hM1, hd1⟩ := hqx
    subst hM1
    rcases hE with ⟨rfl, hb9⟩ | ⟨rfl, hb9⟩
    · skip
      refine vx_catch (own := "RangeledgerLaw") (name := "java/lang/IndexOutOfBoundsException") hC.2.2.2.1 [] (⟨0, 11, 14, 19⟩ : ExceptionTableEntry) [(⟨0, 11, 18, 21⟩ : ExceptionTableEntry)] (by rw [htab]; rfl) (fun z hz => nomatch hz) (by decide) (by decide) (hC.2.2.2.2.1 _ (List.mem_cons_of_mem _ (List.mem_append_left _ (List.mem_append_left _ (List.mem_append_left _ (List.mem_append_left _ (List.mem_append_left _ (List.mem_append_left _ (List.mem_of_getElem? (i := 0) rfl))))))))) (va_Nw.use rfl (hC.2.2.2.2.2.2.2.2.1.2.2.2.1.1 ("java/lang/IndexOutOfBoundsException", "java/lang/IndexOutOfBoundsException") (by decide))) hcell hcv hcls ?_
      show W p l e R s m args below meth c H locs _ _ _ (F0 m 14 ls [.ref q9])
      refine lv_astore (lv' := [(4, .ref q9), (0, .ref h0), (1, .int (iN (p0))), (2, .int (iN (p1))), (3, .ref o)]) hC.1 hC.2.1 dL_halve_14 hl (by decide) rfl (fun ls hl => ?_)
      refine x_const hC dL_halve_16 ?_
      exact vx_ret (x_iret hC hw dL_halve_17 (by first | decide | omega) (by first | decide | omega) ⟨1, rfl, _, _, _, rfl, hd1, Or.inr ⟨by omega, by omega, hG1⟩⟩)
    · skip
      refine vx_catch (own := "RangeledgerLaw") (name := "java/lang/IllegalArgumentException") hC.2.2.2.1 [(⟨0, 11, 14, 19⟩ : ExceptionTableEntry)] (⟨0, 11, 18, 21⟩ : ExceptionTableEntry) [] (by rw [htab]; rfl) (fun z hz => by simp only [List.mem_cons, List.not_mem_nil, or_false] at hz; subst hz; (· exact Or.inr ⟨by decide, "java/lang/IndexOutOfBoundsException", hC.2.2.2.2.1 _ (List.mem_cons_of_mem _ (List.mem_append_left _ (List.mem_append_left _ (List.mem_append_left _ (List.mem_append_left _ (List.mem_append_left _ (List.mem_append_left _ (List.mem_of_getElem? (i := 0) rfl)))))))), hC.2.2.2.2.2.2.2.2.1.2.2.2.2.1 ("java/lang/IllegalArgumentException", "java/lang/IndexOutOfBoundsException") (by decide)⟩)) (by decide) (by decide) (hC.2.2.2.2.1 _ (List.mem_cons_of_mem _ (List.mem_append_left _ (List.mem_append_left _ (List.mem_append_left _ (List.mem_append_left _ (List.mem_append_left _ (List.mem_append_left _ (List.mem_of_getElem? (i := 1) rfl))))))))) (va_Nw.use rfl (hC.2.2.2.2.2.2.2.2.1.2.2.2.1.1 ("java/lang/IllegalArgumentException", "java/lang/IllegalArgumentException") (by decide))) hcell hcv hcls ?_
      show W p l e R s m args below meth c H locs _ _ _ (F0 m 18 ls [.ref q9])
      refine lv_astore (lv' := [(4, .ref q9), (0, .ref h0), (1, .int (iN (p0))), (2, .int (iN (p1))), (3, .ref o)]) hC.1 hC.2.1 dL_halve_18 hl (by decide) rfl (fun ls hl => ?_)
      refine x_const hC dL_halve_20 ?_
      exact vx_ret (x_iret hC hw dL_halve_21 (by first | decide | omega) (by first | decide | omega) ⟨2, rfl, _, _, _, rfl, hd1, Or.inr ⟨by omega, by omega, hG1⟩⟩)
  · obtain ⟨A1, ⟨z8, hr9, hz8, ho8, hA8, hG1⟩, hM1, hd1⟩ := hq
    subst hr9
    subst hM1
    show W p l e R s m args below meth c H locs _ _ _ (F0 m 7 ls [.int (iN (z8)), .ref o])
    refine lv_i2l hC.1 hC.2.1 dL_halve_7 rfl ?_
    refine lv_topl (fun d_1 hd_1 => ?_)
    refine x_putOn (fs2 := [.long (d_1), sv]) hC hw hinX4 (xU_b hd1 xO_s) (by simp) rfl dL_halve_8 (fun H locs hw => ?_)
    rw [xU_up hd1] at hw
    refine lv_goto (tgt := 22) hC.1 hC.2.1 dL_halve_11 (by decide) ?_
    refine x_const hC dL_halve_22 ?_
    exact vx_ret (x_iret hC hw dL_halve_23 (by first | decide | omega) (by first | decide | omega) ⟨0, rfl, _, _, _, rfl, xO_dis hd1, Or.inl ⟨by omega, ho8, ⟨z8, hd_1, by omega, hA8⟩, hG1⟩⟩)
set_option maxHeartbeats 4000000 in
set_option maxRecDepth 100000 in
theorem c_L_twice (l : Launch) (G : xG) (hst : l.stackTraces = false) {A : HM} {h0 o : Nat} {N : Int} {O : OW} {V : BW} {Wv : VW} {K : WA} {kp kv rfd : Int32} {d : Int64} {sv : Value} (hG : RG G A h0 N (O, V, Wv, K, kp, kv, rfd)) (hN : N ≤ 590) (hd : xDis A (xO o d sv)) {p0 : Int} (hp0 : -2147483648 ≤ p0 ∧ p0 ≤ 2147483647) {p1 : Int} (hp1 : -2147483648 ≤ p1 ∧ p1 ≤ 2147483647) : xMet l G yL_twice wsL_twice 9 156 2 12 [.ref h0, .int (iN (p0)), .int (iN (p1)), .ref o] (xU A (xO o d sv)) (fun r M1 => ∃ k9 : Int, r = some (.int (iN k9)) ∧ ∃ (A1 : HM) (d1 : Int64) (sv1 : Value), M1 = xU A1 (xO o d1 sv1) ∧ xDis A1 (xO o d1 sv1) ∧ ((k9 = 0 ∧ ((0 ≤ p0 ∧ p0 ≤ 2) ∧ (0 ≤ p1 ∧ p1 ≤ 99)) ∧ (∃ z : Int, d1 = (iN z).toInt64 ∧ (-2147483648 ≤ z ∧ z ≤ 2147483647) ∧ z = A_twice (O, V, Wv, K, kp, kv, rfd) p0 p1) ∧ RG G A1 h0 (N + 1) (S_twice (O, V, Wv, K, kp, kv, rfd) p0 p1)) ∨ (k9 ≠ 0 ∧ ((k9 = 1 ∧ ¬ (0 ≤ p0 ∧ p0 ≤ 2)) ∨ (k9 = 2 ∧ (0 ≤ p0 ∧ p0 ≤ 2) ∧ ¬ (0 ≤ p1 ∧ p1 ≤ 99))) ∧ RG G A1 h0 (N + 1) (O, V, Wv, K, kp, kv, rfd)))) := by
  obtain ⟨bs, vs, og, qb, qk, qv, fb, fv, T, C, K0, hR, hK, hcb⟩ := hG
  replace hK : K = abK T C K0 := hK
  subst hK
  replace hR : RGx G A h0 bs vs og kp kv rfd qb qk qv fb fv O O Wv V T C K0 := hR
  refine x_introW (cc := cL_twice) (maxL := 5) (ret := (some .int)) (hh := [(0, 11, 14, 19), (0, 11, 18, 21)]) (by exact pln_RL) rfl (Nat.le_of_ble_eq_true rfl) ?_
  intro p e R s m args below meth c ls hRf hRc hRs hRl htab hC hw hl
  have hinX4 : ∀ w ∈ wsX40, w ∈ wsL_twice := fun w h => (List.mem_cons_of_mem _ (List.mem_append_left _ (List.mem_append_left _ (List.mem_append_left _ (List.mem_append_left _ (List.mem_append_right _ h))))))
  have hl : lv_has ls 5 [(0, .ref h0), (1, .int (iN (p0))), (2, .int (iN (p1))), (3, .ref o)] := hl
  refine lv_aload_n hC.1 hC.2.1 dL_twice_0 rfl (lv_at hl 3 rfl) ?_
  refine lv_aload_n hC.1 hC.2.1 dL_twice_1 rfl (lv_at hl 0 rfl) ?_
  refine lv_iload_n hC.1 hC.2.1 dL_twice_2 rfl (lv_at hl 1 rfl) ?_
  refine lv_iload_n hC.1 hC.2.1 dL_twice_3 rfl (lv_at hl 2 rfl) ?_
  refine x_callVX hC hw (lv_size hl) ((c_X3_twice l G hst hR hcb hN (p0 := p0) (by first | assumption | omega) (p1 := p1) (by first | assumption | omega)).frame hd) gL_twice_X3_twice rfl dv_X3_twice (xU_l hR.1) rfl rfl (Nat.le_of_ble_eq_true rfl) (by rw [hRf]; decide) (by rw [hRl]; decide) (by first | (rw [hRc]; decide) | omega) (by first | (rw [hRs]; decide) | omega) dL_twice_4 (fun E ce q9 M1 H locs hqx hw hcell hcv hcls => ?_) (fun r9 M1 H locs hq hw => ?_)
  · obtain ⟨A1, ⟨hE, hG1⟩, hM1, hd1⟩ := hqx
    subst hM1
    rcases hE with ⟨rfl, hb9⟩ | ⟨rfl, hb9⟩
    · skip
      refine vx_catch (own := "RangeledgerLaw") (name := "java/lang/IndexOutOfBoundsException") hC.2.2.2.1 [] (⟨0, 11, 14, 19⟩ : ExceptionTableEntry) [(⟨0, 11, 18, 21⟩ : ExceptionTableEntry)] (by rw [htab]; rfl) (fun z hz => nomatch hz) (by decide) (by decide) (hC.2.2.2.2.1 _ (List.mem_cons_of_mem _ (List.mem_append_left _ (List.mem_append_left _ (List.mem_append_left _ (List.mem_append_left _ (List.mem_append_left _ (List.mem_append_left _ (List.mem_of_getElem? (i := 0) rfl))))))))) (va_Nw.use rfl (hC.2.2.2.2.2.2.2.2.1.2.2.2.1.1 ("java/lang/IndexOutOfBoundsException", "java/lang/IndexOutOfBoundsException") (by decide))) hcell hcv hcls ?_
      show W p l e R s m args below meth c H locs _ _ _ (F0 m 14 ls [.ref q9])
      refine lv_astore (lv' := [(4, .ref q9), (0, .ref h0), (1, .int (iN (p0))), (2, .int (iN (p1))), (3, .ref o)]) hC.1 hC.2.1 dL_twice_14 hl (by decide) rfl (fun ls hl => ?_)
      refine x_const hC dL_twice_16 ?_
      exact vx_ret (x_iret hC hw dL_twice_17 (by first | decide | omega) (by first | decide | omega) ⟨1, rfl, _, _, _, rfl, hd1, Or.inr ⟨by omega, by omega, hG1⟩⟩)
    · skip
      refine vx_catch (own := "RangeledgerLaw") (name := "java/lang/IllegalArgumentException") hC.2.2.2.1 [(⟨0, 11, 14, 19⟩ : ExceptionTableEntry)] (⟨0, 11, 18, 21⟩ : ExceptionTableEntry) [] (by rw [htab]; rfl) (fun z hz => by simp only [List.mem_cons, List.not_mem_nil, or_false] at hz; subst hz; (· exact Or.inr ⟨by decide, "java/lang/IndexOutOfBoundsException", hC.2.2.2.2.1 _ (List.mem_cons_of_mem _ (List.mem_append_left _ (List.mem_append_left _ (List.mem_append_left _ (List.mem_append_left _ (List.mem_append_left _ (List.mem_append_left _ (List.mem_of_getElem? (i := 0) rfl)))))))), hC.2.2.2.2.2.2.2.2.1.2.2.2.2.1 ("java/lang/IllegalArgumentException", "java/lang/IndexOutOfBoundsException") (by decide)⟩)) (by decide) (by decide) (hC.2.2.2.2.1 _ (List.mem_cons_of_mem _ (List.mem_append_left _ (List.mem_append_left _ (List.mem_append_left _ (List.mem_append_left _ (List.mem_append_left _ (List.mem_append_left _ (List.mem_of_getElem? (i := 1) rfl))))))))) (va_Nw.use rfl (hC.2.2.2.2.2.2.2.2.1.2.2.2.1.1 ("java/lang/IllegalArgumentException", "java/lang/IllegalArgumentException") (by decide))) hcell hcv hcls ?_
      show W p l e R s m args below meth c H locs _ _ _ (F0 m 18 ls [.ref q9])
      refine lv_astore (lv' := [(4, .ref q9), (0, .ref h0), (1, .int (iN (p0))), (2, .int (iN (p1))), (3, .ref o)]) hC.1 hC.2.1 dL_twice_18 hl (by decide) rfl (fun ls hl => ?_)
      refine x_const hC dL_twice_20 ?_
      exact vx_ret (x_iret hC hw dL_twice_21 (by first | decide | omega) (by first | decide | omega) ⟨2, rfl, _, _, _, rfl, hd1, Or.inr ⟨by omega, by omega, hG1⟩⟩)
  · obtain ⟨A1, ⟨z8, hr9, hz8, ho8, hA8, hG1⟩, hM1, hd1⟩ := hq
    subst hr9
    subst hM1
    show W p l e R s m args below meth c H locs _ _ _ (F0 m 7 ls [.int (iN (z8)), .ref o])
    refine lv_i2l hC.1 hC.2.1 dL_twice_7 rfl ?_
    refine lv_topl (fun d_1 hd_1 => ?_)
    refine x_putOn (fs2 := [.long (d_1), sv]) hC hw hinX4 (xU_b hd1 xO_s) (by simp) rfl dL_twice_8 (fun H locs hw => ?_)
    rw [xU_up hd1] at hw
    refine lv_goto (tgt := 22) hC.1 hC.2.1 dL_twice_11 (by decide) ?_
    refine x_const hC dL_twice_22 ?_
    exact vx_ret (x_iret hC hw dL_twice_23 (by first | decide | omega) (by first | decide | omega) ⟨0, rfl, _, _, _, rfl, xO_dis hd1, Or.inl ⟨by omega, ho8, ⟨z8, hd_1, by omega, hA8⟩, hG1⟩⟩)
set_option maxHeartbeats 4000000 in
set_option maxRecDepth 100000 in
theorem c_L_poll (l : Launch) (G : xG) (hst : l.stackTraces = false) {A : HM} {h0 o : Nat} {N : Int} {O : OW} {V : BW} {Wv : VW} {K : WA} {kp kv rfd : Int32} {d : Int64} {sv : Value} (hG : RG G A h0 N (O, V, Wv, K, kp, kv, rfd)) (hN : N ≤ 590) (hd : xDis A (xO o d sv)) {p0 : Int} (hp0 : -2147483648 ≤ p0 ∧ p0 ≤ 2147483647) {p1 : Int} (hp1 : -2147483648 ≤ p1 ∧ p1 ≤ 2147483647) (hb1 : p1 = 0 ∨ p1 = 1) : xMet l G yL_poll wsL_poll 8 134 1 6 [.ref h0, .int (iN (p0)), .int (iN (p1)), .ref o] (xU A (xO o d sv)) (fun r M1 => ∃ k9 : Int, r = some (.int (iN k9)) ∧ ∃ (A1 : HM) (d1 : Int64) (sv1 : Value), M1 = xU A1 (xO o d1 sv1) ∧ xDis A1 (xO o d1 sv1) ∧ ((k9 = 0 ∧ ((0 ≤ p0 ∧ p0 ≤ 2)) ∧ (∃ z : Int, d1 = (iN z).toInt64 ∧ (-2147483648 ≤ z ∧ z ≤ 2147483647) ∧ z = A_poll (O, V, Wv, K, kp, kv, rfd) p0 p1) ∧ RG G A1 h0 (N + 1) (S_poll (O, V, Wv, K, kp, kv, rfd) p0 p1)) ∨ (k9 ≠ 0 ∧ ((k9 = 1 ∧ ¬ (0 ≤ p0 ∧ p0 ≤ 2))) ∧ RG G A1 h0 (N + 1) (O, V, Wv, K, kp, kv, rfd)))) := by
  obtain ⟨bs, vs, og, qb, qk, qv, fb, fv, T, C, K0, hR, hK, hcb⟩ := hG
  replace hK : K = abK T C K0 := hK
  subst hK
  replace hR : RGx G A h0 bs vs og kp kv rfd qb qk qv fb fv O O Wv V T C K0 := hR
  refine x_introW (cc := cL_poll) (maxL := 5) (ret := (some .int)) (hh := [(0, 11, 14, 19)]) (by exact pln_RL) rfl (Nat.le_of_ble_eq_true rfl) ?_
  intro p e R s m args below meth c ls hRf hRc hRs hRl htab hC hw hl
  have hinX4 : ∀ w ∈ wsX40, w ∈ wsL_poll := fun w h => (List.mem_cons_of_mem _ (List.mem_append_left _ (List.mem_append_left _ (List.mem_append_left _ (List.mem_append_right _ h)))))
  have hl : lv_has ls 5 [(0, .ref h0), (1, .int (iN (p0))), (2, .int (iN (p1))), (3, .ref o)] := hl
  refine lv_aload_n hC.1 hC.2.1 dL_poll_0 rfl (lv_at hl 3 rfl) ?_
  refine lv_aload_n hC.1 hC.2.1 dL_poll_1 rfl (lv_at hl 0 rfl) ?_
  refine lv_iload_n hC.1 hC.2.1 dL_poll_2 rfl (lv_at hl 1 rfl) ?_
  refine lv_iload_n hC.1 hC.2.1 dL_poll_3 rfl (lv_at hl 2 rfl) ?_
  refine x_callVX hC hw (lv_size hl) ((c_X3_poll l G hst hR hcb hN (p0 := p0) (by first | assumption | omega) (p1 := p1) (by first | assumption | omega) (by omega)).frame hd) gL_poll_X3_poll rfl dv_X3_poll (xU_l hR.1) rfl rfl (Nat.le_of_ble_eq_true rfl) (by rw [hRf]; decide) (by rw [hRl]; decide) (by first | (rw [hRc]; decide) | omega) (by first | (rw [hRs]; decide) | omega) dL_poll_4 (fun E ce q9 M1 H locs hqx hw hcell hcv hcls => ?_) (fun r9 M1 H locs hq hw => ?_)
  · obtain ⟨A1, ⟨hE, hG1⟩, hM1, hd1⟩ := hqx
    subst hM1
    obtain ⟨rfl, hb9⟩ := hE
    refine vx_catch (own := "RangeledgerLaw") (name := "java/lang/IndexOutOfBoundsException") hC.2.2.2.1 [] (⟨0, 11, 14, 19⟩ : ExceptionTableEntry) [] (by rw [htab]; rfl) (fun z hz => nomatch hz) (by decide) (by decide) (hC.2.2.2.2.1 _ (List.mem_cons_of_mem _ (List.mem_append_left _ (List.mem_append_left _ (List.mem_append_left _ (List.mem_append_left _ (List.mem_append_left _ (List.mem_of_getElem? (i := 0) rfl)))))))) (va_Nw.use rfl (hC.2.2.2.2.2.2.2.2.1.2.2.2.1.1 ("java/lang/IndexOutOfBoundsException", "java/lang/IndexOutOfBoundsException") (by decide))) hcell hcv hcls ?_
    show W p l e R s m args below meth c H locs _ _ _ (F0 m 14 ls [.ref q9])
    refine lv_astore (lv' := [(4, .ref q9), (0, .ref h0), (1, .int (iN (p0))), (2, .int (iN (p1))), (3, .ref o)]) hC.1 hC.2.1 dL_poll_14 hl (by decide) rfl (fun ls hl => ?_)
    refine x_const hC dL_poll_16 ?_
    exact vx_ret (x_iret hC hw dL_poll_17 (by first | decide | omega) (by first | decide | omega) ⟨1, rfl, _, _, _, rfl, hd1, Or.inr ⟨by omega, by omega, hG1⟩⟩)
  · obtain ⟨A1, ⟨z8, hr9, hz8, ho8, hA8, hG1⟩, hM1, hd1⟩ := hq
    subst hr9
    subst hM1
    show W p l e R s m args below meth c H locs _ _ _ (F0 m 7 ls [.int (iN (z8)), .ref o])
    refine lv_i2l hC.1 hC.2.1 dL_poll_7 rfl ?_
    refine lv_topl (fun d_1 hd_1 => ?_)
    refine x_putOn (fs2 := [.long (d_1), sv]) hC hw hinX4 (xU_b hd1 xO_s) (by simp) rfl dL_poll_8 (fun H locs hw => ?_)
    rw [xU_up hd1] at hw
    refine lv_goto (tgt := 18) hC.1 hC.2.1 dL_poll_11 (by decide) ?_
    refine x_const hC dL_poll_18 ?_
    exact vx_ret (x_iret hC hw dL_poll_19 (by first | decide | omega) (by first | decide | omega) ⟨0, rfl, _, _, _, rfl, xO_dis hd1, Or.inl ⟨by omega, ho8, ⟨z8, hd_1, by omega, hA8⟩, hG1⟩⟩)
set_option maxHeartbeats 4000000 in
set_option maxRecDepth 100000 in
theorem c_L_raise (l : Launch) (G : xG) (hst : l.stackTraces = false) {A : HM} {h0 o : Nat} {N : Int} {O : OW} {V : BW} {Wv : VW} {K : WA} {kp kv rfd : Int32} {d : Int64} {sv : Value} (hG : RG G A h0 N (O, V, Wv, K, kp, kv, rfd)) (hN : N ≤ 590) (hd : xDis A (xO o d sv)) {p0 : Int} (hp0 : -2147483648 ≤ p0 ∧ p0 ≤ 2147483647) {p1 : Int} (hp1 : -2147483648 ≤ p1 ∧ p1 ≤ 2147483647) : xMet l G yL_raise wsL_raise 8 134 2 12 [.ref h0, .int (iN (p0)), .int (iN (p1)), .ref o] (xU A (xO o d sv)) (fun r M1 => ∃ k9 : Int, r = some (.int (iN k9)) ∧ ∃ (A1 : HM) (d1 : Int64) (sv1 : Value), M1 = xU A1 (xO o d1 sv1) ∧ xDis A1 (xO o d1 sv1) ∧ ((k9 = 0 ∧ ((0 ≤ p0 ∧ p0 ≤ 2) ∧ (-999 ≤ p1 ∧ p1 ≤ 999)) ∧ (∃ z : Int, d1 = (iN z).toInt64 ∧ (-2147483648 ≤ z ∧ z ≤ 2147483647) ∧ z = A_raise (O, V, Wv, K, kp, kv, rfd) p0 p1) ∧ RG G A1 h0 (N + 1) (S_raise (O, V, Wv, K, kp, kv, rfd) p0 p1)) ∨ (k9 ≠ 0 ∧ ((k9 = 1 ∧ ¬ (0 ≤ p0 ∧ p0 ≤ 2)) ∨ (k9 = 2 ∧ (0 ≤ p0 ∧ p0 ≤ 2) ∧ ¬ (-999 ≤ p1 ∧ p1 ≤ 999))) ∧ RG G A1 h0 (N + 1) (O, V, Wv, K, kp, kv, rfd)))) := by
  obtain ⟨bs, vs, og, qb, qk, qv, fb, fv, T, C, K0, hR, hK, hcb⟩ := hG
  replace hK : K = abK T C K0 := hK
  subst hK
  replace hR : RGx G A h0 bs vs og kp kv rfd qb qk qv fb fv O O Wv V T C K0 := hR
  refine x_introW (cc := cL_raise) (maxL := 5) (ret := (some .int)) (hh := [(0, 11, 14, 19), (0, 11, 18, 21)]) (by exact pln_RL) rfl (Nat.le_of_ble_eq_true rfl) ?_
  intro p e R s m args below meth c ls hRf hRc hRs hRl htab hC hw hl
  have hinX4 : ∀ w ∈ wsX40, w ∈ wsL_raise := fun w h => (List.mem_cons_of_mem _ (List.mem_append_left _ (List.mem_append_left _ (List.mem_append_left _ (List.mem_append_left _ (List.mem_append_right _ h))))))
  have hl : lv_has ls 5 [(0, .ref h0), (1, .int (iN (p0))), (2, .int (iN (p1))), (3, .ref o)] := hl
  refine lv_aload_n hC.1 hC.2.1 dL_raise_0 rfl (lv_at hl 3 rfl) ?_
  refine lv_aload_n hC.1 hC.2.1 dL_raise_1 rfl (lv_at hl 0 rfl) ?_
  refine lv_iload_n hC.1 hC.2.1 dL_raise_2 rfl (lv_at hl 1 rfl) ?_
  refine lv_iload_n hC.1 hC.2.1 dL_raise_3 rfl (lv_at hl 2 rfl) ?_
  refine x_callVX hC hw (lv_size hl) ((c_X3_raise l G hst hR hcb hN (p0 := p0) (by first | assumption | omega) (p1 := p1) (by first | assumption | omega)).frame hd) gL_raise_X3_raise rfl dv_X3_raise (xU_l hR.1) rfl rfl (Nat.le_of_ble_eq_true rfl) (by rw [hRf]; decide) (by rw [hRl]; decide) (by first | (rw [hRc]; decide) | omega) (by first | (rw [hRs]; decide) | omega) dL_raise_4 (fun E ce q9 M1 H locs hqx hw hcell hcv hcls => ?_) (fun r9 M1 H locs hq hw => ?_)
  · obtain ⟨A1, ⟨hE, hG1⟩, hM1, hd1⟩ := hqx
    subst hM1
    rcases hE with ⟨rfl, hb9⟩ | ⟨rfl, hb9⟩
    · skip
      refine vx_catch (own := "RangeledgerLaw") (name := "java/lang/IndexOutOfBoundsException") hC.2.2.2.1 [] (⟨0, 11, 14, 19⟩ : ExceptionTableEntry) [(⟨0, 11, 18, 21⟩ : ExceptionTableEntry)] (by rw [htab]; rfl) (fun z hz => nomatch hz) (by decide) (by decide) (hC.2.2.2.2.1 _ (List.mem_cons_of_mem _ (List.mem_append_left _ (List.mem_append_left _ (List.mem_append_left _ (List.mem_append_left _ (List.mem_append_left _ (List.mem_append_left _ (List.mem_of_getElem? (i := 0) rfl))))))))) (va_Nw.use rfl (hC.2.2.2.2.2.2.2.2.1.2.2.2.1.1 ("java/lang/IndexOutOfBoundsException", "java/lang/IndexOutOfBoundsException") (by decide))) hcell hcv hcls ?_
      show W p l e R s m args below meth c H locs _ _ _ (F0 m 14 ls [.ref q9])
      refine lv_astore (lv' := [(4, .ref q9), (0, .ref h0), (1, .int (iN (p0))), (2, .int (iN (p1))), (3, .ref o)]) hC.1 hC.2.1 dL_raise_14 hl (by decide) rfl (fun ls hl => ?_)
      refine x_const hC dL_raise_16 ?_
      exact vx_ret (x_iret hC hw dL_raise_17 (by first | decide | omega) (by first | decide | omega) ⟨1, rfl, _, _, _, rfl, hd1, Or.inr ⟨by omega, by omega, hG1⟩⟩)
    · skip
      refine vx_catch (own := "RangeledgerLaw") (name := "java/lang/IllegalArgumentException") hC.2.2.2.1 [(⟨0, 11, 14, 19⟩ : ExceptionTableEntry)] (⟨0, 11, 18, 21⟩ : ExceptionTableEntry) [] (by rw [htab]; rfl) (fun z hz => by simp only [List.mem_cons, List.not_mem_nil, or_false] at hz; subst hz; (· exact Or.inr ⟨by decide, "java/lang/IndexOutOfBoundsException", hC.2.2.2.2.1 _ (List.mem_cons_of_mem _ (List.mem_append_left _ (List.mem_append_left _ (List.mem_append_left _ (List.mem_append_left _ (List.mem_append_left _ (List.mem_append_left _ (List.mem_of_getElem? (i := 0) rfl)))))))), hC.2.2.2.2.2.2.2.2.1.2.2.2.2.1 ("java/lang/IllegalArgumentException", "java/lang/IndexOutOfBoundsException") (by decide)⟩)) (by decide) (by decide) (hC.2.2.2.2.1 _ (List.mem_cons_of_mem _ (List.mem_append_left _ (List.mem_append_left _ (List.mem_append_left _ (List.mem_append_left _ (List.mem_append_left _ (List.mem_append_left _ (List.mem_of_getElem? (i := 1) rfl))))))))) (va_Nw.use rfl (hC.2.2.2.2.2.2.2.2.1.2.2.2.1.1 ("java/lang/IllegalArgumentException", "java/lang/IllegalArgumentException") (by decide))) hcell hcv hcls ?_
      show W p l e R s m args below meth c H locs _ _ _ (F0 m 18 ls [.ref q9])
      refine lv_astore (lv' := [(4, .ref q9), (0, .ref h0), (1, .int (iN (p0))), (2, .int (iN (p1))), (3, .ref o)]) hC.1 hC.2.1 dL_raise_18 hl (by decide) rfl (fun ls hl => ?_)
      refine x_const hC dL_raise_20 ?_
      exact vx_ret (x_iret hC hw dL_raise_21 (by first | decide | omega) (by first | decide | omega) ⟨2, rfl, _, _, _, rfl, hd1, Or.inr ⟨by omega, by omega, hG1⟩⟩)
  · obtain ⟨A1, ⟨z8, hr9, hz8, ho8, hA8, hG1⟩, hM1, hd1⟩ := hq
    subst hr9
    subst hM1
    show W p l e R s m args below meth c H locs _ _ _ (F0 m 7 ls [.int (iN (z8)), .ref o])
    refine lv_i2l hC.1 hC.2.1 dL_raise_7 rfl ?_
    refine lv_topl (fun d_1 hd_1 => ?_)
    refine x_putOn (fs2 := [.long (d_1), sv]) hC hw hinX4 (xU_b hd1 xO_s) (by simp) rfl dL_raise_8 (fun H locs hw => ?_)
    rw [xU_up hd1] at hw
    refine lv_goto (tgt := 22) hC.1 hC.2.1 dL_raise_11 (by decide) ?_
    refine x_const hC dL_raise_22 ?_
    exact vx_ret (x_iret hC hw dL_raise_23 (by first | decide | omega) (by first | decide | omega) ⟨0, rfl, _, _, _, rfl, xO_dis hd1, Or.inl ⟨by omega, ho8, ⟨z8, hd_1, by omega, hA8⟩, hG1⟩⟩)
set_option maxHeartbeats 4000000 in
set_option maxRecDepth 100000 in
theorem c_L_sift (l : Launch) (G : xG) (hst : l.stackTraces = false) {A : HM} {h0 o : Nat} {N : Int} {O : OW} {V : BW} {Wv : VW} {K : WA} {kp kv rfd : Int32} {d : Int64} {sv : Value} (hG : RG G A h0 N (O, V, Wv, K, kp, kv, rfd)) (hN : N ≤ 590) (hd : xDis A (xO o d sv)) {p0 : Int} (hp0 : -2147483648 ≤ p0 ∧ p0 ≤ 2147483647) {p1 : Int} (hp1 : -2147483648 ≤ p1 ∧ p1 ≤ 2147483647) : xMet l G yL_sift wsL_sift 8 134 2 12 [.ref h0, .int (iN (p0)), .int (iN (p1)), .ref o] (xU A (xO o d sv)) (fun r M1 => ∃ k9 : Int, r = some (.int (iN k9)) ∧ ∃ (A1 : HM) (d1 : Int64) (sv1 : Value), M1 = xU A1 (xO o d1 sv1) ∧ xDis A1 (xO o d1 sv1) ∧ ((k9 = 0 ∧ ((0 ≤ p0 ∧ p0 ≤ 2) ∧ (2 ≤ p1 ∧ p1 ≤ 99)) ∧ (∃ z : Int, d1 = (iN z).toInt64 ∧ (-2147483648 ≤ z ∧ z ≤ 2147483647) ∧ z = A_sift (O, V, Wv, K, kp, kv, rfd) p0 p1) ∧ RG G A1 h0 (N + 1) (S_sift (O, V, Wv, K, kp, kv, rfd) p0 p1)) ∨ (k9 ≠ 0 ∧ ((k9 = 1 ∧ ¬ (0 ≤ p0 ∧ p0 ≤ 2)) ∨ (k9 = 2 ∧ (0 ≤ p0 ∧ p0 ≤ 2) ∧ ¬ (2 ≤ p1 ∧ p1 ≤ 99))) ∧ RG G A1 h0 (N + 1) (O, V, Wv, K, kp, kv, rfd)))) := by
  obtain ⟨bs, vs, og, qb, qk, qv, fb, fv, T, C, K0, hR, hK, hcb⟩ := hG
  replace hK : K = abK T C K0 := hK
  subst hK
  replace hR : RGx G A h0 bs vs og kp kv rfd qb qk qv fb fv O O Wv V T C K0 := hR
  refine x_introW (cc := cL_sift) (maxL := 5) (ret := (some .int)) (hh := [(0, 11, 14, 19), (0, 11, 18, 21)]) (by exact pln_RL) rfl (Nat.le_of_ble_eq_true rfl) ?_
  intro p e R s m args below meth c ls hRf hRc hRs hRl htab hC hw hl
  have hinX4 : ∀ w ∈ wsX40, w ∈ wsL_sift := fun w h => (List.mem_cons_of_mem _ (List.mem_append_left _ (List.mem_append_left _ (List.mem_append_left _ (List.mem_append_left _ (List.mem_append_right _ h))))))
  have hl : lv_has ls 5 [(0, .ref h0), (1, .int (iN (p0))), (2, .int (iN (p1))), (3, .ref o)] := hl
  refine lv_aload_n hC.1 hC.2.1 dL_sift_0 rfl (lv_at hl 3 rfl) ?_
  refine lv_aload_n hC.1 hC.2.1 dL_sift_1 rfl (lv_at hl 0 rfl) ?_
  refine lv_iload_n hC.1 hC.2.1 dL_sift_2 rfl (lv_at hl 1 rfl) ?_
  refine lv_iload_n hC.1 hC.2.1 dL_sift_3 rfl (lv_at hl 2 rfl) ?_
  refine x_callVX hC hw (lv_size hl) ((c_X3_sift l G hst hR hcb hN (p0 := p0) (by first | assumption | omega) (p1 := p1) (by first | assumption | omega)).frame hd) gL_sift_X3_sift rfl dv_X3_sift (xU_l hR.1) rfl rfl (Nat.le_of_ble_eq_true rfl) (by rw [hRf]; decide) (by rw [hRl]; decide) (by first | (rw [hRc]; decide) | omega) (by first | (rw [hRs]; decide) | omega) dL_sift_4 (fun E ce q9 M1 H locs hqx hw hcell hcv hcls => ?_) (fun r9 M1 H locs hq hw => ?_)
  · obtain ⟨A1, ⟨hE, hG1⟩, hM1, hd1⟩ := hqx
    subst hM1
    rcases hE with ⟨rfl, hb9⟩ | ⟨rfl, hb9⟩
    · skip
      refine vx_catch (own := "RangeledgerLaw") (name := "java/lang/IndexOutOfBoundsException") hC.2.2.2.1 [] (⟨0, 11, 14, 19⟩ : ExceptionTableEntry) [(⟨0, 11, 18, 21⟩ : ExceptionTableEntry)] (by rw [htab]; rfl) (fun z hz => nomatch hz) (by decide) (by decide) (hC.2.2.2.2.1 _ (List.mem_cons_of_mem _ (List.mem_append_left _ (List.mem_append_left _ (List.mem_append_left _ (List.mem_append_left _ (List.mem_append_left _ (List.mem_append_left _ (List.mem_of_getElem? (i := 0) rfl))))))))) (va_Nw.use rfl (hC.2.2.2.2.2.2.2.2.1.2.2.2.1.1 ("java/lang/IndexOutOfBoundsException", "java/lang/IndexOutOfBoundsException") (by decide))) hcell hcv hcls ?_
      show W p l e R s m args below meth c H locs _ _ _ (F0 m 14 ls [.ref q9])
      refine lv_astore (lv' := [(4, .ref q9), (0, .ref h0), (1, .int (iN (p0))), (2, .int (iN (p1))), (3, .ref o)]) hC.1 hC.2.1 dL_sift_14 hl (by decide) rfl (fun ls hl => ?_)
      refine x_const hC dL_sift_16 ?_
      exact vx_ret (x_iret hC hw dL_sift_17 (by first | decide | omega) (by first | decide | omega) ⟨1, rfl, _, _, _, rfl, hd1, Or.inr ⟨by omega, by omega, hG1⟩⟩)
    · skip
      refine vx_catch (own := "RangeledgerLaw") (name := "java/lang/IllegalArgumentException") hC.2.2.2.1 [(⟨0, 11, 14, 19⟩ : ExceptionTableEntry)] (⟨0, 11, 18, 21⟩ : ExceptionTableEntry) [] (by rw [htab]; rfl) (fun z hz => by simp only [List.mem_cons, List.not_mem_nil, or_false] at hz; subst hz; (· exact Or.inr ⟨by decide, "java/lang/IndexOutOfBoundsException", hC.2.2.2.2.1 _ (List.mem_cons_of_mem _ (List.mem_append_left _ (List.mem_append_left _ (List.mem_append_left _ (List.mem_append_left _ (List.mem_append_left _ (List.mem_append_left _ (List.mem_of_getElem? (i := 0) rfl)))))))), hC.2.2.2.2.2.2.2.2.1.2.2.2.2.1 ("java/lang/IllegalArgumentException", "java/lang/IndexOutOfBoundsException") (by decide)⟩)) (by decide) (by decide) (hC.2.2.2.2.1 _ (List.mem_cons_of_mem _ (List.mem_append_left _ (List.mem_append_left _ (List.mem_append_left _ (List.mem_append_left _ (List.mem_append_left _ (List.mem_append_left _ (List.mem_of_getElem? (i := 1) rfl))))))))) (va_Nw.use rfl (hC.2.2.2.2.2.2.2.2.1.2.2.2.1.1 ("java/lang/IllegalArgumentException", "java/lang/IllegalArgumentException") (by decide))) hcell hcv hcls ?_
      show W p l e R s m args below meth c H locs _ _ _ (F0 m 18 ls [.ref q9])
      refine lv_astore (lv' := [(4, .ref q9), (0, .ref h0), (1, .int (iN (p0))), (2, .int (iN (p1))), (3, .ref o)]) hC.1 hC.2.1 dL_sift_18 hl (by decide) rfl (fun ls hl => ?_)
      refine x_const hC dL_sift_20 ?_
      exact vx_ret (x_iret hC hw dL_sift_21 (by first | decide | omega) (by first | decide | omega) ⟨2, rfl, _, _, _, rfl, hd1, Or.inr ⟨by omega, by omega, hG1⟩⟩)
  · obtain ⟨A1, ⟨z8, hr9, hz8, ho8, hA8, hG1⟩, hM1, hd1⟩ := hq
    subst hr9
    subst hM1
    show W p l e R s m args below meth c H locs _ _ _ (F0 m 7 ls [.int (iN (z8)), .ref o])
    refine lv_i2l hC.1 hC.2.1 dL_sift_7 rfl ?_
    refine lv_topl (fun d_1 hd_1 => ?_)
    refine x_putOn (fs2 := [.long (d_1), sv]) hC hw hinX4 (xU_b hd1 xO_s) (by simp) rfl dL_sift_8 (fun H locs hw => ?_)
    rw [xU_up hd1] at hw
    refine lv_goto (tgt := 22) hC.1 hC.2.1 dL_sift_11 (by decide) ?_
    refine x_const hC dL_sift_22 ?_
    exact vx_ret (x_iret hC hw dL_sift_23 (by first | decide | omega) (by first | decide | omega) ⟨0, rfl, _, _, _, rfl, xO_dis hd1, Or.inl ⟨by omega, ho8, ⟨z8, hd_1, by omega, hA8⟩, hG1⟩⟩)
set_option maxHeartbeats 4000000 in
set_option maxRecDepth 100000 in
theorem c_L_strikeValue (l : Launch) (G : xG) (hst : l.stackTraces = false) {A : HM} {h0 o : Nat} {N : Int} {O : OW} {V : BW} {Wv : VW} {K : WA} {kp kv rfd : Int32} {d : Int64} {sv : Value} (hG : RG G A h0 N (O, V, Wv, K, kp, kv, rfd)) (hN : N ≤ 590) (hd : xDis A (xO o d sv)) {p0 : Int} (hp0 : -2147483648 ≤ p0 ∧ p0 ≤ 2147483647) {p1 : Int} (hp1 : -2147483648 ≤ p1 ∧ p1 ≤ 2147483647) : xMet l G yL_strikeValue wsL_strikeValue 8 135 3 18 [.ref h0, .int (iN (p0)), .int (iN (p1)), .ref o] (xU A (xO o d sv)) (fun r M1 => ∃ k9 : Int, r = some (.int (iN k9)) ∧ ∃ (A1 : HM) (d1 : Int64) (sv1 : Value), M1 = xU A1 (xO o d1 sv1) ∧ xDis A1 (xO o d1 sv1) ∧ ((k9 = 0 ∧ ((0 ≤ p0 ∧ p0 ≤ 2) ∧ (-9999 ≤ p1 ∧ p1 ≤ 9999) ∧ (cvN (V p0.toNat) p1 100 ≤ 1)) ∧ (∃ z : Int, d1 = (iN z).toInt64 ∧ (-2147483648 ≤ z ∧ z ≤ 2147483647) ∧ z = A_strikeValue (O, V, Wv, K, kp, kv, rfd) p0 p1) ∧ RG G A1 h0 (N + 1) (S_strikeValue (O, V, Wv, K, kp, kv, rfd) p0 p1)) ∨ (k9 ≠ 0 ∧ ((k9 = 1 ∧ ¬ (0 ≤ p0 ∧ p0 ≤ 2)) ∨ (k9 = 2 ∧ (0 ≤ p0 ∧ p0 ≤ 2) ∧ ¬ (-9999 ≤ p1 ∧ p1 ≤ 9999)) ∨ (k9 = 3 ∧ (0 ≤ p0 ∧ p0 ≤ 2) ∧ (-9999 ≤ p1 ∧ p1 ≤ 9999) ∧ ¬ (cvN (V p0.toNat) p1 100 ≤ 1))) ∧ RG G A1 h0 (N + 1) (O, V, Wv, K, kp, kv, rfd)))) := by
  obtain ⟨bs, vs, og, qb, qk, qv, fb, fv, T, C, K0, hR, hK, hcb⟩ := hG
  replace hK : K = abK T C K0 := hK
  subst hK
  replace hR : RGx G A h0 bs vs og kp kv rfd qb qk qv fb fv O O Wv V T C K0 := hR
  refine x_introW (cc := cL_strikeValue) (maxL := 5) (ret := (some .int)) (hh := [(0, 18, 21, 19), (0, 18, 25, 21), (0, 18, 29, 67)]) (by exact pln_RL) rfl (Nat.le_of_ble_eq_true rfl) ?_
  intro p e R s m args below meth c ls hRf hRc hRs hRl htab hC hw hl
  have hinX4 : ∀ w ∈ wsX40, w ∈ wsL_strikeValue := fun w h => (List.mem_cons_of_mem _ (List.mem_append_left _ (List.mem_append_left _ (List.mem_append_left _ (List.mem_append_left _ (List.mem_append_left _ (List.mem_append_right _ h)))))))
  have hl : lv_has ls 5 [(0, .ref h0), (1, .int (iN (p0))), (2, .int (iN (p1))), (3, .ref o)] := hl
  refine lv_aload_n hC.1 hC.2.1 dL_strikeValue_0 rfl (lv_at hl 3 rfl) ?_
  refine lv_aload_n hC.1 hC.2.1 dL_strikeValue_1 rfl (lv_at hl 0 rfl) ?_
  refine lv_iload_n hC.1 hC.2.1 dL_strikeValue_2 rfl (lv_at hl 1 rfl) ?_
  refine lv_iload_n hC.1 hC.2.1 dL_strikeValue_3 rfl (lv_at hl 2 rfl) ?_
  refine x_callVX hC hw (lv_size hl) ((c_X3_strikeValue l G hst hR hcb hN (p0 := p0) (by first | assumption | omega) (p1 := p1) (by first | assumption | omega)).frame hd) gL_strikeValue_X3_strikeValue rfl dv_X3_strikeValue (xU_l hR.1) rfl rfl (Nat.le_of_ble_eq_true rfl) (by rw [hRf]; decide) (by rw [hRl]; decide) (by first | (rw [hRc]; decide) | omega) (by first | (rw [hRs]; decide) | omega) dL_strikeValue_4 (fun E ce q9 M1 H locs hqx hw hcell hcv hcls => ?_) (fun r9 M1 H locs hq hw => ?_)
  · obtain ⟨A1, ⟨hE, hG1⟩, hM1, hd1⟩ := hqx
    subst hM1
    rcases hE with ⟨rfl, hb9⟩ | ⟨rfl, hb9⟩ | ⟨rfl, hb9⟩
    · skip
      refine vx_catch (own := "RangeledgerLaw") (name := "java/lang/IndexOutOfBoundsException") hC.2.2.2.1 [] (⟨0, 18, 21, 19⟩ : ExceptionTableEntry) [(⟨0, 18, 25, 21⟩ : ExceptionTableEntry), (⟨0, 18, 29, 67⟩ : ExceptionTableEntry)] (by rw [htab]; rfl) (fun z hz => nomatch hz) (by decide) (by decide) (hC.2.2.2.2.1 _ (List.mem_cons_of_mem _ (List.mem_append_left _ (List.mem_append_left _ (List.mem_append_left _ (List.mem_append_left _ (List.mem_append_left _ (List.mem_append_left _ (List.mem_append_left _ (List.mem_of_getElem? (i := 0) rfl)))))))))) (va_Nw.use rfl (hC.2.2.2.2.2.2.2.2.1.2.2.2.1.1 ("java/lang/IndexOutOfBoundsException", "java/lang/IndexOutOfBoundsException") (by decide))) hcell hcv hcls ?_
      show W p l e R s m args below meth c H locs _ _ _ (F0 m 21 ls [.ref q9])
      refine lv_astore (lv' := [(4, .ref q9), (0, .ref h0), (1, .int (iN (p0))), (2, .int (iN (p1))), (3, .ref o)]) hC.1 hC.2.1 dL_strikeValue_21 hl (by decide) rfl (fun ls hl => ?_)
      refine x_const hC dL_strikeValue_23 ?_
      exact vx_ret (x_iret hC hw dL_strikeValue_24 (by first | decide | omega) (by first | decide | omega) ⟨1, rfl, _, _, _, rfl, hd1, Or.inr ⟨by omega, by omega, hG1⟩⟩)
    · skip
      refine vx_catch (own := "RangeledgerLaw") (name := "java/lang/IllegalArgumentException") hC.2.2.2.1 [(⟨0, 18, 21, 19⟩ : ExceptionTableEntry)] (⟨0, 18, 25, 21⟩ : ExceptionTableEntry) [(⟨0, 18, 29, 67⟩ : ExceptionTableEntry)] (by rw [htab]; rfl) (fun z hz => by simp only [List.mem_cons, List.not_mem_nil, or_false] at hz; subst hz; (· exact Or.inr ⟨by decide, "java/lang/IndexOutOfBoundsException", hC.2.2.2.2.1 _ (List.mem_cons_of_mem _ (List.mem_append_left _ (List.mem_append_left _ (List.mem_append_left _ (List.mem_append_left _ (List.mem_append_left _ (List.mem_append_left _ (List.mem_append_left _ (List.mem_of_getElem? (i := 0) rfl))))))))), hC.2.2.2.2.2.2.2.2.1.2.2.2.2.1 ("java/lang/IllegalArgumentException", "java/lang/IndexOutOfBoundsException") (by decide)⟩)) (by decide) (by decide) (hC.2.2.2.2.1 _ (List.mem_cons_of_mem _ (List.mem_append_left _ (List.mem_append_left _ (List.mem_append_left _ (List.mem_append_left _ (List.mem_append_left _ (List.mem_append_left _ (List.mem_append_left _ (List.mem_of_getElem? (i := 1) rfl)))))))))) (va_Nw.use rfl (hC.2.2.2.2.2.2.2.2.1.2.2.2.1.1 ("java/lang/IllegalArgumentException", "java/lang/IllegalArgumentException") (by decide))) hcell hcv hcls ?_
      show W p l e R s m args below meth c H locs _ _ _ (F0 m 25 ls [.ref q9])
      refine lv_astore (lv' := [(4, .ref q9), (0, .ref h0), (1, .int (iN (p0))), (2, .int (iN (p1))), (3, .ref o)]) hC.1 hC.2.1 dL_strikeValue_25 hl (by decide) rfl (fun ls hl => ?_)
      refine x_const hC dL_strikeValue_27 ?_
      exact vx_ret (x_iret hC hw dL_strikeValue_28 (by first | decide | omega) (by first | decide | omega) ⟨2, rfl, _, _, _, rfl, hd1, Or.inr ⟨by omega, by omega, hG1⟩⟩)
    · skip
      refine vx_catch (own := "RangeledgerLaw") (name := "java/lang/IllegalStateException") hC.2.2.2.1 [(⟨0, 18, 21, 19⟩ : ExceptionTableEntry), (⟨0, 18, 25, 21⟩ : ExceptionTableEntry)] (⟨0, 18, 29, 67⟩ : ExceptionTableEntry) [] (by rw [htab]; rfl) (fun z hz => by simp only [List.mem_cons, List.not_mem_nil, or_false] at hz; rcases hz with rfl | rfl; (· exact Or.inr ⟨by decide, "java/lang/IndexOutOfBoundsException", hC.2.2.2.2.1 _ (List.mem_cons_of_mem _ (List.mem_append_left _ (List.mem_append_left _ (List.mem_append_left _ (List.mem_append_left _ (List.mem_append_left _ (List.mem_append_left _ (List.mem_append_left _ (List.mem_of_getElem? (i := 0) rfl))))))))), hC.2.2.2.2.2.2.2.2.1.2.2.2.2.1 ("java/lang/IllegalStateException", "java/lang/IndexOutOfBoundsException") (by decide)⟩); (· exact Or.inr ⟨by decide, "java/lang/IllegalArgumentException", hC.2.2.2.2.1 _ (List.mem_cons_of_mem _ (List.mem_append_left _ (List.mem_append_left _ (List.mem_append_left _ (List.mem_append_left _ (List.mem_append_left _ (List.mem_append_left _ (List.mem_append_left _ (List.mem_of_getElem? (i := 1) rfl))))))))), hC.2.2.2.2.2.2.2.2.1.2.2.2.2.1 ("java/lang/IllegalStateException", "java/lang/IllegalArgumentException") (by decide)⟩)) (by decide) (by decide) (hC.2.2.2.2.1 _ (List.mem_cons_of_mem _ (List.mem_append_left _ (List.mem_append_left _ (List.mem_append_left _ (List.mem_append_left _ (List.mem_append_left _ (List.mem_append_left _ (List.mem_append_left _ (List.mem_of_getElem? (i := 2) rfl)))))))))) (va_Nw.use rfl (hC.2.2.2.2.2.2.2.2.1.2.2.2.1.1 ("java/lang/IllegalStateException", "java/lang/IllegalStateException") (by decide))) hcell hcv hcls ?_
      show W p l e R s m args below meth c H locs _ _ _ (F0 m 29 ls [.ref q9])
      refine lv_astore (lv' := [(4, .ref q9), (0, .ref h0), (1, .int (iN (p0))), (2, .int (iN (p1))), (3, .ref o)]) hC.1 hC.2.1 dL_strikeValue_29 hl (by decide) rfl (fun ls hl => ?_)
      refine x_const hC dL_strikeValue_31 ?_
      exact vx_ret (x_iret hC hw dL_strikeValue_32 (by first | decide | omega) (by first | decide | omega) ⟨3, rfl, _, _, _, rfl, hd1, Or.inr ⟨by omega, by omega, hG1⟩⟩)
  · obtain ⟨A1, ⟨z8, hr9, hz8, ho8, hA8, hG1⟩, hM1, hd1⟩ := hq
    subst hr9
    subst hM1
    show W p l e R s m args below meth c H locs _ _ _ (F0 m 7 ls [.int (iN (z8)), .ref o])
    refine x_if_eq (tgt := 14) hC ⟨by omega, by omega⟩ dL_strikeValue_7 (by decide) (fun c_1 => ?_) (fun c_1 => ?_)
    · refine lv_lconst (v := 0) hC.1 hC.2.1 dL_strikeValue_14 rfl ?_
      refine x_putOn (fs2 := [.long (0), sv]) hC hw hinX4 (xU_b hd1 xO_s) (by simp) rfl dL_strikeValue_15 (fun H locs hw => ?_)
      rw [xU_up hd1] at hw
      refine lv_goto (tgt := 33) hC.1 hC.2.1 dL_strikeValue_18 (by decide) ?_
      refine x_const hC dL_strikeValue_33 ?_
      exact vx_ret (x_iret hC hw dL_strikeValue_34 (by first | decide | omega) (by first | decide | omega) ⟨0, rfl, _, _, _, rfl, xO_dis hd1, Or.inl ⟨by omega, ho8, ⟨z8, by rw [show z8 = 0 by omega]; rfl, by omega, hA8⟩, hG1⟩⟩)
    · refine lv_lconst (v := 1) hC.1 hC.2.1 dL_strikeValue_10 rfl ?_
      refine lv_goto (tgt := 15) hC.1 hC.2.1 dL_strikeValue_11 (by decide) ?_
      refine x_putOn (fs2 := [.long (1), sv]) hC hw hinX4 (xU_b hd1 xO_s) (by simp) rfl dL_strikeValue_15 (fun H locs hw => ?_)
      rw [xU_up hd1] at hw
      refine lv_goto (tgt := 33) hC.1 hC.2.1 dL_strikeValue_18 (by decide) ?_
      refine x_const hC dL_strikeValue_33 ?_
      exact vx_ret (x_iret hC hw dL_strikeValue_34 (by first | decide | omega) (by first | decide | omega) ⟨0, rfl, _, _, _, rfl, xO_dis hd1, Or.inl ⟨by omega, ho8, ⟨z8, by rw [show z8 = 1 by omega]; rfl, by omega, hA8⟩, hG1⟩⟩)
set_option maxHeartbeats 4000000 in
set_option maxRecDepth 100000 in
theorem c_L_clear (l : Launch) (G : xG) (hst : l.stackTraces = false) {A : HM} {h0 o : Nat} {N : Int} {O : OW} {V : BW} {Wv : VW} {K : WA} {kp kv rfd : Int32} {d : Int64} {sv : Value} (hG : RG G A h0 N (O, V, Wv, K, kp, kv, rfd)) (hN : N ≤ 590) (hd : xDis A (xO o d sv)) {p0 : Int} (hp0 : -2147483648 ≤ p0 ∧ p0 ≤ 2147483647) : xMet l G yL_clear wsL_clear 8 133 1 6 [.ref h0, .int (iN (p0)), .ref o] (xU A (xO o d sv)) (fun r M1 => ∃ k9 : Int, r = some (.int (iN k9)) ∧ ∃ (A1 : HM) (d1 : Int64) (sv1 : Value), M1 = xU A1 (xO o d1 sv1) ∧ xDis A1 (xO o d1 sv1) ∧ ((k9 = 0 ∧ ((0 ≤ p0 ∧ p0 ≤ 2)) ∧ (∃ z : Int, d1 = (iN z).toInt64 ∧ (-2147483648 ≤ z ∧ z ≤ 2147483647) ∧ z = A_clear (O, V, Wv, K, kp, kv, rfd) p0) ∧ RG G A1 h0 (N + 1) (S_clear (O, V, Wv, K, kp, kv, rfd) p0)) ∨ (k9 ≠ 0 ∧ ((k9 = 1 ∧ ¬ (0 ≤ p0 ∧ p0 ≤ 2))) ∧ RG G A1 h0 (N + 1) (O, V, Wv, K, kp, kv, rfd)))) := by
  obtain ⟨bs, vs, og, qb, qk, qv, fb, fv, T, C, K0, hR, hK, hcb⟩ := hG
  replace hK : K = abK T C K0 := hK
  subst hK
  replace hR : RGx G A h0 bs vs og kp kv rfd qb qk qv fb fv O O Wv V T C K0 := hR
  refine x_introW (cc := cL_clear) (maxL := 4) (ret := (some .int)) (hh := [(0, 10, 13, 19)]) (by exact pln_RL) rfl (Nat.le_of_ble_eq_true rfl) ?_
  intro p e R s m args below meth c ls hRf hRc hRs hRl htab hC hw hl
  have hinX4 : ∀ w ∈ wsX40, w ∈ wsL_clear := fun w h => (List.mem_cons_of_mem _ (List.mem_append_left _ (List.mem_append_left _ (List.mem_append_left _ (List.mem_append_right _ h)))))
  have hl : lv_has ls 4 [(0, .ref h0), (1, .int (iN (p0))), (2, .ref o)] := hl
  refine lv_aload_n hC.1 hC.2.1 dL_clear_0 rfl (lv_at hl 2 rfl) ?_
  refine lv_aload_n hC.1 hC.2.1 dL_clear_1 rfl (lv_at hl 0 rfl) ?_
  refine lv_iload_n hC.1 hC.2.1 dL_clear_2 rfl (lv_at hl 1 rfl) ?_
  refine x_callVX hC hw (lv_size hl) ((c_X3_clear l G hst hR hcb hN (p0 := p0) (by first | assumption | omega)).frame hd) gL_clear_X3_clear rfl dv_X3_clear (xU_l hR.1) rfl rfl (Nat.le_of_ble_eq_true rfl) (by rw [hRf]; decide) (by rw [hRl]; decide) (by first | (rw [hRc]; decide) | omega) (by first | (rw [hRs]; decide) | omega) dL_clear_3 (fun E ce q9 M1 H locs hqx hw hcell hcv hcls => ?_) (fun r9 M1 H locs hq hw => ?_)
  · obtain ⟨A1, ⟨hE, hG1⟩, hM1, hd1⟩ := hqx
    subst hM1
    obtain ⟨rfl, hb9⟩ := hE
    refine vx_catch (own := "RangeledgerLaw") (name := "java/lang/IndexOutOfBoundsException") hC.2.2.2.1 [] (⟨0, 10, 13, 19⟩ : ExceptionTableEntry) [] (by rw [htab]; rfl) (fun z hz => nomatch hz) (by decide) (by decide) (hC.2.2.2.2.1 _ (List.mem_cons_of_mem _ (List.mem_append_left _ (List.mem_append_left _ (List.mem_append_left _ (List.mem_append_left _ (List.mem_append_left _ (List.mem_of_getElem? (i := 0) rfl)))))))) (va_Nw.use rfl (hC.2.2.2.2.2.2.2.2.1.2.2.2.1.1 ("java/lang/IndexOutOfBoundsException", "java/lang/IndexOutOfBoundsException") (by decide))) hcell hcv hcls ?_
    show W p l e R s m args below meth c H locs _ _ _ (F0 m 13 ls [.ref q9])
    refine lv_astore_n (lv' := [(3, .ref q9), (0, .ref h0), (1, .int (iN (p0))), (2, .ref o)]) hC.1 hC.2.1 dL_clear_13 rfl hl (by decide) rfl (fun ls hl => ?_)
    refine x_const hC dL_clear_14 ?_
    exact vx_ret (x_iret hC hw dL_clear_15 (by first | decide | omega) (by first | decide | omega) ⟨1, rfl, _, _, _, rfl, hd1, Or.inr ⟨by omega, by omega, hG1⟩⟩)
  · obtain ⟨A1, ⟨z8, hr9, hz8, ho8, hA8, hG1⟩, hM1, hd1⟩ := hq
    subst hr9
    subst hM1
    show W p l e R s m args below meth c H locs _ _ _ (F0 m 6 ls [.int (iN (z8)), .ref o])
    refine lv_i2l hC.1 hC.2.1 dL_clear_6 rfl ?_
    refine lv_topl (fun d_1 hd_1 => ?_)
    refine x_putOn (fs2 := [.long (d_1), sv]) hC hw hinX4 (xU_b hd1 xO_s) (by simp) rfl dL_clear_7 (fun H locs hw => ?_)
    rw [xU_up hd1] at hw
    refine lv_goto (tgt := 16) hC.1 hC.2.1 dL_clear_10 (by decide) ?_
    refine x_const hC dL_clear_16 ?_
    exact vx_ret (x_iret hC hw dL_clear_17 (by first | decide | omega) (by first | decide | omega) ⟨0, rfl, _, _, _, rfl, xO_dis hd1, Or.inl ⟨by omega, ho8, ⟨z8, hd_1, by omega, hA8⟩, hG1⟩⟩)
set_option maxHeartbeats 4000000 in
set_option maxRecDepth 100000 in
theorem c_L_pour (l : Launch) (G : xG) (hst : l.stackTraces = false) {A : HM} {h0 o : Nat} {N : Int} {O : OW} {V : BW} {Wv : VW} {K : WA} {kp kv rfd : Int32} {d : Int64} {sv : Value} (hG : RG G A h0 N (O, V, Wv, K, kp, kv, rfd)) (hN : N ≤ 590) (hd : xDis A (xO o d sv)) {p0 : Int} (hp0 : -2147483648 ≤ p0 ∧ p0 ≤ 2147483647) {p1 : Int} (hp1 : -2147483648 ≤ p1 ∧ p1 ≤ 2147483647) : xMet l G yL_pour wsL_pour 8 139 3 18 [.ref h0, .int (iN (p0)), .int (iN (p1)), .ref o] (xU A (xO o d sv)) (fun r M1 => ∃ k9 : Int, r = some (.int (iN k9)) ∧ ∃ (A1 : HM) (d1 : Int64) (sv1 : Value), M1 = xU A1 (xO o d1 sv1) ∧ xDis A1 (xO o d1 sv1) ∧ ((k9 = 0 ∧ (((0 ≤ p0 ∧ p0 ≤ 2) ∧ (0 ≤ p1 ∧ p1 ≤ 2)) ∧ (p0 ≠ p1)) ∧ (∃ z : Int, d1 = (iN z).toInt64 ∧ (-2147483648 ≤ z ∧ z ≤ 2147483647) ∧ z = A_pour (O, V, Wv, K, kp, kv, rfd) p0 p1) ∧ RG G A1 h0 (N + 1) (S_pour (O, V, Wv, K, kp, kv, rfd) p0 p1)) ∨ (k9 ≠ 0 ∧ ((k9 = 1 ∧ ¬ ((0 ≤ p0 ∧ p0 ≤ 2) ∧ (0 ≤ p1 ∧ p1 ≤ 2))) ∨ (k9 = 2 ∧ ((0 ≤ p0 ∧ p0 ≤ 2) ∧ (0 ≤ p1 ∧ p1 ≤ 2)) ∧ ¬ (p0 ≠ p1))) ∧ RG G A1 h0 (N + 1) (O, V, Wv, K, kp, kv, rfd)))) := by
  obtain ⟨bs, vs, og, qb, qk, qv, fb, fv, T, C, K0, hR, hK, hcb⟩ := hG
  replace hK : K = abK T C K0 := hK
  subst hK
  replace hR : RGx G A h0 bs vs og kp kv rfd qb qk qv fb fv O O Wv V T C K0 := hR
  refine x_introW (cc := cL_pour) (maxL := 5) (ret := (some .int)) (hh := [(0, 11, 14, 19), (0, 11, 18, 21)]) (by exact pln_RL) rfl (Nat.le_of_ble_eq_true rfl) ?_
  intro p e R s m args below meth c ls hRf hRc hRs hRl htab hC hw hl
  have hinX4 : ∀ w ∈ wsX40, w ∈ wsL_pour := fun w h => (List.mem_cons_of_mem _ (List.mem_append_left _ (List.mem_append_left _ (List.mem_append_left _ (List.mem_append_left _ (List.mem_append_right _ h))))))
  have hl : lv_has ls 5 [(0, .ref h0), (1, .int (iN (p0))), (2, .int (iN (p1))), (3, .ref o)] := hl
  refine lv_aload_n hC.1 hC.2.1 dL_pour_0 rfl (lv_at hl 3 rfl) ?_
  refine lv_aload_n hC.1 hC.2.1 dL_pour_1 rfl (lv_at hl 0 rfl) ?_
  refine lv_iload_n hC.1 hC.2.1 dL_pour_2 rfl (lv_at hl 1 rfl) ?_
  refine lv_iload_n hC.1 hC.2.1 dL_pour_3 rfl (lv_at hl 2 rfl) ?_
  refine x_callVX hC hw (lv_size hl) ((c_X3_pour l G hst hR hcb hN (p0 := p0) (by first | assumption | omega) (p1 := p1) (by first | assumption | omega)).frame hd) gL_pour_X3_pour rfl dv_X3_pour (xU_l hR.1) rfl rfl (Nat.le_of_ble_eq_true rfl) (by rw [hRf]; decide) (by rw [hRl]; decide) (by first | (rw [hRc]; decide) | omega) (by first | (rw [hRs]; decide) | omega) dL_pour_4 (fun E ce q9 M1 H locs hqx hw hcell hcv hcls => ?_) (fun r9 M1 H locs hq hw => ?_)
  · obtain ⟨A1, ⟨hE, hG1⟩, hM1, hd1⟩ := hqx
    subst hM1
    rcases hE with ⟨rfl, hb9⟩ | ⟨rfl, hb9⟩
    · skip
      refine vx_catch (own := "RangeledgerLaw") (name := "java/lang/IndexOutOfBoundsException") hC.2.2.2.1 [] (⟨0, 11, 14, 19⟩ : ExceptionTableEntry) [(⟨0, 11, 18, 21⟩ : ExceptionTableEntry)] (by rw [htab]; rfl) (fun z hz => nomatch hz) (by decide) (by decide) (hC.2.2.2.2.1 _ (List.mem_cons_of_mem _ (List.mem_append_left _ (List.mem_append_left _ (List.mem_append_left _ (List.mem_append_left _ (List.mem_append_left _ (List.mem_append_left _ (List.mem_of_getElem? (i := 0) rfl))))))))) (va_Nw.use rfl (hC.2.2.2.2.2.2.2.2.1.2.2.2.1.1 ("java/lang/IndexOutOfBoundsException", "java/lang/IndexOutOfBoundsException") (by decide))) hcell hcv hcls ?_
      show W p l e R s m args below meth c H locs _ _ _ (F0 m 14 ls [.ref q9])
      refine lv_astore (lv' := [(4, .ref q9), (0, .ref h0), (1, .int (iN (p0))), (2, .int (iN (p1))), (3, .ref o)]) hC.1 hC.2.1 dL_pour_14 hl (by decide) rfl (fun ls hl => ?_)
      refine x_const hC dL_pour_16 ?_
      exact vx_ret (x_iret hC hw dL_pour_17 (by first | decide | omega) (by first | decide | omega) ⟨1, rfl, _, _, _, rfl, hd1, Or.inr ⟨by omega, by omega, hG1⟩⟩)
    · skip
      refine vx_catch (own := "RangeledgerLaw") (name := "java/lang/IllegalArgumentException") hC.2.2.2.1 [(⟨0, 11, 14, 19⟩ : ExceptionTableEntry)] (⟨0, 11, 18, 21⟩ : ExceptionTableEntry) [] (by rw [htab]; rfl) (fun z hz => by simp only [List.mem_cons, List.not_mem_nil, or_false] at hz; subst hz; (· exact Or.inr ⟨by decide, "java/lang/IndexOutOfBoundsException", hC.2.2.2.2.1 _ (List.mem_cons_of_mem _ (List.mem_append_left _ (List.mem_append_left _ (List.mem_append_left _ (List.mem_append_left _ (List.mem_append_left _ (List.mem_append_left _ (List.mem_of_getElem? (i := 0) rfl)))))))), hC.2.2.2.2.2.2.2.2.1.2.2.2.2.1 ("java/lang/IllegalArgumentException", "java/lang/IndexOutOfBoundsException") (by decide)⟩)) (by decide) (by decide) (hC.2.2.2.2.1 _ (List.mem_cons_of_mem _ (List.mem_append_left _ (List.mem_append_left _ (List.mem_append_left _ (List.mem_append_left _ (List.mem_append_left _ (List.mem_append_left _ (List.mem_of_getElem? (i := 1) rfl))))))))) (va_Nw.use rfl (hC.2.2.2.2.2.2.2.2.1.2.2.2.1.1 ("java/lang/IllegalArgumentException", "java/lang/IllegalArgumentException") (by decide))) hcell hcv hcls ?_
      show W p l e R s m args below meth c H locs _ _ _ (F0 m 18 ls [.ref q9])
      refine lv_astore (lv' := [(4, .ref q9), (0, .ref h0), (1, .int (iN (p0))), (2, .int (iN (p1))), (3, .ref o)]) hC.1 hC.2.1 dL_pour_18 hl (by decide) rfl (fun ls hl => ?_)
      refine x_const hC dL_pour_20 ?_
      exact vx_ret (x_iret hC hw dL_pour_21 (by first | decide | omega) (by first | decide | omega) ⟨2, rfl, _, _, _, rfl, hd1, Or.inr ⟨by omega, by omega, hG1⟩⟩)
  · obtain ⟨A1, ⟨z8, hr9, hz8, ho8, hA8, hG1⟩, hM1, hd1⟩ := hq
    subst hr9
    subst hM1
    show W p l e R s m args below meth c H locs _ _ _ (F0 m 7 ls [.int (iN (z8)), .ref o])
    refine lv_i2l hC.1 hC.2.1 dL_pour_7 rfl ?_
    refine lv_topl (fun d_1 hd_1 => ?_)
    refine x_putOn (fs2 := [.long (d_1), sv]) hC hw hinX4 (xU_b hd1 xO_s) (by simp) rfl dL_pour_8 (fun H locs hw => ?_)
    rw [xU_up hd1] at hw
    refine lv_goto (tgt := 22) hC.1 hC.2.1 dL_pour_11 (by decide) ?_
    refine x_const hC dL_pour_22 ?_
    exact vx_ret (x_iret hC hw dL_pour_23 (by first | decide | omega) (by first | decide | omega) ⟨0, rfl, _, _, _, rfl, xO_dis hd1, Or.inl ⟨by omega, ho8, ⟨z8, hd_1, by omega, hA8⟩, hG1⟩⟩)
set_option maxHeartbeats 4000000 in
set_option maxRecDepth 100000 in
theorem c_L_copy (l : Launch) (G : xG) (hst : l.stackTraces = false) {A : HM} {h0 o : Nat} {N : Int} {O : OW} {V : BW} {Wv : VW} {K : WA} {kp kv rfd : Int32} {d : Int64} {sv : Value} (hG : RG G A h0 N (O, V, Wv, K, kp, kv, rfd)) (hN : N ≤ 590) (hd : xDis A (xO o d sv)) {p0 : Int} (hp0 : -2147483648 ≤ p0 ∧ p0 ≤ 2147483647) {p1 : Int} (hp1 : -2147483648 ≤ p1 ∧ p1 ≤ 2147483647) : xMet l G yL_copy wsL_copy 8 160 3 18 [.ref h0, .int (iN (p0)), .int (iN (p1)), .ref o] (xU A (xO o d sv)) (fun r M1 => ∃ k9 : Int, r = some (.int (iN k9)) ∧ ∃ (A1 : HM) (d1 : Int64) (sv1 : Value), M1 = xU A1 (xO o d1 sv1) ∧ xDis A1 (xO o d1 sv1) ∧ ((k9 = 0 ∧ (((0 ≤ p0 ∧ p0 ≤ 2) ∧ (0 ≤ p1 ∧ p1 ≤ 2)) ∧ (p0 ≠ p1)) ∧ (∃ z : Int, d1 = (iN z).toInt64 ∧ (-2147483648 ≤ z ∧ z ≤ 2147483647) ∧ z = A_copy (O, V, Wv, K, kp, kv, rfd) p0 p1) ∧ RG G A1 h0 (N + 1) (S_copy (O, V, Wv, K, kp, kv, rfd) p0 p1)) ∨ (k9 ≠ 0 ∧ ((k9 = 1 ∧ ¬ ((0 ≤ p0 ∧ p0 ≤ 2) ∧ (0 ≤ p1 ∧ p1 ≤ 2))) ∨ (k9 = 2 ∧ ((0 ≤ p0 ∧ p0 ≤ 2) ∧ (0 ≤ p1 ∧ p1 ≤ 2)) ∧ ¬ (p0 ≠ p1))) ∧ RG G A1 h0 (N + 1) (O, V, Wv, K, kp, kv, rfd)))) := by
  obtain ⟨bs, vs, og, qb, qk, qv, fb, fv, T, C, K0, hR, hK, hcb⟩ := hG
  replace hK : K = abK T C K0 := hK
  subst hK
  replace hR : RGx G A h0 bs vs og kp kv rfd qb qk qv fb fv O O Wv V T C K0 := hR
  refine x_introW (cc := cL_copy) (maxL := 5) (ret := (some .int)) (hh := [(0, 11, 14, 19), (0, 11, 18, 21)]) (by exact pln_RL) rfl (Nat.le_of_ble_eq_true rfl) ?_
  intro p e R s m args below meth c ls hRf hRc hRs hRl htab hC hw hl
  have hinX4 : ∀ w ∈ wsX40, w ∈ wsL_copy := fun w h => (List.mem_cons_of_mem _ (List.mem_append_left _ (List.mem_append_left _ (List.mem_append_left _ (List.mem_append_left _ (List.mem_append_left _ (List.mem_append_left _ (List.mem_append_right _ h))))))))
  have hl : lv_has ls 5 [(0, .ref h0), (1, .int (iN (p0))), (2, .int (iN (p1))), (3, .ref o)] := hl
  refine lv_aload_n hC.1 hC.2.1 dL_copy_0 rfl (lv_at hl 3 rfl) ?_
  refine lv_aload_n hC.1 hC.2.1 dL_copy_1 rfl (lv_at hl 0 rfl) ?_
  refine lv_iload_n hC.1 hC.2.1 dL_copy_2 rfl (lv_at hl 1 rfl) ?_
  refine lv_iload_n hC.1 hC.2.1 dL_copy_3 rfl (lv_at hl 2 rfl) ?_
  refine x_callVX hC hw (lv_size hl) ((c_X3_copy l G hst hR hcb hN (p0 := p0) (by first | assumption | omega) (p1 := p1) (by first | assumption | omega)).frame hd) gL_copy_X3_copy rfl dv_X3_copy (xU_l hR.1) rfl rfl (Nat.le_of_ble_eq_true rfl) (by rw [hRf]; decide) (by rw [hRl]; decide) (by first | (rw [hRc]; decide) | omega) (by first | (rw [hRs]; decide) | omega) dL_copy_4 (fun E ce q9 M1 H locs hqx hw hcell hcv hcls => ?_) (fun r9 M1 H locs hq hw => ?_)
  · obtain ⟨A1, ⟨hE, hG1⟩, hM1, hd1⟩ := hqx
    subst hM1
    rcases hE with ⟨rfl, hb9⟩ | ⟨rfl, hb9⟩
    · skip
      refine vx_catch (own := "RangeledgerLaw") (name := "java/lang/IndexOutOfBoundsException") hC.2.2.2.1 [] (⟨0, 11, 14, 19⟩ : ExceptionTableEntry) [(⟨0, 11, 18, 21⟩ : ExceptionTableEntry)] (by rw [htab]; rfl) (fun z hz => nomatch hz) (by decide) (by decide) (hC.2.2.2.2.1 _ (List.mem_cons_of_mem _ (List.mem_append_left _ (List.mem_append_left _ (List.mem_append_left _ (List.mem_append_left _ (List.mem_append_left _ (List.mem_append_left _ (List.mem_append_left _ (List.mem_append_left _ (List.mem_of_getElem? (i := 0) rfl))))))))))) (va_Nw.use rfl (hC.2.2.2.2.2.2.2.2.1.2.2.2.1.1 ("java/lang/IndexOutOfBoundsException", "java/lang/IndexOutOfBoundsException") (by decide))) hcell hcv hcls ?_
      show W p l e R s m args below meth c H locs _ _ _ (F0 m 14 ls [.ref q9])
      refine lv_astore (lv' := [(4, .ref q9), (0, .ref h0), (1, .int (iN (p0))), (2, .int (iN (p1))), (3, .ref o)]) hC.1 hC.2.1 dL_copy_14 hl (by decide) rfl (fun ls hl => ?_)
      refine x_const hC dL_copy_16 ?_
      exact vx_ret (x_iret hC hw dL_copy_17 (by first | decide | omega) (by first | decide | omega) ⟨1, rfl, _, _, _, rfl, hd1, Or.inr ⟨by omega, by omega, hG1⟩⟩)
    · skip
      refine vx_catch (own := "RangeledgerLaw") (name := "java/lang/IllegalArgumentException") hC.2.2.2.1 [(⟨0, 11, 14, 19⟩ : ExceptionTableEntry)] (⟨0, 11, 18, 21⟩ : ExceptionTableEntry) [] (by rw [htab]; rfl) (fun z hz => by simp only [List.mem_cons, List.not_mem_nil, or_false] at hz; subst hz; (· exact Or.inr ⟨by decide, "java/lang/IndexOutOfBoundsException", hC.2.2.2.2.1 _ (List.mem_cons_of_mem _ (List.mem_append_left _ (List.mem_append_left _ (List.mem_append_left _ (List.mem_append_left _ (List.mem_append_left _ (List.mem_append_left _ (List.mem_append_left _ (List.mem_append_left _ (List.mem_of_getElem? (i := 0) rfl)))))))))), hC.2.2.2.2.2.2.2.2.1.2.2.2.2.1 ("java/lang/IllegalArgumentException", "java/lang/IndexOutOfBoundsException") (by decide)⟩)) (by decide) (by decide) (hC.2.2.2.2.1 _ (List.mem_cons_of_mem _ (List.mem_append_left _ (List.mem_append_left _ (List.mem_append_left _ (List.mem_append_left _ (List.mem_append_left _ (List.mem_append_left _ (List.mem_append_left _ (List.mem_append_left _ (List.mem_of_getElem? (i := 1) rfl))))))))))) (va_Nw.use rfl (hC.2.2.2.2.2.2.2.2.1.2.2.2.1.1 ("java/lang/IllegalArgumentException", "java/lang/IllegalArgumentException") (by decide))) hcell hcv hcls ?_
      show W p l e R s m args below meth c H locs _ _ _ (F0 m 18 ls [.ref q9])
      refine lv_astore (lv' := [(4, .ref q9), (0, .ref h0), (1, .int (iN (p0))), (2, .int (iN (p1))), (3, .ref o)]) hC.1 hC.2.1 dL_copy_18 hl (by decide) rfl (fun ls hl => ?_)
      refine x_const hC dL_copy_20 ?_
      exact vx_ret (x_iret hC hw dL_copy_21 (by first | decide | omega) (by first | decide | omega) ⟨2, rfl, _, _, _, rfl, hd1, Or.inr ⟨by omega, by omega, hG1⟩⟩)
  · obtain ⟨A1, ⟨z8, hr9, hz8, ho8, hA8, hG1⟩, hM1, hd1⟩ := hq
    subst hr9
    subst hM1
    show W p l e R s m args below meth c H locs _ _ _ (F0 m 7 ls [.int (iN (z8)), .ref o])
    refine lv_i2l hC.1 hC.2.1 dL_copy_7 rfl ?_
    refine lv_topl (fun d_1 hd_1 => ?_)
    refine x_putOn (fs2 := [.long (d_1), sv]) hC hw hinX4 (xU_b hd1 xO_s) (by simp) rfl dL_copy_8 (fun H locs hw => ?_)
    rw [xU_up hd1] at hw
    refine lv_goto (tgt := 22) hC.1 hC.2.1 dL_copy_11 (by decide) ?_
    refine x_const hC dL_copy_22 ?_
    exact vx_ret (x_iret hC hw dL_copy_23 (by first | decide | omega) (by first | decide | omega) ⟨0, rfl, _, _, _, rfl, xO_dis hd1, Or.inl ⟨by omega, ho8, ⟨z8, hd_1, by omega, hA8⟩, hG1⟩⟩)
set_option maxHeartbeats 4000000 in
set_option maxRecDepth 100000 in
theorem c_L_thin (l : Launch) (G : xG) (hst : l.stackTraces = false) {A : HM} {h0 o : Nat} {N : Int} {O : OW} {V : BW} {Wv : VW} {K : WA} {kp kv rfd : Int32} {d : Int64} {sv : Value} (hG : RG G A h0 N (O, V, Wv, K, kp, kv, rfd)) (hN : N ≤ 590) (hd : xDis A (xO o d sv)) {p0 : Int} (hp0 : -2147483648 ≤ p0 ∧ p0 ≤ 2147483647) {p1 : Int} (hp1 : -2147483648 ≤ p1 ∧ p1 ≤ 2147483647) {p2 : Int} (hp2 : -2147483648 ≤ p2 ∧ p2 ≤ 2147483647) (hb2 : p2 = 0 ∨ p2 = 1) : xMet l G yL_thin wsL_thin 8 161 3 18 [.ref h0, .int (iN (p0)), .int (iN (p1)), .int (iN (p2)), .ref o] (xU A (xO o d sv)) (fun r M1 => ∃ k9 : Int, r = some (.int (iN k9)) ∧ ∃ (A1 : HM) (d1 : Int64) (sv1 : Value), M1 = xU A1 (xO o d1 sv1) ∧ xDis A1 (xO o d1 sv1) ∧ ((k9 = 0 ∧ (((0 ≤ p0 ∧ p0 ≤ 2) ∧ (0 ≤ p1 ∧ p1 ≤ 2)) ∧ (p0 ≠ p1)) ∧ (∃ z : Int, d1 = (iN z).toInt64 ∧ (-2147483648 ≤ z ∧ z ≤ 2147483647) ∧ z = A_thin (O, V, Wv, K, kp, kv, rfd) p0 p1 p2) ∧ RG G A1 h0 (N + 1) (S_thin (O, V, Wv, K, kp, kv, rfd) p0 p1 p2)) ∨ (k9 ≠ 0 ∧ ((k9 = 1 ∧ ¬ ((0 ≤ p0 ∧ p0 ≤ 2) ∧ (0 ≤ p1 ∧ p1 ≤ 2))) ∨ (k9 = 2 ∧ ((0 ≤ p0 ∧ p0 ≤ 2) ∧ (0 ≤ p1 ∧ p1 ≤ 2)) ∧ ¬ (p0 ≠ p1))) ∧ RG G A1 h0 (N + 1) (O, V, Wv, K, kp, kv, rfd)))) := by
  obtain ⟨bs, vs, og, qb, qk, qv, fb, fv, T, C, K0, hR, hK, hcb⟩ := hG
  replace hK : K = abK T C K0 := hK
  subst hK
  replace hR : RGx G A h0 bs vs og kp kv rfd qb qk qv fb fv O O Wv V T C K0 := hR
  refine x_introW (cc := cL_thin) (maxL := 6) (ret := (some .int)) (hh := [(0, 13, 16, 19), (0, 13, 20, 21)]) (by exact pln_RL) rfl (Nat.le_of_ble_eq_true rfl) ?_
  intro p e R s m args below meth c ls hRf hRc hRs hRl htab hC hw hl
  have hinX4 : ∀ w ∈ wsX40, w ∈ wsL_thin := fun w h => (List.mem_cons_of_mem _ (List.mem_append_left _ (List.mem_append_left _ (List.mem_append_left _ (List.mem_append_left _ (List.mem_append_right _ h))))))
  have hl : lv_has ls 6 [(0, .ref h0), (1, .int (iN (p0))), (2, .int (iN (p1))), (3, .int (iN (p2))), (4, .ref o)] := hl
  refine lv_aload hC.1 hC.2.1 dL_thin_0 (lv_at hl 4 rfl) ?_
  refine lv_aload_n hC.1 hC.2.1 dL_thin_2 rfl (lv_at hl 0 rfl) ?_
  refine lv_iload_n hC.1 hC.2.1 dL_thin_3 rfl (lv_at hl 1 rfl) ?_
  refine lv_iload_n hC.1 hC.2.1 dL_thin_4 rfl (lv_at hl 2 rfl) ?_
  refine lv_iload_n hC.1 hC.2.1 dL_thin_5 rfl (lv_at hl 3 rfl) ?_
  refine x_callVX hC hw (lv_size hl) ((c_X3_thin l G hst hR hcb hN (p0 := p0) (by first | assumption | omega) (p1 := p1) (by first | assumption | omega) (p2 := p2) (by first | assumption | omega) (by omega)).frame hd) gL_thin_X3_thin rfl dv_X3_thin (xU_l hR.1) rfl rfl (Nat.le_of_ble_eq_true rfl) (by rw [hRf]; decide) (by rw [hRl]; decide) (by first | (rw [hRc]; decide) | omega) (by first | (rw [hRs]; decide) | omega) dL_thin_6 (fun E ce q9 M1 H locs hqx hw hcell hcv hcls => ?_) (fun r9 M1 H locs hq hw => ?_)
  · obtain ⟨A1, ⟨hE, hG1⟩, hM1, hd1⟩ := hqx
    subst hM1
    rcases hE with ⟨rfl, hb9⟩ | ⟨rfl, hb9⟩
    · skip
      refine vx_catch (own := "RangeledgerLaw") (name := "java/lang/IndexOutOfBoundsException") hC.2.2.2.1 [] (⟨0, 13, 16, 19⟩ : ExceptionTableEntry) [(⟨0, 13, 20, 21⟩ : ExceptionTableEntry)] (by rw [htab]; rfl) (fun z hz => nomatch hz) (by decide) (by decide) (hC.2.2.2.2.1 _ (List.mem_cons_of_mem _ (List.mem_append_left _ (List.mem_append_left _ (List.mem_append_left _ (List.mem_append_left _ (List.mem_append_left _ (List.mem_append_left _ (List.mem_of_getElem? (i := 0) rfl))))))))) (va_Nw.use rfl (hC.2.2.2.2.2.2.2.2.1.2.2.2.1.1 ("java/lang/IndexOutOfBoundsException", "java/lang/IndexOutOfBoundsException") (by decide))) hcell hcv hcls ?_
      show W p l e R s m args below meth c H locs _ _ _ (F0 m 16 ls [.ref q9])
      refine lv_astore (lv' := [(5, .ref q9), (0, .ref h0), (1, .int (iN (p0))), (2, .int (iN (p1))), (3, .int (iN (p2))), (4, .ref o)]) hC.1 hC.2.1 dL_thin_16 hl (by decide) rfl (fun ls hl => ?_)
      refine x_const hC dL_thin_18 ?_
      exact vx_ret (x_iret hC hw dL_thin_19 (by first | decide | omega) (by first | decide | omega) ⟨1, rfl, _, _, _, rfl, hd1, Or.inr ⟨by omega, by omega, hG1⟩⟩)
    · skip
      refine vx_catch (own := "RangeledgerLaw") (name := "java/lang/IllegalArgumentException") hC.2.2.2.1 [(⟨0, 13, 16, 19⟩ : ExceptionTableEntry)] (⟨0, 13, 20, 21⟩ : ExceptionTableEntry) [] (by rw [htab]; rfl) (fun z hz => by simp only [List.mem_cons, List.not_mem_nil, or_false] at hz; subst hz; (· exact Or.inr ⟨by decide, "java/lang/IndexOutOfBoundsException", hC.2.2.2.2.1 _ (List.mem_cons_of_mem _ (List.mem_append_left _ (List.mem_append_left _ (List.mem_append_left _ (List.mem_append_left _ (List.mem_append_left _ (List.mem_append_left _ (List.mem_of_getElem? (i := 0) rfl)))))))), hC.2.2.2.2.2.2.2.2.1.2.2.2.2.1 ("java/lang/IllegalArgumentException", "java/lang/IndexOutOfBoundsException") (by decide)⟩)) (by decide) (by decide) (hC.2.2.2.2.1 _ (List.mem_cons_of_mem _ (List.mem_append_left _ (List.mem_append_left _ (List.mem_append_left _ (List.mem_append_left _ (List.mem_append_left _ (List.mem_append_left _ (List.mem_of_getElem? (i := 1) rfl))))))))) (va_Nw.use rfl (hC.2.2.2.2.2.2.2.2.1.2.2.2.1.1 ("java/lang/IllegalArgumentException", "java/lang/IllegalArgumentException") (by decide))) hcell hcv hcls ?_
      show W p l e R s m args below meth c H locs _ _ _ (F0 m 20 ls [.ref q9])
      refine lv_astore (lv' := [(5, .ref q9), (0, .ref h0), (1, .int (iN (p0))), (2, .int (iN (p1))), (3, .int (iN (p2))), (4, .ref o)]) hC.1 hC.2.1 dL_thin_20 hl (by decide) rfl (fun ls hl => ?_)
      refine x_const hC dL_thin_22 ?_
      exact vx_ret (x_iret hC hw dL_thin_23 (by first | decide | omega) (by first | decide | omega) ⟨2, rfl, _, _, _, rfl, hd1, Or.inr ⟨by omega, by omega, hG1⟩⟩)
  · obtain ⟨A1, ⟨z8, hr9, hz8, ho8, hA8, hG1⟩, hM1, hd1⟩ := hq
    subst hr9
    subst hM1
    show W p l e R s m args below meth c H locs _ _ _ (F0 m 9 ls [.int (iN (z8)), .ref o])
    refine lv_i2l hC.1 hC.2.1 dL_thin_9 rfl ?_
    refine lv_topl (fun d_1 hd_1 => ?_)
    refine x_putOn (fs2 := [.long (d_1), sv]) hC hw hinX4 (xU_b hd1 xO_s) (by simp) rfl dL_thin_10 (fun H locs hw => ?_)
    rw [xU_up hd1] at hw
    refine lv_goto (tgt := 24) hC.1 hC.2.1 dL_thin_13 (by decide) ?_
    refine x_const hC dL_thin_24 ?_
    exact vx_ret (x_iret hC hw dL_thin_25 (by first | decide | omega) (by first | decide | omega) ⟨0, rfl, _, _, _, rfl, xO_dis hd1, Or.inl ⟨by omega, ho8, ⟨z8, hd_1, by omega, hA8⟩, hG1⟩⟩)
set_option maxHeartbeats 4000000 in
set_option maxRecDepth 100000 in
theorem c_L_head (l : Launch) (G : xG) (hst : l.stackTraces = false) {A : HM} {h0 o : Nat} {N : Int} {O : OW} {V : BW} {Wv : VW} {K : WA} {kp kv rfd : Int32} {d : Int64} {sv : Value} (hG : RG G A h0 N (O, V, Wv, K, kp, kv, rfd)) (hN : N ≤ 590) (hd : xDis A (xO o d sv)) {p0 : Int} (hp0 : -2147483648 ≤ p0 ∧ p0 ≤ 2147483647) {p1 : Int} (hp1 : -2147483648 ≤ p1 ∧ p1 ≤ 2147483647) {p2 : Int} (hp2 : -2147483648 ≤ p2 ∧ p2 ≤ 2147483647) (hb2 : p2 = 0 ∨ p2 = 1) : xMet l G yL_head wsL_head 8 136 4 25 [.ref h0, .int (iN (p0)), .int (iN (p1)), .int (iN (p2)), .ref o] (xU A (xO o d sv)) (fun r M1 => ∃ k9 : Int, r = some (.int (iN k9)) ∧ ∃ (A1 : HM) (d1 : Int64) (sv1 : Value), M1 = xU A1 (xO o d1 sv1) ∧ xDis A1 (xO o d1 sv1) ∧ ((k9 = 0 ∧ ((0 ≤ p0 ∧ p0 ≤ 2) ∧ (0 ≤ p1 ∧ p1 ≤ 99) ∧ (frN Wv < 4)) ∧ (∃ z : Int, d1 = (iN z).toInt64 ∧ (-2147483648 ≤ z ∧ z ≤ 2147483647) ∧ z = A_head (O, V, Wv, K, kp, kv, rfd) p0 p1 p2) ∧ RG G A1 h0 (N + 1) (S_head (O, V, Wv, K, kp, kv, rfd) p0 p1 p2)) ∨ (k9 ≠ 0 ∧ ((k9 = 1 ∧ ¬ (0 ≤ p0 ∧ p0 ≤ 2)) ∨ (k9 = 2 ∧ (0 ≤ p0 ∧ p0 ≤ 2) ∧ ¬ (0 ≤ p1 ∧ p1 ≤ 99)) ∨ (k9 = 3 ∧ (0 ≤ p0 ∧ p0 ≤ 2) ∧ (0 ≤ p1 ∧ p1 ≤ 99) ∧ ¬ (frN Wv < 4))) ∧ RG G A1 h0 (N + 1) (O, V, Wv, K, kp, kv, rfd)))) := by
  obtain ⟨bs, vs, og, qb, qk, qv, fb, fv, T, C, K0, hR, hK, hcb⟩ := hG
  replace hK : K = abK T C K0 := hK
  subst hK
  replace hR : RGx G A h0 bs vs og kp kv rfd qb qk qv fb fv O O Wv V T C K0 := hR
  refine x_introW (cc := cL_head) (maxL := 6) (ret := (some .int)) (hh := [(0, 13, 16, 19), (0, 13, 20, 21), (0, 13, 24, 67)]) (by exact pln_RL) rfl (Nat.le_of_ble_eq_true rfl) ?_
  intro p e R s m args below meth c ls hRf hRc hRs hRl htab hC hw hl
  have hinX4 : ∀ w ∈ wsX40, w ∈ wsL_head := fun w h => (List.mem_cons_of_mem _ (List.mem_append_left _ (List.mem_append_left _ (List.mem_append_left _ (List.mem_append_left _ (List.mem_append_left _ (List.mem_append_left _ (List.mem_append_right _ h))))))))
  have hl : lv_has ls 6 [(0, .ref h0), (1, .int (iN (p0))), (2, .int (iN (p1))), (3, .int (iN (p2))), (4, .ref o)] := hl
  refine lv_aload hC.1 hC.2.1 dL_head_0 (lv_at hl 4 rfl) ?_
  refine lv_aload_n hC.1 hC.2.1 dL_head_2 rfl (lv_at hl 0 rfl) ?_
  refine lv_iload_n hC.1 hC.2.1 dL_head_3 rfl (lv_at hl 1 rfl) ?_
  refine lv_iload_n hC.1 hC.2.1 dL_head_4 rfl (lv_at hl 2 rfl) ?_
  refine lv_iload_n hC.1 hC.2.1 dL_head_5 rfl (lv_at hl 3 rfl) ?_
  refine x_callVX hC hw (lv_size hl) ((c_X3_head l G hst hR hcb hN (p0 := p0) (by first | assumption | omega) (p1 := p1) (by first | assumption | omega) (p2 := p2) (by first | assumption | omega) (by omega)).frame hd) gL_head_X3_head rfl dv_X3_head (xU_l hR.1) rfl rfl (Nat.le_of_ble_eq_true rfl) (by rw [hRf]; decide) (by rw [hRl]; decide) (by first | (rw [hRc]; decide) | omega) (by first | (rw [hRs]; decide) | omega) dL_head_6 (fun E ce q9 M1 H locs hqx hw hcell hcv hcls => ?_) (fun r9 M1 H locs hq hw => ?_)
  · obtain ⟨A1, ⟨hE, hG1⟩, hM1, hd1⟩ := hqx
    subst hM1
    rcases hE with ⟨rfl, hb9⟩ | ⟨rfl, hb9⟩ | ⟨rfl, hb9⟩
    · skip
      refine vx_catch (own := "RangeledgerLaw") (name := "java/lang/IndexOutOfBoundsException") hC.2.2.2.1 [] (⟨0, 13, 16, 19⟩ : ExceptionTableEntry) [(⟨0, 13, 20, 21⟩ : ExceptionTableEntry), (⟨0, 13, 24, 67⟩ : ExceptionTableEntry)] (by rw [htab]; rfl) (fun z hz => nomatch hz) (by decide) (by decide) (hC.2.2.2.2.1 _ (List.mem_cons_of_mem _ (List.mem_append_left _ (List.mem_append_left _ (List.mem_append_left _ (List.mem_append_left _ (List.mem_append_left _ (List.mem_append_left _ (List.mem_append_left _ (List.mem_append_left _ (List.mem_of_getElem? (i := 0) rfl))))))))))) (va_Nw.use rfl (hC.2.2.2.2.2.2.2.2.1.2.2.2.1.1 ("java/lang/IndexOutOfBoundsException", "java/lang/IndexOutOfBoundsException") (by decide))) hcell hcv hcls ?_
      show W p l e R s m args below meth c H locs _ _ _ (F0 m 16 ls [.ref q9])
      refine lv_astore (lv' := [(5, .ref q9), (0, .ref h0), (1, .int (iN (p0))), (2, .int (iN (p1))), (3, .int (iN (p2))), (4, .ref o)]) hC.1 hC.2.1 dL_head_16 hl (by decide) rfl (fun ls hl => ?_)
      refine x_const hC dL_head_18 ?_
      exact vx_ret (x_iret hC hw dL_head_19 (by first | decide | omega) (by first | decide | omega) ⟨1, rfl, _, _, _, rfl, hd1, Or.inr ⟨by omega, by omega, hG1⟩⟩)
    · skip
      refine vx_catch (own := "RangeledgerLaw") (name := "java/lang/IllegalArgumentException") hC.2.2.2.1 [(⟨0, 13, 16, 19⟩ : ExceptionTableEntry)] (⟨0, 13, 20, 21⟩ : ExceptionTableEntry) [(⟨0, 13, 24, 67⟩ : ExceptionTableEntry)] (by rw [htab]; rfl) (fun z hz => by simp only [List.mem_cons, List.not_mem_nil, or_false] at hz; subst hz; (· exact Or.inr ⟨by decide, "java/lang/IndexOutOfBoundsException", hC.2.2.2.2.1 _ (List.mem_cons_of_mem _ (List.mem_append_left _ (List.mem_append_left _ (List.mem_append_left _ (List.mem_append_left _ (List.mem_append_left _ (List.mem_append_left _ (List.mem_append_left _ (List.mem_append_left _ (List.mem_of_getElem? (i := 0) rfl)))))))))), hC.2.2.2.2.2.2.2.2.1.2.2.2.2.1 ("java/lang/IllegalArgumentException", "java/lang/IndexOutOfBoundsException") (by decide)⟩)) (by decide) (by decide) (hC.2.2.2.2.1 _ (List.mem_cons_of_mem _ (List.mem_append_left _ (List.mem_append_left _ (List.mem_append_left _ (List.mem_append_left _ (List.mem_append_left _ (List.mem_append_left _ (List.mem_append_left _ (List.mem_append_left _ (List.mem_of_getElem? (i := 1) rfl))))))))))) (va_Nw.use rfl (hC.2.2.2.2.2.2.2.2.1.2.2.2.1.1 ("java/lang/IllegalArgumentException", "java/lang/IllegalArgumentException") (by decide))) hcell hcv hcls ?_
      show W p l e R s m args below meth c H locs _ _ _ (F0 m 20 ls [.ref q9])
      refine lv_astore (lv' := [(5, .ref q9), (0, .ref h0), (1, .int (iN (p0))), (2, .int (iN (p1))), (3, .int (iN (p2))), (4, .ref o)]) hC.1 hC.2.1 dL_head_20 hl (by decide) rfl (fun ls hl => ?_)
      refine x_const hC dL_head_22 ?_
      exact vx_ret (x_iret hC hw dL_head_23 (by first | decide | omega) (by first | decide | omega) ⟨2, rfl, _, _, _, rfl, hd1, Or.inr ⟨by omega, by omega, hG1⟩⟩)
    · skip
      refine vx_catch (own := "RangeledgerLaw") (name := "java/lang/IllegalStateException") hC.2.2.2.1 [(⟨0, 13, 16, 19⟩ : ExceptionTableEntry), (⟨0, 13, 20, 21⟩ : ExceptionTableEntry)] (⟨0, 13, 24, 67⟩ : ExceptionTableEntry) [] (by rw [htab]; rfl) (fun z hz => by simp only [List.mem_cons, List.not_mem_nil, or_false] at hz; rcases hz with rfl | rfl; (· exact Or.inr ⟨by decide, "java/lang/IndexOutOfBoundsException", hC.2.2.2.2.1 _ (List.mem_cons_of_mem _ (List.mem_append_left _ (List.mem_append_left _ (List.mem_append_left _ (List.mem_append_left _ (List.mem_append_left _ (List.mem_append_left _ (List.mem_append_left _ (List.mem_append_left _ (List.mem_of_getElem? (i := 0) rfl)))))))))), hC.2.2.2.2.2.2.2.2.1.2.2.2.2.1 ("java/lang/IllegalStateException", "java/lang/IndexOutOfBoundsException") (by decide)⟩); (· exact Or.inr ⟨by decide, "java/lang/IllegalArgumentException", hC.2.2.2.2.1 _ (List.mem_cons_of_mem _ (List.mem_append_left _ (List.mem_append_left _ (List.mem_append_left _ (List.mem_append_left _ (List.mem_append_left _ (List.mem_append_left _ (List.mem_append_left _ (List.mem_append_left _ (List.mem_of_getElem? (i := 1) rfl)))))))))), hC.2.2.2.2.2.2.2.2.1.2.2.2.2.1 ("java/lang/IllegalStateException", "java/lang/IllegalArgumentException") (by decide)⟩)) (by decide) (by decide) (hC.2.2.2.2.1 _ (List.mem_cons_of_mem _ (List.mem_append_left _ (List.mem_append_left _ (List.mem_append_left _ (List.mem_append_left _ (List.mem_append_left _ (List.mem_append_left _ (List.mem_append_left _ (List.mem_append_left _ (List.mem_of_getElem? (i := 2) rfl))))))))))) (va_Nw.use rfl (hC.2.2.2.2.2.2.2.2.1.2.2.2.1.1 ("java/lang/IllegalStateException", "java/lang/IllegalStateException") (by decide))) hcell hcv hcls ?_
      show W p l e R s m args below meth c H locs _ _ _ (F0 m 24 ls [.ref q9])
      refine lv_astore (lv' := [(5, .ref q9), (0, .ref h0), (1, .int (iN (p0))), (2, .int (iN (p1))), (3, .int (iN (p2))), (4, .ref o)]) hC.1 hC.2.1 dL_head_24 hl (by decide) rfl (fun ls hl => ?_)
      refine x_const hC dL_head_26 ?_
      exact vx_ret (x_iret hC hw dL_head_27 (by first | decide | omega) (by first | decide | omega) ⟨3, rfl, _, _, _, rfl, hd1, Or.inr ⟨by omega, by omega, hG1⟩⟩)
  · obtain ⟨A1, ⟨z8, hr9, hz8, ho8, hA8, hG1⟩, hM1, hd1⟩ := hq
    subst hr9
    subst hM1
    show W p l e R s m args below meth c H locs _ _ _ (F0 m 9 ls [.int (iN (z8)), .ref o])
    refine lv_i2l hC.1 hC.2.1 dL_head_9 rfl ?_
    refine lv_topl (fun d_1 hd_1 => ?_)
    refine x_putOn (fs2 := [.long (d_1), sv]) hC hw hinX4 (xU_b hd1 xO_s) (by simp) rfl dL_head_10 (fun H locs hw => ?_)
    rw [xU_up hd1] at hw
    refine lv_goto (tgt := 28) hC.1 hC.2.1 dL_head_13 (by decide) ?_
    refine x_const hC dL_head_28 ?_
    exact vx_ret (x_iret hC hw dL_head_29 (by first | decide | omega) (by first | decide | omega) ⟨0, rfl, _, _, _, rfl, xO_dis hd1, Or.inl ⟨by omega, ho8, ⟨z8, hd_1, by omega, hA8⟩, hG1⟩⟩)
set_option maxHeartbeats 4000000 in
set_option maxRecDepth 100000 in
theorem c_L_tail (l : Launch) (G : xG) (hst : l.stackTraces = false) {A : HM} {h0 o : Nat} {N : Int} {O : OW} {V : BW} {Wv : VW} {K : WA} {kp kv rfd : Int32} {d : Int64} {sv : Value} (hG : RG G A h0 N (O, V, Wv, K, kp, kv, rfd)) (hN : N ≤ 590) (hd : xDis A (xO o d sv)) {p0 : Int} (hp0 : -2147483648 ≤ p0 ∧ p0 ≤ 2147483647) {p1 : Int} (hp1 : -2147483648 ≤ p1 ∧ p1 ≤ 2147483647) {p2 : Int} (hp2 : -2147483648 ≤ p2 ∧ p2 ≤ 2147483647) (hb2 : p2 = 0 ∨ p2 = 1) : xMet l G yL_tail wsL_tail 8 136 4 25 [.ref h0, .int (iN (p0)), .int (iN (p1)), .int (iN (p2)), .ref o] (xU A (xO o d sv)) (fun r M1 => ∃ k9 : Int, r = some (.int (iN k9)) ∧ ∃ (A1 : HM) (d1 : Int64) (sv1 : Value), M1 = xU A1 (xO o d1 sv1) ∧ xDis A1 (xO o d1 sv1) ∧ ((k9 = 0 ∧ ((0 ≤ p0 ∧ p0 ≤ 2) ∧ (0 ≤ p1 ∧ p1 ≤ 99) ∧ (frN Wv < 4)) ∧ (∃ z : Int, d1 = (iN z).toInt64 ∧ (-2147483648 ≤ z ∧ z ≤ 2147483647) ∧ z = A_tail (O, V, Wv, K, kp, kv, rfd) p0 p1 p2) ∧ RG G A1 h0 (N + 1) (S_tail (O, V, Wv, K, kp, kv, rfd) p0 p1 p2)) ∨ (k9 ≠ 0 ∧ ((k9 = 1 ∧ ¬ (0 ≤ p0 ∧ p0 ≤ 2)) ∨ (k9 = 2 ∧ (0 ≤ p0 ∧ p0 ≤ 2) ∧ ¬ (0 ≤ p1 ∧ p1 ≤ 99)) ∨ (k9 = 3 ∧ (0 ≤ p0 ∧ p0 ≤ 2) ∧ (0 ≤ p1 ∧ p1 ≤ 99) ∧ ¬ (frN Wv < 4))) ∧ RG G A1 h0 (N + 1) (O, V, Wv, K, kp, kv, rfd)))) := by
  obtain ⟨bs, vs, og, qb, qk, qv, fb, fv, T, C, K0, hR, hK, hcb⟩ := hG
  replace hK : K = abK T C K0 := hK
  subst hK
  replace hR : RGx G A h0 bs vs og kp kv rfd qb qk qv fb fv O O Wv V T C K0 := hR
  refine x_introW (cc := cL_tail) (maxL := 6) (ret := (some .int)) (hh := [(0, 13, 16, 19), (0, 13, 20, 21), (0, 13, 24, 67)]) (by exact pln_RL) rfl (Nat.le_of_ble_eq_true rfl) ?_
  intro p e R s m args below meth c ls hRf hRc hRs hRl htab hC hw hl
  have hinX4 : ∀ w ∈ wsX40, w ∈ wsL_tail := fun w h => (List.mem_cons_of_mem _ (List.mem_append_left _ (List.mem_append_left _ (List.mem_append_left _ (List.mem_append_left _ (List.mem_append_left _ (List.mem_append_left _ (List.mem_append_right _ h))))))))
  have hl : lv_has ls 6 [(0, .ref h0), (1, .int (iN (p0))), (2, .int (iN (p1))), (3, .int (iN (p2))), (4, .ref o)] := hl
  refine lv_aload hC.1 hC.2.1 dL_tail_0 (lv_at hl 4 rfl) ?_
  refine lv_aload_n hC.1 hC.2.1 dL_tail_2 rfl (lv_at hl 0 rfl) ?_
  refine lv_iload_n hC.1 hC.2.1 dL_tail_3 rfl (lv_at hl 1 rfl) ?_
  refine lv_iload_n hC.1 hC.2.1 dL_tail_4 rfl (lv_at hl 2 rfl) ?_
  refine lv_iload_n hC.1 hC.2.1 dL_tail_5 rfl (lv_at hl 3 rfl) ?_
  refine x_callVX hC hw (lv_size hl) ((c_X3_tail l G hst hR hcb hN (p0 := p0) (by first | assumption | omega) (p1 := p1) (by first | assumption | omega) (p2 := p2) (by first | assumption | omega) (by omega)).frame hd) gL_tail_X3_tail rfl dv_X3_tail (xU_l hR.1) rfl rfl (Nat.le_of_ble_eq_true rfl) (by rw [hRf]; decide) (by rw [hRl]; decide) (by first | (rw [hRc]; decide) | omega) (by first | (rw [hRs]; decide) | omega) dL_tail_6 (fun E ce q9 M1 H locs hqx hw hcell hcv hcls => ?_) (fun r9 M1 H locs hq hw => ?_)
  · obtain ⟨A1, ⟨hE, hG1⟩, hM1, hd1⟩ := hqx
    subst hM1
    rcases hE with ⟨rfl, hb9⟩ | ⟨rfl, hb9⟩ | ⟨rfl, hb9⟩
    · skip
      refine vx_catch (own := "RangeledgerLaw") (name := "java/lang/IndexOutOfBoundsException") hC.2.2.2.1 [] (⟨0, 13, 16, 19⟩ : ExceptionTableEntry) [(⟨0, 13, 20, 21⟩ : ExceptionTableEntry), (⟨0, 13, 24, 67⟩ : ExceptionTableEntry)] (by rw [htab]; rfl) (fun z hz => nomatch hz) (by decide) (by decide) (hC.2.2.2.2.1 _ (List.mem_cons_of_mem _ (List.mem_append_left _ (List.mem_append_left _ (List.mem_append_left _ (List.mem_append_left _ (List.mem_append_left _ (List.mem_append_left _ (List.mem_append_left _ (List.mem_append_left _ (List.mem_of_getElem? (i := 0) rfl))))))))))) (va_Nw.use rfl (hC.2.2.2.2.2.2.2.2.1.2.2.2.1.1 ("java/lang/IndexOutOfBoundsException", "java/lang/IndexOutOfBoundsException") (by decide))) hcell hcv hcls ?_
      show W p l e R s m args below meth c H locs _ _ _ (F0 m 16 ls [.ref q9])
      refine lv_astore (lv' := [(5, .ref q9), (0, .ref h0), (1, .int (iN (p0))), (2, .int (iN (p1))), (3, .int (iN (p2))), (4, .ref o)]) hC.1 hC.2.1 dL_tail_16 hl (by decide) rfl (fun ls hl => ?_)
      refine x_const hC dL_tail_18 ?_
      exact vx_ret (x_iret hC hw dL_tail_19 (by first | decide | omega) (by first | decide | omega) ⟨1, rfl, _, _, _, rfl, hd1, Or.inr ⟨by omega, by omega, hG1⟩⟩)
    · skip
      refine vx_catch (own := "RangeledgerLaw") (name := "java/lang/IllegalArgumentException") hC.2.2.2.1 [(⟨0, 13, 16, 19⟩ : ExceptionTableEntry)] (⟨0, 13, 20, 21⟩ : ExceptionTableEntry) [(⟨0, 13, 24, 67⟩ : ExceptionTableEntry)] (by rw [htab]; rfl) (fun z hz => by simp only [List.mem_cons, List.not_mem_nil, or_false] at hz; subst hz; (· exact Or.inr ⟨by decide, "java/lang/IndexOutOfBoundsException", hC.2.2.2.2.1 _ (List.mem_cons_of_mem _ (List.mem_append_left _ (List.mem_append_left _ (List.mem_append_left _ (List.mem_append_left _ (List.mem_append_left _ (List.mem_append_left _ (List.mem_append_left _ (List.mem_append_left _ (List.mem_of_getElem? (i := 0) rfl)))))))))), hC.2.2.2.2.2.2.2.2.1.2.2.2.2.1 ("java/lang/IllegalArgumentException", "java/lang/IndexOutOfBoundsException") (by decide)⟩)) (by decide) (by decide) (hC.2.2.2.2.1 _ (List.mem_cons_of_mem _ (List.mem_append_left _ (List.mem_append_left _ (List.mem_append_left _ (List.mem_append_left _ (List.mem_append_left _ (List.mem_append_left _ (List.mem_append_left _ (List.mem_append_left _ (List.mem_of_getElem? (i := 1) rfl))))))))))) (va_Nw.use rfl (hC.2.2.2.2.2.2.2.2.1.2.2.2.1.1 ("java/lang/IllegalArgumentException", "java/lang/IllegalArgumentException") (by decide))) hcell hcv hcls ?_
      show W p l e R s m args below meth c H locs _ _ _ (F0 m 20 ls [.ref q9])
      refine lv_astore (lv' := [(5, .ref q9), (0, .ref h0), (1, .int (iN (p0))), (2, .int (iN (p1))), (3, .int (iN (p2))), (4, .ref o)]) hC.1 hC.2.1 dL_tail_20 hl (by decide) rfl (fun ls hl => ?_)
      refine x_const hC dL_tail_22 ?_
      exact vx_ret (x_iret hC hw dL_tail_23 (by first | decide | omega) (by first | decide | omega) ⟨2, rfl, _, _, _, rfl, hd1, Or.inr ⟨by omega, by omega, hG1⟩⟩)
    · skip
      refine vx_catch (own := "RangeledgerLaw") (name := "java/lang/IllegalStateException") hC.2.2.2.1 [(⟨0, 13, 16, 19⟩ : ExceptionTableEntry), (⟨0, 13, 20, 21⟩ : ExceptionTableEntry)] (⟨0, 13, 24, 67⟩ : ExceptionTableEntry) [] (by rw [htab]; rfl) (fun z hz => by simp only [List.mem_cons, List.not_mem_nil, or_false] at hz; rcases hz with rfl | rfl; (· exact Or.inr ⟨by decide, "java/lang/IndexOutOfBoundsException", hC.2.2.2.2.1 _ (List.mem_cons_of_mem _ (List.mem_append_left _ (List.mem_append_left _ (List.mem_append_left _ (List.mem_append_left _ (List.mem_append_left _ (List.mem_append_left _ (List.mem_append_left _ (List.mem_append_left _ (List.mem_of_getElem? (i := 0) rfl)))))))))), hC.2.2.2.2.2.2.2.2.1.2.2.2.2.1 ("java/lang/IllegalStateException", "java/lang/IndexOutOfBoundsException") (by decide)⟩); (· exact Or.inr ⟨by decide, "java/lang/IllegalArgumentException", hC.2.2.2.2.1 _ (List.mem_cons_of_mem _ (List.mem_append_left _ (List.mem_append_left _ (List.mem_append_left _ (List.mem_append_left _ (List.mem_append_left _ (List.mem_append_left _ (List.mem_append_left _ (List.mem_append_left _ (List.mem_of_getElem? (i := 1) rfl)))))))))), hC.2.2.2.2.2.2.2.2.1.2.2.2.2.1 ("java/lang/IllegalStateException", "java/lang/IllegalArgumentException") (by decide)⟩)) (by decide) (by decide) (hC.2.2.2.2.1 _ (List.mem_cons_of_mem _ (List.mem_append_left _ (List.mem_append_left _ (List.mem_append_left _ (List.mem_append_left _ (List.mem_append_left _ (List.mem_append_left _ (List.mem_append_left _ (List.mem_append_left _ (List.mem_of_getElem? (i := 2) rfl))))))))))) (va_Nw.use rfl (hC.2.2.2.2.2.2.2.2.1.2.2.2.1.1 ("java/lang/IllegalStateException", "java/lang/IllegalStateException") (by decide))) hcell hcv hcls ?_
      show W p l e R s m args below meth c H locs _ _ _ (F0 m 24 ls [.ref q9])
      refine lv_astore (lv' := [(5, .ref q9), (0, .ref h0), (1, .int (iN (p0))), (2, .int (iN (p1))), (3, .int (iN (p2))), (4, .ref o)]) hC.1 hC.2.1 dL_tail_24 hl (by decide) rfl (fun ls hl => ?_)
      refine x_const hC dL_tail_26 ?_
      exact vx_ret (x_iret hC hw dL_tail_27 (by first | decide | omega) (by first | decide | omega) ⟨3, rfl, _, _, _, rfl, hd1, Or.inr ⟨by omega, by omega, hG1⟩⟩)
  · obtain ⟨A1, ⟨z8, hr9, hz8, ho8, hA8, hG1⟩, hM1, hd1⟩ := hq
    subst hr9
    subst hM1
    show W p l e R s m args below meth c H locs _ _ _ (F0 m 9 ls [.int (iN (z8)), .ref o])
    refine lv_i2l hC.1 hC.2.1 dL_tail_9 rfl ?_
    refine lv_topl (fun d_1 hd_1 => ?_)
    refine x_putOn (fs2 := [.long (d_1), sv]) hC hw hinX4 (xU_b hd1 xO_s) (by simp) rfl dL_tail_10 (fun H locs hw => ?_)
    rw [xU_up hd1] at hw
    refine lv_goto (tgt := 28) hC.1 hC.2.1 dL_tail_13 (by decide) ?_
    refine x_const hC dL_tail_28 ?_
    exact vx_ret (x_iret hC hw dL_tail_29 (by first | decide | omega) (by first | decide | omega) ⟨0, rfl, _, _, _, rfl, xO_dis hd1, Or.inl ⟨by omega, ho8, ⟨z8, hd_1, by omega, hA8⟩, hG1⟩⟩)
set_option maxHeartbeats 4000000 in
set_option maxRecDepth 100000 in
theorem c_L_sub (l : Launch) (G : xG) (hst : l.stackTraces = false) {A : HM} {h0 o : Nat} {N : Int} {O : OW} {V : BW} {Wv : VW} {K : WA} {kp kv rfd : Int32} {d : Int64} {sv : Value} (hG : RG G A h0 N (O, V, Wv, K, kp, kv, rfd)) (hN : N ≤ 590) (hd : xDis A (xO o d sv)) {p0 : Int} (hp0 : -2147483648 ≤ p0 ∧ p0 ≤ 2147483647) {p1 : Int} (hp1 : -2147483648 ≤ p1 ∧ p1 ≤ 2147483647) {p2 : Int} (hp2 : -2147483648 ≤ p2 ∧ p2 ≤ 2147483647) {p3 : Int} (hp3 : -2147483648 ≤ p3 ∧ p3 ≤ 2147483647) {p4 : Int} (hp4 : -2147483648 ≤ p4 ∧ p4 ≤ 2147483647) (hb2 : p2 = 0 ∨ p2 = 1) (hb4 : p4 = 0 ∨ p4 = 1) : xMet l G yL_sub wsL_sub 8 138 6 37 [.ref h0, .int (iN (p0)), .int (iN (p1)), .int (iN (p2)), .int (iN (p3)), .int (iN (p4)), .ref o] (xU A (xO o d sv)) (fun r M1 => ∃ k9 : Int, r = some (.int (iN k9)) ∧ ∃ (A1 : HM) (d1 : Int64) (sv1 : Value), M1 = xU A1 (xO o d1 sv1) ∧ xDis A1 (xO o d1 sv1) ∧ ((k9 = 0 ∧ ((0 ≤ p0 ∧ p0 ≤ 2) ∧ ((0 ≤ p1 ∧ p1 ≤ 99) ∧ (0 ≤ p3 ∧ p3 ≤ 99)) ∧ (frN Wv < 4)) ∧ (∃ z : Int, d1 = (iN z).toInt64 ∧ (-2147483648 ≤ z ∧ z ≤ 2147483647) ∧ z = A_sub (O, V, Wv, K, kp, kv, rfd) p0 p1 p2 p3 p4) ∧ RG G A1 h0 (N + 1) (S_sub (O, V, Wv, K, kp, kv, rfd) p0 p1 p2 p3 p4)) ∨ (k9 ≠ 0 ∧ ((k9 = 1 ∧ ¬ (0 ≤ p0 ∧ p0 ≤ 2)) ∨ (k9 = 2 ∧ (0 ≤ p0 ∧ p0 ≤ 2) ∧ ¬ ((0 ≤ p1 ∧ p1 ≤ 99) ∧ (0 ≤ p3 ∧ p3 ≤ 99))) ∨ (k9 = 3 ∧ (0 ≤ p0 ∧ p0 ≤ 2) ∧ ((0 ≤ p1 ∧ p1 ≤ 99) ∧ (0 ≤ p3 ∧ p3 ≤ 99)) ∧ ¬ (frN Wv < 4))) ∧ RG G A1 h0 (N + 1) (O, V, Wv, K, kp, kv, rfd)))) := by
  obtain ⟨bs, vs, og, qb, qk, qv, fb, fv, T, C, K0, hR, hK, hcb⟩ := hG
  replace hK : K = abK T C K0 := hK
  subst hK
  replace hR : RGx G A h0 bs vs og kp kv rfd qb qk qv fb fv O O Wv V T C K0 := hR
  refine x_introW (cc := cL_sub) (maxL := 8) (ret := (some .int)) (hh := [(0, 17, 20, 19), (0, 17, 24, 21), (0, 17, 28, 67)]) (by exact pln_RL) rfl (Nat.le_of_ble_eq_true rfl) ?_
  intro p e R s m args below meth c ls hRf hRc hRs hRl htab hC hw hl
  have hinX4 : ∀ w ∈ wsX40, w ∈ wsL_sub := fun w h => (List.mem_cons_of_mem _ (List.mem_append_left _ (List.mem_append_left _ (List.mem_append_left _ (List.mem_append_left _ (List.mem_append_left _ (List.mem_append_left _ (List.mem_append_right _ h))))))))
  have hl : lv_has ls 8 [(0, .ref h0), (1, .int (iN (p0))), (2, .int (iN (p1))), (3, .int (iN (p2))), (4, .int (iN (p3))), (5, .int (iN (p4))), (6, .ref o)] := hl
  refine lv_aload hC.1 hC.2.1 dL_sub_0 (lv_at hl 6 rfl) ?_
  refine lv_aload_n hC.1 hC.2.1 dL_sub_2 rfl (lv_at hl 0 rfl) ?_
  refine lv_iload_n hC.1 hC.2.1 dL_sub_3 rfl (lv_at hl 1 rfl) ?_
  refine lv_iload_n hC.1 hC.2.1 dL_sub_4 rfl (lv_at hl 2 rfl) ?_
  refine lv_iload_n hC.1 hC.2.1 dL_sub_5 rfl (lv_at hl 3 rfl) ?_
  refine lv_iload hC.1 hC.2.1 dL_sub_6 (lv_at hl 4 rfl) ?_
  refine lv_iload hC.1 hC.2.1 dL_sub_8 (lv_at hl 5 rfl) ?_
  refine x_callVX hC hw (lv_size hl) ((c_X3_sub l G hst hR hcb hN (p0 := p0) (by first | assumption | omega) (p1 := p1) (by first | assumption | omega) (p2 := p2) (by first | assumption | omega) (p3 := p3) (by first | assumption | omega) (p4 := p4) (by first | assumption | omega) (by omega) (by omega)).frame hd) gL_sub_X3_sub rfl dv_X3_sub (xU_l hR.1) rfl rfl (Nat.le_of_ble_eq_true rfl) (by rw [hRf]; decide) (by rw [hRl]; decide) (by first | (rw [hRc]; decide) | omega) (by first | (rw [hRs]; decide) | omega) dL_sub_10 (fun E ce q9 M1 H locs hqx hw hcell hcv hcls => ?_) (fun r9 M1 H locs hq hw => ?_)
  · obtain ⟨A1, ⟨hE, hG1⟩, hM1, hd1⟩ := hqx
    subst hM1
    rcases hE with ⟨rfl, hb9⟩ | ⟨rfl, hb9⟩ | ⟨rfl, hb9⟩
    · skip
      refine vx_catch (own := "RangeledgerLaw") (name := "java/lang/IndexOutOfBoundsException") hC.2.2.2.1 [] (⟨0, 17, 20, 19⟩ : ExceptionTableEntry) [(⟨0, 17, 24, 21⟩ : ExceptionTableEntry), (⟨0, 17, 28, 67⟩ : ExceptionTableEntry)] (by rw [htab]; rfl) (fun z hz => nomatch hz) (by decide) (by decide) (hC.2.2.2.2.1 _ (List.mem_cons_of_mem _ (List.mem_append_left _ (List.mem_append_left _ (List.mem_append_left _ (List.mem_append_left _ (List.mem_append_left _ (List.mem_append_left _ (List.mem_append_left _ (List.mem_append_left _ (List.mem_of_getElem? (i := 0) rfl))))))))))) (va_Nw.use rfl (hC.2.2.2.2.2.2.2.2.1.2.2.2.1.1 ("java/lang/IndexOutOfBoundsException", "java/lang/IndexOutOfBoundsException") (by decide))) hcell hcv hcls ?_
      show W p l e R s m args below meth c H locs _ _ _ (F0 m 20 ls [.ref q9])
      refine lv_astore (lv' := [(7, .ref q9), (0, .ref h0), (1, .int (iN (p0))), (2, .int (iN (p1))), (3, .int (iN (p2))), (4, .int (iN (p3))), (5, .int (iN (p4))), (6, .ref o)]) hC.1 hC.2.1 dL_sub_20 hl (by decide) rfl (fun ls hl => ?_)
      refine x_const hC dL_sub_22 ?_
      exact vx_ret (x_iret hC hw dL_sub_23 (by first | decide | omega) (by first | decide | omega) ⟨1, rfl, _, _, _, rfl, hd1, Or.inr ⟨by omega, by omega, hG1⟩⟩)
    · skip
      refine vx_catch (own := "RangeledgerLaw") (name := "java/lang/IllegalArgumentException") hC.2.2.2.1 [(⟨0, 17, 20, 19⟩ : ExceptionTableEntry)] (⟨0, 17, 24, 21⟩ : ExceptionTableEntry) [(⟨0, 17, 28, 67⟩ : ExceptionTableEntry)] (by rw [htab]; rfl) (fun z hz => by simp only [List.mem_cons, List.not_mem_nil, or_false] at hz; subst hz; (· exact Or.inr ⟨by decide, "java/lang/IndexOutOfBoundsException", hC.2.2.2.2.1 _ (List.mem_cons_of_mem _ (List.mem_append_left _ (List.mem_append_left _ (List.mem_append_left _ (List.mem_append_left _ (List.mem_append_left _ (List.mem_append_left _ (List.mem_append_left _ (List.mem_append_left _ (List.mem_of_getElem? (i := 0) rfl)))))))))), hC.2.2.2.2.2.2.2.2.1.2.2.2.2.1 ("java/lang/IllegalArgumentException", "java/lang/IndexOutOfBoundsException") (by decide)⟩)) (by decide) (by decide) (hC.2.2.2.2.1 _ (List.mem_cons_of_mem _ (List.mem_append_left _ (List.mem_append_left _ (List.mem_append_left _ (List.mem_append_left _ (List.mem_append_left _ (List.mem_append_left _ (List.mem_append_left _ (List.mem_append_left _ (List.mem_of_getElem? (i := 1) rfl))))))))))) (va_Nw.use rfl (hC.2.2.2.2.2.2.2.2.1.2.2.2.1.1 ("java/lang/IllegalArgumentException", "java/lang/IllegalArgumentException") (by decide))) hcell hcv hcls ?_
      show W p l e R s m args below meth c H locs _ _ _ (F0 m 24 ls [.ref q9])
      refine lv_astore (lv' := [(7, .ref q9), (0, .ref h0), (1, .int (iN (p0))), (2, .int (iN (p1))), (3, .int (iN (p2))), (4, .int (iN (p3))), (5, .int (iN (p4))), (6, .ref o)]) hC.1 hC.2.1 dL_sub_24 hl (by decide) rfl (fun ls hl => ?_)
      refine x_const hC dL_sub_26 ?_
      exact vx_ret (x_iret hC hw dL_sub_27 (by first | decide | omega) (by first | decide | omega) ⟨2, rfl, _, _, _, rfl, hd1, Or.inr ⟨by omega, by omega, hG1⟩⟩)
    · skip
      refine vx_catch (own := "RangeledgerLaw") (name := "java/lang/IllegalStateException") hC.2.2.2.1 [(⟨0, 17, 20, 19⟩ : ExceptionTableEntry), (⟨0, 17, 24, 21⟩ : ExceptionTableEntry)] (⟨0, 17, 28, 67⟩ : ExceptionTableEntry) [] (by rw [htab]; rfl) (fun z hz => by simp only [List.mem_cons, List.not_mem_nil, or_false] at hz; rcases hz with rfl | rfl; (· exact Or.inr ⟨by decide, "java/lang/IndexOutOfBoundsException", hC.2.2.2.2.1 _ (List.mem_cons_of_mem _ (List.mem_append_left _ (List.mem_append_left _ (List.mem_append_left _ (List.mem_append_left _ (List.mem_append_left _ (List.mem_append_left _ (List.mem_append_left _ (List.mem_append_left _ (List.mem_of_getElem? (i := 0) rfl)))))))))), hC.2.2.2.2.2.2.2.2.1.2.2.2.2.1 ("java/lang/IllegalStateException", "java/lang/IndexOutOfBoundsException") (by decide)⟩); (· exact Or.inr ⟨by decide, "java/lang/IllegalArgumentException", hC.2.2.2.2.1 _ (List.mem_cons_of_mem _ (List.mem_append_left _ (List.mem_append_left _ (List.mem_append_left _ (List.mem_append_left _ (List.mem_append_left _ (List.mem_append_left _ (List.mem_append_left _ (List.mem_append_left _ (List.mem_of_getElem? (i := 1) rfl)))))))))), hC.2.2.2.2.2.2.2.2.1.2.2.2.2.1 ("java/lang/IllegalStateException", "java/lang/IllegalArgumentException") (by decide)⟩)) (by decide) (by decide) (hC.2.2.2.2.1 _ (List.mem_cons_of_mem _ (List.mem_append_left _ (List.mem_append_left _ (List.mem_append_left _ (List.mem_append_left _ (List.mem_append_left _ (List.mem_append_left _ (List.mem_append_left _ (List.mem_append_left _ (List.mem_of_getElem? (i := 2) rfl))))))))))) (va_Nw.use rfl (hC.2.2.2.2.2.2.2.2.1.2.2.2.1.1 ("java/lang/IllegalStateException", "java/lang/IllegalStateException") (by decide))) hcell hcv hcls ?_
      show W p l e R s m args below meth c H locs _ _ _ (F0 m 28 ls [.ref q9])
      refine lv_astore (lv' := [(7, .ref q9), (0, .ref h0), (1, .int (iN (p0))), (2, .int (iN (p1))), (3, .int (iN (p2))), (4, .int (iN (p3))), (5, .int (iN (p4))), (6, .ref o)]) hC.1 hC.2.1 dL_sub_28 hl (by decide) rfl (fun ls hl => ?_)
      refine x_const hC dL_sub_30 ?_
      exact vx_ret (x_iret hC hw dL_sub_31 (by first | decide | omega) (by first | decide | omega) ⟨3, rfl, _, _, _, rfl, hd1, Or.inr ⟨by omega, by omega, hG1⟩⟩)
  · obtain ⟨A1, ⟨z8, hr9, hz8, ho8, hA8, hG1⟩, hM1, hd1⟩ := hq
    subst hr9
    subst hM1
    show W p l e R s m args below meth c H locs _ _ _ (F0 m 13 ls [.int (iN (z8)), .ref o])
    refine lv_i2l hC.1 hC.2.1 dL_sub_13 rfl ?_
    refine lv_topl (fun d_1 hd_1 => ?_)
    refine x_putOn (fs2 := [.long (d_1), sv]) hC hw hinX4 (xU_b hd1 xO_s) (by simp) rfl dL_sub_14 (fun H locs hw => ?_)
    rw [xU_up hd1] at hw
    refine lv_goto (tgt := 32) hC.1 hC.2.1 dL_sub_17 (by decide) ?_
    refine x_const hC dL_sub_32 ?_
    exact vx_ret (x_iret hC hw dL_sub_33 (by first | decide | omega) (by first | decide | omega) ⟨0, rfl, _, _, _, rfl, xO_dis hd1, Or.inl ⟨by omega, ho8, ⟨z8, hd_1, by omega, hA8⟩, hG1⟩⟩)
set_option maxHeartbeats 4000000 in
set_option maxRecDepth 100000 in
theorem c_L_part (l : Launch) (G : xG) (hst : l.stackTraces = false) {A : HM} {h0 o : Nat} {N : Int} {O : OW} {V : BW} {Wv : VW} {K : WA} {kp kv rfd : Int32} {d : Int64} {sv : Value} (hG : RG G A h0 N (O, V, Wv, K, kp, kv, rfd)) (hN : N ≤ 590) (hd : xDis A (xO o d sv)) {p0 : Int} (hp0 : -2147483648 ≤ p0 ∧ p0 ≤ 2147483647) {p1 : Int} (hp1 : -2147483648 ≤ p1 ∧ p1 ≤ 2147483647) {p2 : Int} (hp2 : -2147483648 ≤ p2 ∧ p2 ≤ 2147483647) {p3 : Int} (hp3 : -2147483648 ≤ p3 ∧ p3 ≤ 2147483647) {p4 : Int} (hp4 : -2147483648 ≤ p4 ∧ p4 ≤ 2147483647) (hb2 : p2 = 0 ∨ p2 = 1) (hb4 : p4 = 0 ∨ p4 = 1) : xMet l G yL_part wsL_part 8 138 6 37 [.ref h0, .int (iN (p0)), .int (iN (p1)), .int (iN (p2)), .int (iN (p3)), .int (iN (p4)), .ref o] (xU A (xO o d sv)) (fun r M1 => ∃ k9 : Int, r = some (.int (iN k9)) ∧ ∃ (A1 : HM) (d1 : Int64) (sv1 : Value), M1 = xU A1 (xO o d1 sv1) ∧ xDis A1 (xO o d1 sv1) ∧ ((k9 = 0 ∧ ((0 ≤ p0 ∧ p0 ≤ 3 ∧ opN (Wv p0.toNat) = 1) ∧ ((0 ≤ p1 ∧ p1 ≤ 99) ∧ (0 ≤ p3 ∧ p3 ≤ 99)) ∧ (frN Wv < 4)) ∧ (∃ z : Int, d1 = (iN z).toInt64 ∧ (-2147483648 ≤ z ∧ z ≤ 2147483647) ∧ z = A_part (O, V, Wv, K, kp, kv, rfd) p0 p1 p2 p3 p4) ∧ RG G A1 h0 (N + 1) (S_part (O, V, Wv, K, kp, kv, rfd) p0 p1 p2 p3 p4)) ∨ (k9 ≠ 0 ∧ ((k9 = 1 ∧ ¬ (0 ≤ p0 ∧ p0 ≤ 3 ∧ opN (Wv p0.toNat) = 1)) ∨ (k9 = 2 ∧ (0 ≤ p0 ∧ p0 ≤ 3 ∧ opN (Wv p0.toNat) = 1) ∧ ¬ ((0 ≤ p1 ∧ p1 ≤ 99) ∧ (0 ≤ p3 ∧ p3 ≤ 99))) ∨ (k9 = 3 ∧ (0 ≤ p0 ∧ p0 ≤ 3 ∧ opN (Wv p0.toNat) = 1) ∧ ((0 ≤ p1 ∧ p1 ≤ 99) ∧ (0 ≤ p3 ∧ p3 ≤ 99)) ∧ ¬ (frN Wv < 4))) ∧ RG G A1 h0 (N + 1) (O, V, Wv, K, kp, kv, rfd)))) := by
  obtain ⟨bs, vs, og, qb, qk, qv, fb, fv, T, C, K0, hR, hK, hcb⟩ := hG
  replace hK : K = abK T C K0 := hK
  subst hK
  replace hR : RGx G A h0 bs vs og kp kv rfd qb qk qv fb fv O O Wv V T C K0 := hR
  refine x_introW (cc := cL_part) (maxL := 8) (ret := (some .int)) (hh := [(0, 17, 20, 19), (0, 17, 24, 21), (0, 17, 28, 67)]) (by exact pln_RL) rfl (Nat.le_of_ble_eq_true rfl) ?_
  intro p e R s m args below meth c ls hRf hRc hRs hRl htab hC hw hl
  have hinX4 : ∀ w ∈ wsX40, w ∈ wsL_part := fun w h => (List.mem_cons_of_mem _ (List.mem_append_left _ (List.mem_append_left _ (List.mem_append_left _ (List.mem_append_left _ (List.mem_append_left _ (List.mem_append_left _ (List.mem_append_right _ h))))))))
  have hl : lv_has ls 8 [(0, .ref h0), (1, .int (iN (p0))), (2, .int (iN (p1))), (3, .int (iN (p2))), (4, .int (iN (p3))), (5, .int (iN (p4))), (6, .ref o)] := hl
  refine lv_aload hC.1 hC.2.1 dL_part_0 (lv_at hl 6 rfl) ?_
  refine lv_aload_n hC.1 hC.2.1 dL_part_2 rfl (lv_at hl 0 rfl) ?_
  refine lv_iload_n hC.1 hC.2.1 dL_part_3 rfl (lv_at hl 1 rfl) ?_
  refine lv_iload_n hC.1 hC.2.1 dL_part_4 rfl (lv_at hl 2 rfl) ?_
  refine lv_iload_n hC.1 hC.2.1 dL_part_5 rfl (lv_at hl 3 rfl) ?_
  refine lv_iload hC.1 hC.2.1 dL_part_6 (lv_at hl 4 rfl) ?_
  refine lv_iload hC.1 hC.2.1 dL_part_8 (lv_at hl 5 rfl) ?_
  refine x_callVX hC hw (lv_size hl) ((c_X3_part l G hst hR hcb hN (p0 := p0) (by first | assumption | omega) (p1 := p1) (by first | assumption | omega) (p2 := p2) (by first | assumption | omega) (p3 := p3) (by first | assumption | omega) (p4 := p4) (by first | assumption | omega) (by omega) (by omega)).frame hd) gL_part_X3_part rfl dv_X3_part (xU_l hR.1) rfl rfl (Nat.le_of_ble_eq_true rfl) (by rw [hRf]; decide) (by rw [hRl]; decide) (by first | (rw [hRc]; decide) | omega) (by first | (rw [hRs]; decide) | omega) dL_part_10 (fun E ce q9 M1 H locs hqx hw hcell hcv hcls => ?_) (fun r9 M1 H locs hq hw => ?_)
  · obtain ⟨A1, ⟨hE, hG1⟩, hM1, hd1⟩ := hqx
    subst hM1
    rcases hE with ⟨rfl, hb9⟩ | ⟨rfl, hb9⟩ | ⟨rfl, hb9⟩
    · skip
      refine vx_catch (own := "RangeledgerLaw") (name := "java/lang/IndexOutOfBoundsException") hC.2.2.2.1 [] (⟨0, 17, 20, 19⟩ : ExceptionTableEntry) [(⟨0, 17, 24, 21⟩ : ExceptionTableEntry), (⟨0, 17, 28, 67⟩ : ExceptionTableEntry)] (by rw [htab]; rfl) (fun z hz => nomatch hz) (by decide) (by decide) (hC.2.2.2.2.1 _ (List.mem_cons_of_mem _ (List.mem_append_left _ (List.mem_append_left _ (List.mem_append_left _ (List.mem_append_left _ (List.mem_append_left _ (List.mem_append_left _ (List.mem_append_left _ (List.mem_append_left _ (List.mem_of_getElem? (i := 0) rfl))))))))))) (va_Nw.use rfl (hC.2.2.2.2.2.2.2.2.1.2.2.2.1.1 ("java/lang/IndexOutOfBoundsException", "java/lang/IndexOutOfBoundsException") (by decide))) hcell hcv hcls ?_
      show W p l e R s m args below meth c H locs _ _ _ (F0 m 20 ls [.ref q9])
      refine lv_astore (lv' := [(7, .ref q9), (0, .ref h0), (1, .int (iN (p0))), (2, .int (iN (p1))), (3, .int (iN (p2))), (4, .int (iN (p3))), (5, .int (iN (p4))), (6, .ref o)]) hC.1 hC.2.1 dL_part_20 hl (by decide) rfl (fun ls hl => ?_)
      refine x_const hC dL_part_22 ?_
      exact vx_ret (x_iret hC hw dL_part_23 (by first | decide | omega) (by first | decide | omega) ⟨1, rfl, _, _, _, rfl, hd1, Or.inr ⟨by omega, by omega, hG1⟩⟩)
    · skip
      refine vx_catch (own := "RangeledgerLaw") (name := "java/lang/IllegalArgumentException") hC.2.2.2.1 [(⟨0, 17, 20, 19⟩ : ExceptionTableEntry)] (⟨0, 17, 24, 21⟩ : ExceptionTableEntry) [(⟨0, 17, 28, 67⟩ : ExceptionTableEntry)] (by rw [htab]; rfl) (fun z hz => by simp only [List.mem_cons, List.not_mem_nil, or_false] at hz; subst hz; (· exact Or.inr ⟨by decide, "java/lang/IndexOutOfBoundsException", hC.2.2.2.2.1 _ (List.mem_cons_of_mem _ (List.mem_append_left _ (List.mem_append_left _ (List.mem_append_left _ (List.mem_append_left _ (List.mem_append_left _ (List.mem_append_left _ (List.mem_append_left _ (List.mem_append_left _ (List.mem_of_getElem? (i := 0) rfl)))))))))), hC.2.2.2.2.2.2.2.2.1.2.2.2.2.1 ("java/lang/IllegalArgumentException", "java/lang/IndexOutOfBoundsException") (by decide)⟩)) (by decide) (by decide) (hC.2.2.2.2.1 _ (List.mem_cons_of_mem _ (List.mem_append_left _ (List.mem_append_left _ (List.mem_append_left _ (List.mem_append_left _ (List.mem_append_left _ (List.mem_append_left _ (List.mem_append_left _ (List.mem_append_left _ (List.mem_of_getElem? (i := 1) rfl))))))))))) (va_Nw.use rfl (hC.2.2.2.2.2.2.2.2.1.2.2.2.1.1 ("java/lang/IllegalArgumentException", "java/lang/IllegalArgumentException") (by decide))) hcell hcv hcls ?_
      show W p l e R s m args below meth c H locs _ _ _ (F0 m 24 ls [.ref q9])
      refine lv_astore (lv' := [(7, .ref q9), (0, .ref h0), (1, .int (iN (p0))), (2, .int (iN (p1))), (3, .int (iN (p2))), (4, .int (iN (p3))), (5, .int (iN (p4))), (6, .ref o)]) hC.1 hC.2.1 dL_part_24 hl (by decide) rfl (fun ls hl => ?_)
      refine x_const hC dL_part_26 ?_
      exact vx_ret (x_iret hC hw dL_part_27 (by first | decide | omega) (by first | decide | omega) ⟨2, rfl, _, _, _, rfl, hd1, Or.inr ⟨by omega, by omega, hG1⟩⟩)
    · skip
      refine vx_catch (own := "RangeledgerLaw") (name := "java/lang/IllegalStateException") hC.2.2.2.1 [(⟨0, 17, 20, 19⟩ : ExceptionTableEntry), (⟨0, 17, 24, 21⟩ : ExceptionTableEntry)] (⟨0, 17, 28, 67⟩ : ExceptionTableEntry) [] (by rw [htab]; rfl) (fun z hz => by simp only [List.mem_cons, List.not_mem_nil, or_false] at hz; rcases hz with rfl | rfl; (· exact Or.inr ⟨by decide, "java/lang/IndexOutOfBoundsException", hC.2.2.2.2.1 _ (List.mem_cons_of_mem _ (List.mem_append_left _ (List.mem_append_left _ (List.mem_append_left _ (List.mem_append_left _ (List.mem_append_left _ (List.mem_append_left _ (List.mem_append_left _ (List.mem_append_left _ (List.mem_of_getElem? (i := 0) rfl)))))))))), hC.2.2.2.2.2.2.2.2.1.2.2.2.2.1 ("java/lang/IllegalStateException", "java/lang/IndexOutOfBoundsException") (by decide)⟩); (· exact Or.inr ⟨by decide, "java/lang/IllegalArgumentException", hC.2.2.2.2.1 _ (List.mem_cons_of_mem _ (List.mem_append_left _ (List.mem_append_left _ (List.mem_append_left _ (List.mem_append_left _ (List.mem_append_left _ (List.mem_append_left _ (List.mem_append_left _ (List.mem_append_left _ (List.mem_of_getElem? (i := 1) rfl)))))))))), hC.2.2.2.2.2.2.2.2.1.2.2.2.2.1 ("java/lang/IllegalStateException", "java/lang/IllegalArgumentException") (by decide)⟩)) (by decide) (by decide) (hC.2.2.2.2.1 _ (List.mem_cons_of_mem _ (List.mem_append_left _ (List.mem_append_left _ (List.mem_append_left _ (List.mem_append_left _ (List.mem_append_left _ (List.mem_append_left _ (List.mem_append_left _ (List.mem_append_left _ (List.mem_of_getElem? (i := 2) rfl))))))))))) (va_Nw.use rfl (hC.2.2.2.2.2.2.2.2.1.2.2.2.1.1 ("java/lang/IllegalStateException", "java/lang/IllegalStateException") (by decide))) hcell hcv hcls ?_
      show W p l e R s m args below meth c H locs _ _ _ (F0 m 28 ls [.ref q9])
      refine lv_astore (lv' := [(7, .ref q9), (0, .ref h0), (1, .int (iN (p0))), (2, .int (iN (p1))), (3, .int (iN (p2))), (4, .int (iN (p3))), (5, .int (iN (p4))), (6, .ref o)]) hC.1 hC.2.1 dL_part_28 hl (by decide) rfl (fun ls hl => ?_)
      refine x_const hC dL_part_30 ?_
      exact vx_ret (x_iret hC hw dL_part_31 (by first | decide | omega) (by first | decide | omega) ⟨3, rfl, _, _, _, rfl, hd1, Or.inr ⟨by omega, by omega, hG1⟩⟩)
  · obtain ⟨A1, ⟨z8, hr9, hz8, ho8, hA8, hG1⟩, hM1, hd1⟩ := hq
    subst hr9
    subst hM1
    show W p l e R s m args below meth c H locs _ _ _ (F0 m 13 ls [.int (iN (z8)), .ref o])
    refine lv_i2l hC.1 hC.2.1 dL_part_13 rfl ?_
    refine lv_topl (fun d_1 hd_1 => ?_)
    refine x_putOn (fs2 := [.long (d_1), sv]) hC hw hinX4 (xU_b hd1 xO_s) (by simp) rfl dL_part_14 (fun H locs hw => ?_)
    rw [xU_up hd1] at hw
    refine lv_goto (tgt := 32) hC.1 hC.2.1 dL_part_17 (by decide) ?_
    refine x_const hC dL_part_32 ?_
    exact vx_ret (x_iret hC hw dL_part_33 (by first | decide | omega) (by first | decide | omega) ⟨0, rfl, _, _, _, rfl, xO_dis hd1, Or.inl ⟨by omega, ho8, ⟨z8, hd_1, by omega, hA8⟩, hG1⟩⟩)
set_option maxHeartbeats 4000000 in
set_option maxRecDepth 100000 in
theorem c_L_shut (l : Launch) (G : xG) (hst : l.stackTraces = false) {A : HM} {h0 o : Nat} {N : Int} {O : OW} {V : BW} {Wv : VW} {K : WA} {kp kv rfd : Int32} {d : Int64} {sv : Value} (hG : RG G A h0 N (O, V, Wv, K, kp, kv, rfd)) (hN : N ≤ 590) (hd : xDis A (xO o d sv)) {p0 : Int} (hp0 : -2147483648 ≤ p0 ∧ p0 ≤ 2147483647) : xMet l G yL_shut wsL_shut 8 133 1 6 [.ref h0, .int (iN (p0)), .ref o] (xU A (xO o d sv)) (fun r M1 => ∃ k9 : Int, r = some (.int (iN k9)) ∧ ∃ (A1 : HM) (d1 : Int64) (sv1 : Value), M1 = xU A1 (xO o d1 sv1) ∧ xDis A1 (xO o d1 sv1) ∧ ((k9 = 0 ∧ ((0 ≤ p0 ∧ p0 ≤ 3 ∧ opN (Wv p0.toNat) = 1)) ∧ (∃ z : Int, d1 = (iN z).toInt64 ∧ (-2147483648 ≤ z ∧ z ≤ 2147483647) ∧ z = A_shut (O, V, Wv, K, kp, kv, rfd) p0) ∧ RG G A1 h0 (N + 1) (S_shut (O, V, Wv, K, kp, kv, rfd) p0)) ∨ (k9 ≠ 0 ∧ ((k9 = 1 ∧ ¬ (0 ≤ p0 ∧ p0 ≤ 3 ∧ opN (Wv p0.toNat) = 1))) ∧ RG G A1 h0 (N + 1) (O, V, Wv, K, kp, kv, rfd)))) := by
  obtain ⟨bs, vs, og, qb, qk, qv, fb, fv, T, C, K0, hR, hK, hcb⟩ := hG
  replace hK : K = abK T C K0 := hK
  subst hK
  replace hR : RGx G A h0 bs vs og kp kv rfd qb qk qv fb fv O O Wv V T C K0 := hR
  refine x_introW (cc := cL_shut) (maxL := 4) (ret := (some .int)) (hh := [(0, 10, 13, 19)]) (by exact pln_RL) rfl (Nat.le_of_ble_eq_true rfl) ?_
  intro p e R s m args below meth c ls hRf hRc hRs hRl htab hC hw hl
  have hinX4 : ∀ w ∈ wsX40, w ∈ wsL_shut := fun w h => (List.mem_cons_of_mem _ (List.mem_append_left _ (List.mem_append_left _ (List.mem_append_left _ (List.mem_append_left _ (List.mem_append_right _ h))))))
  have hl : lv_has ls 4 [(0, .ref h0), (1, .int (iN (p0))), (2, .ref o)] := hl
  refine lv_aload_n hC.1 hC.2.1 dL_shut_0 rfl (lv_at hl 2 rfl) ?_
  refine lv_aload_n hC.1 hC.2.1 dL_shut_1 rfl (lv_at hl 0 rfl) ?_
  refine lv_iload_n hC.1 hC.2.1 dL_shut_2 rfl (lv_at hl 1 rfl) ?_
  refine x_callVX hC hw (lv_size hl) ((c_X3_shut l G hst hR hcb hN (p0 := p0) (by first | assumption | omega)).frame hd) gL_shut_X3_shut rfl dv_X3_shut (xU_l hR.1) rfl rfl (Nat.le_of_ble_eq_true rfl) (by rw [hRf]; decide) (by rw [hRl]; decide) (by first | (rw [hRc]; decide) | omega) (by first | (rw [hRs]; decide) | omega) dL_shut_3 (fun E ce q9 M1 H locs hqx hw hcell hcv hcls => ?_) (fun r9 M1 H locs hq hw => ?_)
  · obtain ⟨A1, ⟨hE, hG1⟩, hM1, hd1⟩ := hqx
    subst hM1
    obtain ⟨rfl, hb9⟩ := hE
    refine vx_catch (own := "RangeledgerLaw") (name := "java/lang/IndexOutOfBoundsException") hC.2.2.2.1 [] (⟨0, 10, 13, 19⟩ : ExceptionTableEntry) [] (by rw [htab]; rfl) (fun z hz => nomatch hz) (by decide) (by decide) (hC.2.2.2.2.1 _ (List.mem_cons_of_mem _ (List.mem_append_left _ (List.mem_append_left _ (List.mem_append_left _ (List.mem_append_left _ (List.mem_append_left _ (List.mem_append_left _ (List.mem_of_getElem? (i := 0) rfl))))))))) (va_Nw.use rfl (hC.2.2.2.2.2.2.2.2.1.2.2.2.1.1 ("java/lang/IndexOutOfBoundsException", "java/lang/IndexOutOfBoundsException") (by decide))) hcell hcv hcls ?_
    show W p l e R s m args below meth c H locs _ _ _ (F0 m 13 ls [.ref q9])
    refine lv_astore_n (lv' := [(3, .ref q9), (0, .ref h0), (1, .int (iN (p0))), (2, .ref o)]) hC.1 hC.2.1 dL_shut_13 rfl hl (by decide) rfl (fun ls hl => ?_)
    refine x_const hC dL_shut_14 ?_
    exact vx_ret (x_iret hC hw dL_shut_15 (by first | decide | omega) (by first | decide | omega) ⟨1, rfl, _, _, _, rfl, hd1, Or.inr ⟨by omega, by omega, hG1⟩⟩)
  · obtain ⟨A1, ⟨z8, hr9, hz8, ho8, hA8, hG1⟩, hM1, hd1⟩ := hq
    subst hr9
    subst hM1
    show W p l e R s m args below meth c H locs _ _ _ (F0 m 6 ls [.int (iN (z8)), .ref o])
    refine lv_i2l hC.1 hC.2.1 dL_shut_6 rfl ?_
    refine lv_topl (fun d_1 hd_1 => ?_)
    refine x_putOn (fs2 := [.long (d_1), sv]) hC hw hinX4 (xU_b hd1 xO_s) (by simp) rfl dL_shut_7 (fun H locs hw => ?_)
    rw [xU_up hd1] at hw
    refine lv_goto (tgt := 16) hC.1 hC.2.1 dL_shut_10 (by decide) ?_
    refine x_const hC dL_shut_16 ?_
    exact vx_ret (x_iret hC hw dL_shut_17 (by first | decide | omega) (by first | decide | omega) ⟨0, rfl, _, _, _, rfl, xO_dis hd1, Or.inl ⟨by omega, ho8, ⟨z8, hd_1, by omega, hA8⟩, hG1⟩⟩)
set_option maxHeartbeats 4000000 in
set_option maxRecDepth 100000 in
theorem c_L_viewPut (l : Launch) (G : xG) (hst : l.stackTraces = false) {A : HM} {h0 o : Nat} {N : Int} {O : OW} {V : BW} {Wv : VW} {K : WA} {kp kv rfd : Int32} {d : Int64} {sv : Value} (hG : RG G A h0 N (O, V, Wv, K, kp, kv, rfd)) (hN : N ≤ 590) (hd : xDis A (xO o d sv)) {p0 : Int} (hp0 : -2147483648 ≤ p0 ∧ p0 ≤ 2147483647) {p1 : Int} (hp1 : -2147483648 ≤ p1 ∧ p1 ≤ 2147483647) {p2 : Int} (hp2 : -2147483648 ≤ p2 ∧ p2 ≤ 2147483647) : xMet l G yL_viewPut wsL_viewPut 9 159 3 18 [.ref h0, .int (iN (p0)), .int (iN (p1)), .int (iN (p2)), .ref o] (xU A (xO o d sv)) (fun r M1 => ∃ k9 : Int, r = some (.int (iN k9)) ∧ ∃ (A1 : HM) (d1 : Int64) (sv1 : Value), M1 = xU A1 (xO o d1 sv1) ∧ xDis A1 (xO o d1 sv1) ∧ ((k9 = 0 ∧ ((0 ≤ p0 ∧ p0 ≤ 3 ∧ opN (Wv p0.toNat) = 1) ∧ ((0 ≤ p1 ∧ p1 ≤ 99) ∧ (-9999 ≤ p2 ∧ p2 ≤ 9999))) ∧ (∃ z : Int, d1 = (iN z).toInt64 ∧ (-2147483648 ≤ z ∧ z ≤ 2147483647) ∧ z = A_viewPut (O, V, Wv, K, kp, kv, rfd) p0 p1 p2) ∧ RG G A1 h0 (N + 1) (S_viewPut (O, V, Wv, K, kp, kv, rfd) p0 p1 p2)) ∨ (k9 ≠ 0 ∧ ((k9 = 1 ∧ ¬ (0 ≤ p0 ∧ p0 ≤ 3 ∧ opN (Wv p0.toNat) = 1)) ∨ (k9 = 2 ∧ (0 ≤ p0 ∧ p0 ≤ 3 ∧ opN (Wv p0.toNat) = 1) ∧ ¬ ((0 ≤ p1 ∧ p1 ≤ 99) ∧ (-9999 ≤ p2 ∧ p2 ≤ 9999)))) ∧ RG G A1 h0 (N + 1) (O, V, Wv, K, kp, kv, rfd)))) := by
  obtain ⟨bs, vs, og, qb, qk, qv, fb, fv, T, C, K0, hR, hK, hcb⟩ := hG
  replace hK : K = abK T C K0 := hK
  subst hK
  replace hR : RGx G A h0 bs vs og kp kv rfd qb qk qv fb fv O O Wv V T C K0 := hR
  refine x_introW (cc := cL_viewPut) (maxL := 6) (ret := (some .int)) (hh := [(0, 13, 16, 19), (0, 13, 20, 21)]) (by exact pln_RL) rfl (Nat.le_of_ble_eq_true rfl) ?_
  intro p e R s m args below meth c ls hRf hRc hRs hRl htab hC hw hl
  have hinX4 : ∀ w ∈ wsX40, w ∈ wsL_viewPut := fun w h => (List.mem_cons_of_mem _ (List.mem_append_left _ (List.mem_append_left _ (List.mem_append_left _ (List.mem_append_left _ (List.mem_append_left _ (List.mem_append_right _ h)))))))
  have hl : lv_has ls 6 [(0, .ref h0), (1, .int (iN (p0))), (2, .int (iN (p1))), (3, .int (iN (p2))), (4, .ref o)] := hl
  refine lv_aload hC.1 hC.2.1 dL_viewPut_0 (lv_at hl 4 rfl) ?_
  refine lv_aload_n hC.1 hC.2.1 dL_viewPut_2 rfl (lv_at hl 0 rfl) ?_
  refine lv_iload_n hC.1 hC.2.1 dL_viewPut_3 rfl (lv_at hl 1 rfl) ?_
  refine lv_iload_n hC.1 hC.2.1 dL_viewPut_4 rfl (lv_at hl 2 rfl) ?_
  refine lv_iload_n hC.1 hC.2.1 dL_viewPut_5 rfl (lv_at hl 3 rfl) ?_
  refine x_callVX hC hw (lv_size hl) ((c_X3_viewPut l G hst hR hcb hN (p0 := p0) (by first | assumption | omega) (p1 := p1) (by first | assumption | omega) (p2 := p2) (by first | assumption | omega)).frame hd) gL_viewPut_X3_viewPut rfl dv_X3_viewPut (xU_l hR.1) rfl rfl (Nat.le_of_ble_eq_true rfl) (by rw [hRf]; decide) (by rw [hRl]; decide) (by first | (rw [hRc]; decide) | omega) (by first | (rw [hRs]; decide) | omega) dL_viewPut_6 (fun E ce q9 M1 H locs hqx hw hcell hcv hcls => ?_) (fun r9 M1 H locs hq hw => ?_)
  · obtain ⟨A1, ⟨hE, hG1⟩, hM1, hd1⟩ := hqx
    subst hM1
    rcases hE with ⟨rfl, hb9⟩ | ⟨rfl, hb9⟩
    · skip
      refine vx_catch (own := "RangeledgerLaw") (name := "java/lang/IndexOutOfBoundsException") hC.2.2.2.1 [] (⟨0, 13, 16, 19⟩ : ExceptionTableEntry) [(⟨0, 13, 20, 21⟩ : ExceptionTableEntry)] (by rw [htab]; rfl) (fun z hz => nomatch hz) (by decide) (by decide) (hC.2.2.2.2.1 _ (List.mem_cons_of_mem _ (List.mem_append_left _ (List.mem_append_left _ (List.mem_append_left _ (List.mem_append_left _ (List.mem_append_left _ (List.mem_append_left _ (List.mem_append_left _ (List.mem_of_getElem? (i := 0) rfl)))))))))) (va_Nw.use rfl (hC.2.2.2.2.2.2.2.2.1.2.2.2.1.1 ("java/lang/IndexOutOfBoundsException", "java/lang/IndexOutOfBoundsException") (by decide))) hcell hcv hcls ?_
      show W p l e R s m args below meth c H locs _ _ _ (F0 m 16 ls [.ref q9])
      refine lv_astore (lv' := [(5, .ref q9), (0, .ref h0), (1, .int (iN (p0))), (2, .int (iN (p1))), (3, .int (iN (p2))), (4, .ref o)]) hC.1 hC.2.1 dL_viewPut_16 hl (by decide) rfl (fun ls hl => ?_)
      refine x_const hC dL_viewPut_18 ?_
      exact vx_ret (x_iret hC hw dL_viewPut_19 (by first | decide | omega) (by first | decide | omega) ⟨1, rfl, _, _, _, rfl, hd1, Or.inr ⟨by omega, by omega, hG1⟩⟩)
    · skip
      refine vx_catch (own := "RangeledgerLaw") (name := "java/lang/IllegalArgumentException") hC.2.2.2.1 [(⟨0, 13, 16, 19⟩ : ExceptionTableEntry)] (⟨0, 13, 20, 21⟩ : ExceptionTableEntry) [] (by rw [htab]; rfl) (fun z hz => by simp only [List.mem_cons, List.not_mem_nil, or_false] at hz; subst hz; (· exact Or.inr ⟨by decide, "java/lang/IndexOutOfBoundsException", hC.2.2.2.2.1 _ (List.mem_cons_of_mem _ (List.mem_append_left _ (List.mem_append_left _ (List.mem_append_left _ (List.mem_append_left _ (List.mem_append_left _ (List.mem_append_left _ (List.mem_append_left _ (List.mem_of_getElem? (i := 0) rfl))))))))), hC.2.2.2.2.2.2.2.2.1.2.2.2.2.1 ("java/lang/IllegalArgumentException", "java/lang/IndexOutOfBoundsException") (by decide)⟩)) (by decide) (by decide) (hC.2.2.2.2.1 _ (List.mem_cons_of_mem _ (List.mem_append_left _ (List.mem_append_left _ (List.mem_append_left _ (List.mem_append_left _ (List.mem_append_left _ (List.mem_append_left _ (List.mem_append_left _ (List.mem_of_getElem? (i := 1) rfl)))))))))) (va_Nw.use rfl (hC.2.2.2.2.2.2.2.2.1.2.2.2.1.1 ("java/lang/IllegalArgumentException", "java/lang/IllegalArgumentException") (by decide))) hcell hcv hcls ?_
      show W p l e R s m args below meth c H locs _ _ _ (F0 m 20 ls [.ref q9])
      refine lv_astore (lv' := [(5, .ref q9), (0, .ref h0), (1, .int (iN (p0))), (2, .int (iN (p1))), (3, .int (iN (p2))), (4, .ref o)]) hC.1 hC.2.1 dL_viewPut_20 hl (by decide) rfl (fun ls hl => ?_)
      refine x_const hC dL_viewPut_22 ?_
      exact vx_ret (x_iret hC hw dL_viewPut_23 (by first | decide | omega) (by first | decide | omega) ⟨2, rfl, _, _, _, rfl, hd1, Or.inr ⟨by omega, by omega, hG1⟩⟩)
  · obtain ⟨A1, ⟨z8, hr9, hz8, ho8, hA8, hG1⟩, hM1, hd1⟩ := hq
    subst hr9
    subst hM1
    show W p l e R s m args below meth c H locs _ _ _ (F0 m 9 ls [.int (iN (z8)), .ref o])
    refine lv_i2l hC.1 hC.2.1 dL_viewPut_9 rfl ?_
    refine lv_topl (fun d_1 hd_1 => ?_)
    refine x_putOn (fs2 := [.long (d_1), sv]) hC hw hinX4 (xU_b hd1 xO_s) (by simp) rfl dL_viewPut_10 (fun H locs hw => ?_)
    rw [xU_up hd1] at hw
    refine lv_goto (tgt := 24) hC.1 hC.2.1 dL_viewPut_13 (by decide) ?_
    refine x_const hC dL_viewPut_24 ?_
    exact vx_ret (x_iret hC hw dL_viewPut_25 (by first | decide | omega) (by first | decide | omega) ⟨0, rfl, _, _, _, rfl, xO_dis hd1, Or.inl ⟨by omega, ho8, ⟨z8, hd_1, by omega, hA8⟩, hG1⟩⟩)
set_option maxHeartbeats 4000000 in
set_option maxRecDepth 100000 in
theorem c_L_viewStrike (l : Launch) (G : xG) (hst : l.stackTraces = false) {A : HM} {h0 o : Nat} {N : Int} {O : OW} {V : BW} {Wv : VW} {K : WA} {kp kv rfd : Int32} {d : Int64} {sv : Value} (hG : RG G A h0 N (O, V, Wv, K, kp, kv, rfd)) (hN : N ≤ 590) (hd : xDis A (xO o d sv)) {p0 : Int} (hp0 : -2147483648 ≤ p0 ∧ p0 ≤ 2147483647) {p1 : Int} (hp1 : -2147483648 ≤ p1 ∧ p1 ≤ 2147483647) : xMet l G yL_viewStrike wsL_viewStrike 8 134 2 12 [.ref h0, .int (iN (p0)), .int (iN (p1)), .ref o] (xU A (xO o d sv)) (fun r M1 => ∃ k9 : Int, r = some (.int (iN k9)) ∧ ∃ (A1 : HM) (d1 : Int64) (sv1 : Value), M1 = xU A1 (xO o d1 sv1) ∧ xDis A1 (xO o d1 sv1) ∧ ((k9 = 0 ∧ ((0 ≤ p0 ∧ p0 ≤ 3 ∧ opN (Wv p0.toNat) = 1) ∧ (0 ≤ p1 ∧ p1 ≤ 99)) ∧ (∃ z : Int, d1 = (iN z).toInt64 ∧ (-2147483648 ≤ z ∧ z ≤ 2147483647) ∧ z = A_viewStrike (O, V, Wv, K, kp, kv, rfd) p0 p1) ∧ RG G A1 h0 (N + 1) (S_viewStrike (O, V, Wv, K, kp, kv, rfd) p0 p1)) ∨ (k9 ≠ 0 ∧ ((k9 = 1 ∧ ¬ (0 ≤ p0 ∧ p0 ≤ 3 ∧ opN (Wv p0.toNat) = 1)) ∨ (k9 = 2 ∧ (0 ≤ p0 ∧ p0 ≤ 3 ∧ opN (Wv p0.toNat) = 1) ∧ ¬ (0 ≤ p1 ∧ p1 ≤ 99))) ∧ RG G A1 h0 (N + 1) (O, V, Wv, K, kp, kv, rfd)))) := by
  obtain ⟨bs, vs, og, qb, qk, qv, fb, fv, T, C, K0, hR, hK, hcb⟩ := hG
  replace hK : K = abK T C K0 := hK
  subst hK
  replace hR : RGx G A h0 bs vs og kp kv rfd qb qk qv fb fv O O Wv V T C K0 := hR
  refine x_introW (cc := cL_viewStrike) (maxL := 5) (ret := (some .int)) (hh := [(0, 11, 14, 19), (0, 11, 18, 21)]) (by exact pln_RL) rfl (Nat.le_of_ble_eq_true rfl) ?_
  intro p e R s m args below meth c ls hRf hRc hRs hRl htab hC hw hl
  have hinX4 : ∀ w ∈ wsX40, w ∈ wsL_viewStrike := fun w h => (List.mem_cons_of_mem _ (List.mem_append_left _ (List.mem_append_left _ (List.mem_append_left _ (List.mem_append_left _ (List.mem_append_left _ (List.mem_append_right _ h)))))))
  have hl : lv_has ls 5 [(0, .ref h0), (1, .int (iN (p0))), (2, .int (iN (p1))), (3, .ref o)] := hl
  refine lv_aload_n hC.1 hC.2.1 dL_viewStrike_0 rfl (lv_at hl 3 rfl) ?_
  refine lv_aload_n hC.1 hC.2.1 dL_viewStrike_1 rfl (lv_at hl 0 rfl) ?_
  refine lv_iload_n hC.1 hC.2.1 dL_viewStrike_2 rfl (lv_at hl 1 rfl) ?_
  refine lv_iload_n hC.1 hC.2.1 dL_viewStrike_3 rfl (lv_at hl 2 rfl) ?_
  refine x_callVX hC hw (lv_size hl) ((c_X3_viewStrike l G hst hR hcb hN (p0 := p0) (by first | assumption | omega) (p1 := p1) (by first | assumption | omega)).frame hd) gL_viewStrike_X3_viewStrike rfl dv_X3_viewStrike (xU_l hR.1) rfl rfl (Nat.le_of_ble_eq_true rfl) (by rw [hRf]; decide) (by rw [hRl]; decide) (by first | (rw [hRc]; decide) | omega) (by first | (rw [hRs]; decide) | omega) dL_viewStrike_4 (fun E ce q9 M1 H locs hqx hw hcell hcv hcls => ?_) (fun r9 M1 H locs hq hw => ?_)
  · obtain ⟨A1, ⟨hE, hG1⟩, hM1, hd1⟩ := hqx
    subst hM1
    rcases hE with ⟨rfl, hb9⟩ | ⟨rfl, hb9⟩
    · skip
      refine vx_catch (own := "RangeledgerLaw") (name := "java/lang/IndexOutOfBoundsException") hC.2.2.2.1 [] (⟨0, 11, 14, 19⟩ : ExceptionTableEntry) [(⟨0, 11, 18, 21⟩ : ExceptionTableEntry)] (by rw [htab]; rfl) (fun z hz => nomatch hz) (by decide) (by decide) (hC.2.2.2.2.1 _ (List.mem_cons_of_mem _ (List.mem_append_left _ (List.mem_append_left _ (List.mem_append_left _ (List.mem_append_left _ (List.mem_append_left _ (List.mem_append_left _ (List.mem_append_left _ (List.mem_of_getElem? (i := 0) rfl)))))))))) (va_Nw.use rfl (hC.2.2.2.2.2.2.2.2.1.2.2.2.1.1 ("java/lang/IndexOutOfBoundsException", "java/lang/IndexOutOfBoundsException") (by decide))) hcell hcv hcls ?_
      show W p l e R s m args below meth c H locs _ _ _ (F0 m 14 ls [.ref q9])
      refine lv_astore (lv' := [(4, .ref q9), (0, .ref h0), (1, .int (iN (p0))), (2, .int (iN (p1))), (3, .ref o)]) hC.1 hC.2.1 dL_viewStrike_14 hl (by decide) rfl (fun ls hl => ?_)
      refine x_const hC dL_viewStrike_16 ?_
      exact vx_ret (x_iret hC hw dL_viewStrike_17 (by first | decide | omega) (by first | decide | omega) ⟨1, rfl, _, _, _, rfl, hd1, Or.inr ⟨by omega, by omega, hG1⟩⟩)
    · skip
      refine vx_catch (own := "RangeledgerLaw") (name := "java/lang/IllegalArgumentException") hC.2.2.2.1 [(⟨0, 11, 14, 19⟩ : ExceptionTableEntry)] (⟨0, 11, 18, 21⟩ : ExceptionTableEntry) [] (by rw [htab]; rfl) (fun z hz => by simp only [List.mem_cons, List.not_mem_nil, or_false] at hz; subst hz; (· exact Or.inr ⟨by decide, "java/lang/IndexOutOfBoundsException", hC.2.2.2.2.1 _ (List.mem_cons_of_mem _ (List.mem_append_left _ (List.mem_append_left _ (List.mem_append_left _ (List.mem_append_left _ (List.mem_append_left _ (List.mem_append_left _ (List.mem_append_left _ (List.mem_of_getElem? (i := 0) rfl))))))))), hC.2.2.2.2.2.2.2.2.1.2.2.2.2.1 ("java/lang/IllegalArgumentException", "java/lang/IndexOutOfBoundsException") (by decide)⟩)) (by decide) (by decide) (hC.2.2.2.2.1 _ (List.mem_cons_of_mem _ (List.mem_append_left _ (List.mem_append_left _ (List.mem_append_left _ (List.mem_append_left _ (List.mem_append_left _ (List.mem_append_left _ (List.mem_append_left _ (List.mem_of_getElem? (i := 1) rfl)))))))))) (va_Nw.use rfl (hC.2.2.2.2.2.2.2.2.1.2.2.2.1.1 ("java/lang/IllegalArgumentException", "java/lang/IllegalArgumentException") (by decide))) hcell hcv hcls ?_
      show W p l e R s m args below meth c H locs _ _ _ (F0 m 18 ls [.ref q9])
      refine lv_astore (lv' := [(4, .ref q9), (0, .ref h0), (1, .int (iN (p0))), (2, .int (iN (p1))), (3, .ref o)]) hC.1 hC.2.1 dL_viewStrike_18 hl (by decide) rfl (fun ls hl => ?_)
      refine x_const hC dL_viewStrike_20 ?_
      exact vx_ret (x_iret hC hw dL_viewStrike_21 (by first | decide | omega) (by first | decide | omega) ⟨2, rfl, _, _, _, rfl, hd1, Or.inr ⟨by omega, by omega, hG1⟩⟩)
  · obtain ⟨A1, ⟨z8, hr9, hz8, ho8, hA8, hG1⟩, hM1, hd1⟩ := hq
    subst hr9
    subst hM1
    show W p l e R s m args below meth c H locs _ _ _ (F0 m 7 ls [.int (iN (z8)), .ref o])
    refine lv_i2l hC.1 hC.2.1 dL_viewStrike_7 rfl ?_
    refine lv_topl (fun d_1 hd_1 => ?_)
    refine x_putOn (fs2 := [.long (d_1), sv]) hC hw hinX4 (xU_b hd1 xO_s) (by simp) rfl dL_viewStrike_8 (fun H locs hw => ?_)
    rw [xU_up hd1] at hw
    refine lv_goto (tgt := 22) hC.1 hC.2.1 dL_viewStrike_11 (by decide) ?_
    refine x_const hC dL_viewStrike_22 ?_
    exact vx_ret (x_iret hC hw dL_viewStrike_23 (by first | decide | omega) (by first | decide | omega) ⟨0, rfl, _, _, _, rfl, xO_dis hd1, Or.inl ⟨by omega, ho8, ⟨z8, hd_1, by omega, hA8⟩, hG1⟩⟩)
set_option maxHeartbeats 4000000 in
set_option maxRecDepth 100000 in
theorem c_L_viewMerge (l : Launch) (G : xG) (hst : l.stackTraces = false) {A : HM} {h0 o : Nat} {N : Int} {O : OW} {V : BW} {Wv : VW} {K : WA} {kp kv rfd : Int32} {d : Int64} {sv : Value} (hG : RG G A h0 N (O, V, Wv, K, kp, kv, rfd)) (hN : N ≤ 590) (hd : xDis A (xO o d sv)) {p0 : Int} (hp0 : -2147483648 ≤ p0 ∧ p0 ≤ 2147483647) {p1 : Int} (hp1 : -2147483648 ≤ p1 ∧ p1 ≤ 2147483647) {p2 : Int} (hp2 : -2147483648 ≤ p2 ∧ p2 ≤ 2147483647) : xMet l G yL_viewMerge wsL_viewMerge 9 162 3 18 [.ref h0, .int (iN (p0)), .int (iN (p1)), .int (iN (p2)), .ref o] (xU A (xO o d sv)) (fun r M1 => ∃ k9 : Int, r = some (.int (iN k9)) ∧ ∃ (A1 : HM) (d1 : Int64) (sv1 : Value), M1 = xU A1 (xO o d1 sv1) ∧ xDis A1 (xO o d1 sv1) ∧ ((k9 = 0 ∧ ((0 ≤ p0 ∧ p0 ≤ 3 ∧ opN (Wv p0.toNat) = 1) ∧ ((0 ≤ p1 ∧ p1 ≤ 99) ∧ (-9999 ≤ p2 ∧ p2 ≤ 9999))) ∧ (∃ z : Int, d1 = (iN z).toInt64 ∧ (-2147483648 ≤ z ∧ z ≤ 2147483647) ∧ z = A_viewMerge (O, V, Wv, K, kp, kv, rfd) p0 p1 p2) ∧ RG G A1 h0 (N + 1) (S_viewMerge (O, V, Wv, K, kp, kv, rfd) p0 p1 p2)) ∨ (k9 ≠ 0 ∧ ((k9 = 1 ∧ ¬ (0 ≤ p0 ∧ p0 ≤ 3 ∧ opN (Wv p0.toNat) = 1)) ∨ (k9 = 2 ∧ (0 ≤ p0 ∧ p0 ≤ 3 ∧ opN (Wv p0.toNat) = 1) ∧ ¬ ((0 ≤ p1 ∧ p1 ≤ 99) ∧ (-9999 ≤ p2 ∧ p2 ≤ 9999)))) ∧ RG G A1 h0 (N + 1) (O, V, Wv, K, kp, kv, rfd)))) := by
  obtain ⟨bs, vs, og, qb, qk, qv, fb, fv, T, C, K0, hR, hK, hcb⟩ := hG
  replace hK : K = abK T C K0 := hK
  subst hK
  replace hR : RGx G A h0 bs vs og kp kv rfd qb qk qv fb fv O O Wv V T C K0 := hR
  refine x_introW (cc := cL_viewMerge) (maxL := 6) (ret := (some .int)) (hh := [(0, 13, 16, 19), (0, 13, 20, 21)]) (by exact pln_RL) rfl (Nat.le_of_ble_eq_true rfl) ?_
  intro p e R s m args below meth c ls hRf hRc hRs hRl htab hC hw hl
  have hinX4 : ∀ w ∈ wsX40, w ∈ wsL_viewMerge := fun w h => (List.mem_cons_of_mem _ (List.mem_append_left _ (List.mem_append_left _ (List.mem_append_left _ (List.mem_append_left _ (List.mem_append_left _ (List.mem_append_right _ h)))))))
  have hl : lv_has ls 6 [(0, .ref h0), (1, .int (iN (p0))), (2, .int (iN (p1))), (3, .int (iN (p2))), (4, .ref o)] := hl
  refine lv_aload hC.1 hC.2.1 dL_viewMerge_0 (lv_at hl 4 rfl) ?_
  refine lv_aload_n hC.1 hC.2.1 dL_viewMerge_2 rfl (lv_at hl 0 rfl) ?_
  refine lv_iload_n hC.1 hC.2.1 dL_viewMerge_3 rfl (lv_at hl 1 rfl) ?_
  refine lv_iload_n hC.1 hC.2.1 dL_viewMerge_4 rfl (lv_at hl 2 rfl) ?_
  refine lv_iload_n hC.1 hC.2.1 dL_viewMerge_5 rfl (lv_at hl 3 rfl) ?_
  refine x_callVX hC hw (lv_size hl) ((c_X3_viewMerge l G hst hR hcb hN (p0 := p0) (by first | assumption | omega) (p1 := p1) (by first | assumption | omega) (p2 := p2) (by first | assumption | omega)).frame hd) gL_viewMerge_X3_viewMerge rfl dv_X3_viewMerge (xU_l hR.1) rfl rfl (Nat.le_of_ble_eq_true rfl) (by rw [hRf]; decide) (by rw [hRl]; decide) (by first | (rw [hRc]; decide) | omega) (by first | (rw [hRs]; decide) | omega) dL_viewMerge_6 (fun E ce q9 M1 H locs hqx hw hcell hcv hcls => ?_) (fun r9 M1 H locs hq hw => ?_)
  · obtain ⟨A1, ⟨hE, hG1⟩, hM1, hd1⟩ := hqx
    subst hM1
    rcases hE with ⟨rfl, hb9⟩ | ⟨rfl, hb9⟩
    · skip
      refine vx_catch (own := "RangeledgerLaw") (name := "java/lang/IndexOutOfBoundsException") hC.2.2.2.1 [] (⟨0, 13, 16, 19⟩ : ExceptionTableEntry) [(⟨0, 13, 20, 21⟩ : ExceptionTableEntry)] (by rw [htab]; rfl) (fun z hz => nomatch hz) (by decide) (by decide) (hC.2.2.2.2.1 _ (List.mem_cons_of_mem _ (List.mem_append_left _ (List.mem_append_left _ (List.mem_append_left _ (List.mem_append_left _ (List.mem_append_left _ (List.mem_append_left _ (List.mem_append_left _ (List.mem_of_getElem? (i := 0) rfl)))))))))) (va_Nw.use rfl (hC.2.2.2.2.2.2.2.2.1.2.2.2.1.1 ("java/lang/IndexOutOfBoundsException", "java/lang/IndexOutOfBoundsException") (by decide))) hcell hcv hcls ?_
      show W p l e R s m args below meth c H locs _ _ _ (F0 m 16 ls [.ref q9])
      refine lv_astore (lv' := [(5, .ref q9), (0, .ref h0), (1, .int (iN (p0))), (2, .int (iN (p1))), (3, .int (iN (p2))), (4, .ref o)]) hC.1 hC.2.1 dL_viewMerge_16 hl (by decide) rfl (fun ls hl => ?_)
      refine x_const hC dL_viewMerge_18 ?_
      exact vx_ret (x_iret hC hw dL_viewMerge_19 (by first | decide | omega) (by first | decide | omega) ⟨1, rfl, _, _, _, rfl, hd1, Or.inr ⟨by omega, by omega, hG1⟩⟩)
    · skip
      refine vx_catch (own := "RangeledgerLaw") (name := "java/lang/IllegalArgumentException") hC.2.2.2.1 [(⟨0, 13, 16, 19⟩ : ExceptionTableEntry)] (⟨0, 13, 20, 21⟩ : ExceptionTableEntry) [] (by rw [htab]; rfl) (fun z hz => by simp only [List.mem_cons, List.not_mem_nil, or_false] at hz; subst hz; (· exact Or.inr ⟨by decide, "java/lang/IndexOutOfBoundsException", hC.2.2.2.2.1 _ (List.mem_cons_of_mem _ (List.mem_append_left _ (List.mem_append_left _ (List.mem_append_left _ (List.mem_append_left _ (List.mem_append_left _ (List.mem_append_left _ (List.mem_append_left _ (List.mem_of_getElem? (i := 0) rfl))))))))), hC.2.2.2.2.2.2.2.2.1.2.2.2.2.1 ("java/lang/IllegalArgumentException", "java/lang/IndexOutOfBoundsException") (by decide)⟩)) (by decide) (by decide) (hC.2.2.2.2.1 _ (List.mem_cons_of_mem _ (List.mem_append_left _ (List.mem_append_left _ (List.mem_append_left _ (List.mem_append_left _ (List.mem_append_left _ (List.mem_append_left _ (List.mem_append_left _ (List.mem_of_getElem? (i := 1) rfl)))))))))) (va_Nw.use rfl (hC.2.2.2.2.2.2.2.2.1.2.2.2.1.1 ("java/lang/IllegalArgumentException", "java/lang/IllegalArgumentException") (by decide))) hcell hcv hcls ?_
      show W p l e R s m args below meth c H locs _ _ _ (F0 m 20 ls [.ref q9])
      refine lv_astore (lv' := [(5, .ref q9), (0, .ref h0), (1, .int (iN (p0))), (2, .int (iN (p1))), (3, .int (iN (p2))), (4, .ref o)]) hC.1 hC.2.1 dL_viewMerge_20 hl (by decide) rfl (fun ls hl => ?_)
      refine x_const hC dL_viewMerge_22 ?_
      exact vx_ret (x_iret hC hw dL_viewMerge_23 (by first | decide | omega) (by first | decide | omega) ⟨2, rfl, _, _, _, rfl, hd1, Or.inr ⟨by omega, by omega, hG1⟩⟩)
  · obtain ⟨A1, ⟨z8, hr9, hz8, ho8, hA8, hG1⟩, hM1, hd1⟩ := hq
    subst hr9
    subst hM1
    show W p l e R s m args below meth c H locs _ _ _ (F0 m 9 ls [.int (iN (z8)), .ref o])
    refine lv_i2l hC.1 hC.2.1 dL_viewMerge_9 rfl ?_
    refine lv_topl (fun d_1 hd_1 => ?_)
    refine x_putOn (fs2 := [.long (d_1), sv]) hC hw hinX4 (xU_b hd1 xO_s) (by simp) rfl dL_viewMerge_10 (fun H locs hw => ?_)
    rw [xU_up hd1] at hw
    refine lv_goto (tgt := 24) hC.1 hC.2.1 dL_viewMerge_13 (by decide) ?_
    refine x_const hC dL_viewMerge_24 ?_
    exact vx_ret (x_iret hC hw dL_viewMerge_25 (by first | decide | omega) (by first | decide | omega) ⟨0, rfl, _, _, _, rfl, xO_dis hd1, Or.inl ⟨by omega, ho8, ⟨z8, hd_1, by omega, hA8⟩, hG1⟩⟩)
set_option maxHeartbeats 4000000 in
set_option maxRecDepth 100000 in
theorem c_L_viewPoll (l : Launch) (G : xG) (hst : l.stackTraces = false) {A : HM} {h0 o : Nat} {N : Int} {O : OW} {V : BW} {Wv : VW} {K : WA} {kp kv rfd : Int32} {d : Int64} {sv : Value} (hG : RG G A h0 N (O, V, Wv, K, kp, kv, rfd)) (hN : N ≤ 590) (hd : xDis A (xO o d sv)) {p0 : Int} (hp0 : -2147483648 ≤ p0 ∧ p0 ≤ 2147483647) {p1 : Int} (hp1 : -2147483648 ≤ p1 ∧ p1 ≤ 2147483647) (hb1 : p1 = 0 ∨ p1 = 1) : xMet l G yL_viewPoll wsL_viewPoll 8 134 1 6 [.ref h0, .int (iN (p0)), .int (iN (p1)), .ref o] (xU A (xO o d sv)) (fun r M1 => ∃ k9 : Int, r = some (.int (iN k9)) ∧ ∃ (A1 : HM) (d1 : Int64) (sv1 : Value), M1 = xU A1 (xO o d1 sv1) ∧ xDis A1 (xO o d1 sv1) ∧ ((k9 = 0 ∧ ((0 ≤ p0 ∧ p0 ≤ 3 ∧ opN (Wv p0.toNat) = 1)) ∧ (∃ z : Int, d1 = (iN z).toInt64 ∧ (-2147483648 ≤ z ∧ z ≤ 2147483647) ∧ z = A_viewPoll (O, V, Wv, K, kp, kv, rfd) p0 p1) ∧ RG G A1 h0 (N + 1) (S_viewPoll (O, V, Wv, K, kp, kv, rfd) p0 p1)) ∨ (k9 ≠ 0 ∧ ((k9 = 1 ∧ ¬ (0 ≤ p0 ∧ p0 ≤ 3 ∧ opN (Wv p0.toNat) = 1))) ∧ RG G A1 h0 (N + 1) (O, V, Wv, K, kp, kv, rfd)))) := by
  obtain ⟨bs, vs, og, qb, qk, qv, fb, fv, T, C, K0, hR, hK, hcb⟩ := hG
  replace hK : K = abK T C K0 := hK
  subst hK
  replace hR : RGx G A h0 bs vs og kp kv rfd qb qk qv fb fv O O Wv V T C K0 := hR
  refine x_introW (cc := cL_viewPoll) (maxL := 5) (ret := (some .int)) (hh := [(0, 11, 14, 19)]) (by exact pln_RL) rfl (Nat.le_of_ble_eq_true rfl) ?_
  intro p e R s m args below meth c ls hRf hRc hRs hRl htab hC hw hl
  have hinX4 : ∀ w ∈ wsX40, w ∈ wsL_viewPoll := fun w h => (List.mem_cons_of_mem _ (List.mem_append_left _ (List.mem_append_left _ (List.mem_append_left _ (List.mem_append_left _ (List.mem_append_right _ h))))))
  have hl : lv_has ls 5 [(0, .ref h0), (1, .int (iN (p0))), (2, .int (iN (p1))), (3, .ref o)] := hl
  refine lv_aload_n hC.1 hC.2.1 dL_viewPoll_0 rfl (lv_at hl 3 rfl) ?_
  refine lv_aload_n hC.1 hC.2.1 dL_viewPoll_1 rfl (lv_at hl 0 rfl) ?_
  refine lv_iload_n hC.1 hC.2.1 dL_viewPoll_2 rfl (lv_at hl 1 rfl) ?_
  refine lv_iload_n hC.1 hC.2.1 dL_viewPoll_3 rfl (lv_at hl 2 rfl) ?_
  refine x_callVX hC hw (lv_size hl) ((c_X3_viewPoll l G hst hR hcb hN (p0 := p0) (by first | assumption | omega) (p1 := p1) (by first | assumption | omega) (by omega)).frame hd) gL_viewPoll_X3_viewPoll rfl dv_X3_viewPoll (xU_l hR.1) rfl rfl (Nat.le_of_ble_eq_true rfl) (by rw [hRf]; decide) (by rw [hRl]; decide) (by first | (rw [hRc]; decide) | omega) (by first | (rw [hRs]; decide) | omega) dL_viewPoll_4 (fun E ce q9 M1 H locs hqx hw hcell hcv hcls => ?_) (fun r9 M1 H locs hq hw => ?_)
  · obtain ⟨A1, ⟨hE, hG1⟩, hM1, hd1⟩ := hqx
    subst hM1
    obtain ⟨rfl, hb9⟩ := hE
    refine vx_catch (own := "RangeledgerLaw") (name := "java/lang/IndexOutOfBoundsException") hC.2.2.2.1 [] (⟨0, 11, 14, 19⟩ : ExceptionTableEntry) [] (by rw [htab]; rfl) (fun z hz => nomatch hz) (by decide) (by decide) (hC.2.2.2.2.1 _ (List.mem_cons_of_mem _ (List.mem_append_left _ (List.mem_append_left _ (List.mem_append_left _ (List.mem_append_left _ (List.mem_append_left _ (List.mem_append_left _ (List.mem_of_getElem? (i := 0) rfl))))))))) (va_Nw.use rfl (hC.2.2.2.2.2.2.2.2.1.2.2.2.1.1 ("java/lang/IndexOutOfBoundsException", "java/lang/IndexOutOfBoundsException") (by decide))) hcell hcv hcls ?_
    show W p l e R s m args below meth c H locs _ _ _ (F0 m 14 ls [.ref q9])
    refine lv_astore (lv' := [(4, .ref q9), (0, .ref h0), (1, .int (iN (p0))), (2, .int (iN (p1))), (3, .ref o)]) hC.1 hC.2.1 dL_viewPoll_14 hl (by decide) rfl (fun ls hl => ?_)
    refine x_const hC dL_viewPoll_16 ?_
    exact vx_ret (x_iret hC hw dL_viewPoll_17 (by first | decide | omega) (by first | decide | omega) ⟨1, rfl, _, _, _, rfl, hd1, Or.inr ⟨by omega, by omega, hG1⟩⟩)
  · obtain ⟨A1, ⟨z8, hr9, hz8, ho8, hA8, hG1⟩, hM1, hd1⟩ := hq
    subst hr9
    subst hM1
    show W p l e R s m args below meth c H locs _ _ _ (F0 m 7 ls [.int (iN (z8)), .ref o])
    refine lv_i2l hC.1 hC.2.1 dL_viewPoll_7 rfl ?_
    refine lv_topl (fun d_1 hd_1 => ?_)
    refine x_putOn (fs2 := [.long (d_1), sv]) hC hw hinX4 (xU_b hd1 xO_s) (by simp) rfl dL_viewPoll_8 (fun H locs hw => ?_)
    rw [xU_up hd1] at hw
    refine lv_goto (tgt := 18) hC.1 hC.2.1 dL_viewPoll_11 (by decide) ?_
    refine x_const hC dL_viewPoll_18 ?_
    exact vx_ret (x_iret hC hw dL_viewPoll_19 (by first | decide | omega) (by first | decide | omega) ⟨0, rfl, _, _, _, rfl, xO_dis hd1, Or.inl ⟨by omega, ho8, ⟨z8, hd_1, by omega, hA8⟩, hG1⟩⟩)
set_option maxHeartbeats 4000000 in
set_option maxRecDepth 100000 in
theorem c_L_viewClear (l : Launch) (G : xG) (hst : l.stackTraces = false) {A : HM} {h0 o : Nat} {N : Int} {O : OW} {V : BW} {Wv : VW} {K : WA} {kp kv rfd : Int32} {d : Int64} {sv : Value} (hG : RG G A h0 N (O, V, Wv, K, kp, kv, rfd)) (hN : N ≤ 590) (hd : xDis A (xO o d sv)) {p0 : Int} (hp0 : -2147483648 ≤ p0 ∧ p0 ≤ 2147483647) : xMet l G yL_viewClear wsL_viewClear 8 133 1 6 [.ref h0, .int (iN (p0)), .ref o] (xU A (xO o d sv)) (fun r M1 => ∃ k9 : Int, r = some (.int (iN k9)) ∧ ∃ (A1 : HM) (d1 : Int64) (sv1 : Value), M1 = xU A1 (xO o d1 sv1) ∧ xDis A1 (xO o d1 sv1) ∧ ((k9 = 0 ∧ ((0 ≤ p0 ∧ p0 ≤ 3 ∧ opN (Wv p0.toNat) = 1)) ∧ (∃ z : Int, d1 = (iN z).toInt64 ∧ (-2147483648 ≤ z ∧ z ≤ 2147483647) ∧ z = A_viewClear (O, V, Wv, K, kp, kv, rfd) p0) ∧ RG G A1 h0 (N + 1) (S_viewClear (O, V, Wv, K, kp, kv, rfd) p0)) ∨ (k9 ≠ 0 ∧ ((k9 = 1 ∧ ¬ (0 ≤ p0 ∧ p0 ≤ 3 ∧ opN (Wv p0.toNat) = 1))) ∧ RG G A1 h0 (N + 1) (O, V, Wv, K, kp, kv, rfd)))) := by
  obtain ⟨bs, vs, og, qb, qk, qv, fb, fv, T, C, K0, hR, hK, hcb⟩ := hG
  replace hK : K = abK T C K0 := hK
  subst hK
  replace hR : RGx G A h0 bs vs og kp kv rfd qb qk qv fb fv O O Wv V T C K0 := hR
  refine x_introW (cc := cL_viewClear) (maxL := 4) (ret := (some .int)) (hh := [(0, 10, 13, 19)]) (by exact pln_RL) rfl (Nat.le_of_ble_eq_true rfl) ?_
  intro p e R s m args below meth c ls hRf hRc hRs hRl htab hC hw hl
  have hinX4 : ∀ w ∈ wsX40, w ∈ wsL_viewClear := fun w h => (List.mem_cons_of_mem _ (List.mem_append_left _ (List.mem_append_left _ (List.mem_append_left _ (List.mem_append_left _ (List.mem_append_right _ h))))))
  have hl : lv_has ls 4 [(0, .ref h0), (1, .int (iN (p0))), (2, .ref o)] := hl
  refine lv_aload_n hC.1 hC.2.1 dL_viewClear_0 rfl (lv_at hl 2 rfl) ?_
  refine lv_aload_n hC.1 hC.2.1 dL_viewClear_1 rfl (lv_at hl 0 rfl) ?_
  refine lv_iload_n hC.1 hC.2.1 dL_viewClear_2 rfl (lv_at hl 1 rfl) ?_
  refine x_callVX hC hw (lv_size hl) ((c_X3_viewClear l G hst hR hcb hN (p0 := p0) (by first | assumption | omega)).frame hd) gL_viewClear_X3_viewClear rfl dv_X3_viewClear (xU_l hR.1) rfl rfl (Nat.le_of_ble_eq_true rfl) (by rw [hRf]; decide) (by rw [hRl]; decide) (by first | (rw [hRc]; decide) | omega) (by first | (rw [hRs]; decide) | omega) dL_viewClear_3 (fun E ce q9 M1 H locs hqx hw hcell hcv hcls => ?_) (fun r9 M1 H locs hq hw => ?_)
  · obtain ⟨A1, ⟨hE, hG1⟩, hM1, hd1⟩ := hqx
    subst hM1
    obtain ⟨rfl, hb9⟩ := hE
    refine vx_catch (own := "RangeledgerLaw") (name := "java/lang/IndexOutOfBoundsException") hC.2.2.2.1 [] (⟨0, 10, 13, 19⟩ : ExceptionTableEntry) [] (by rw [htab]; rfl) (fun z hz => nomatch hz) (by decide) (by decide) (hC.2.2.2.2.1 _ (List.mem_cons_of_mem _ (List.mem_append_left _ (List.mem_append_left _ (List.mem_append_left _ (List.mem_append_left _ (List.mem_append_left _ (List.mem_append_left _ (List.mem_of_getElem? (i := 0) rfl))))))))) (va_Nw.use rfl (hC.2.2.2.2.2.2.2.2.1.2.2.2.1.1 ("java/lang/IndexOutOfBoundsException", "java/lang/IndexOutOfBoundsException") (by decide))) hcell hcv hcls ?_
    show W p l e R s m args below meth c H locs _ _ _ (F0 m 13 ls [.ref q9])
    refine lv_astore_n (lv' := [(3, .ref q9), (0, .ref h0), (1, .int (iN (p0))), (2, .ref o)]) hC.1 hC.2.1 dL_viewClear_13 rfl hl (by decide) rfl (fun ls hl => ?_)
    refine x_const hC dL_viewClear_14 ?_
    exact vx_ret (x_iret hC hw dL_viewClear_15 (by first | decide | omega) (by first | decide | omega) ⟨1, rfl, _, _, _, rfl, hd1, Or.inr ⟨by omega, by omega, hG1⟩⟩)
  · obtain ⟨A1, ⟨z8, hr9, hz8, ho8, hA8, hG1⟩, hM1, hd1⟩ := hq
    subst hr9
    subst hM1
    show W p l e R s m args below meth c H locs _ _ _ (F0 m 6 ls [.int (iN (z8)), .ref o])
    refine lv_i2l hC.1 hC.2.1 dL_viewClear_6 rfl ?_
    refine lv_topl (fun d_1 hd_1 => ?_)
    refine x_putOn (fs2 := [.long (d_1), sv]) hC hw hinX4 (xU_b hd1 xO_s) (by simp) rfl dL_viewClear_7 (fun H locs hw => ?_)
    rw [xU_up hd1] at hw
    refine lv_goto (tgt := 16) hC.1 hC.2.1 dL_viewClear_10 (by decide) ?_
    refine x_const hC dL_viewClear_16 ?_
    exact vx_ret (x_iret hC hw dL_viewClear_17 (by first | decide | omega) (by first | decide | omega) ⟨0, rfl, _, _, _, rfl, xO_dis hd1, Or.inl ⟨by omega, ho8, ⟨z8, hd_1, by omega, hA8⟩, hG1⟩⟩)
set_option maxHeartbeats 4000000 in
set_option maxRecDepth 100000 in
theorem c_L_walk (l : Launch) (G : xG) (hst : l.stackTraces = false) {A : HM} {h0 o : Nat} {N : Int} {O : OW} {V : BW} {Wv : VW} {K : WA} {kp kv rfd : Int32} {d : Int64} {sv : Value} (hG : RG G A h0 N (O, V, Wv, K, kp, kv, rfd)) (hN : N ≤ 590) (hd : xDis A (xO o d sv)) {p0 : Int} (hp0 : -2147483648 ≤ p0 ∧ p0 ≤ 2147483647) : xMet l G yL_walk wsL_walk 8 132 3 18 [.ref h0, .int (iN (p0)), .ref o] (xU A (xO o d sv)) (fun r M1 => ∃ k9 : Int, r = some (.int (iN k9)) ∧ ∃ (A1 : HM) (d1 : Int64) (sv1 : Value), M1 = xU A1 (xO o d1 sv1) ∧ xDis A1 (xO o d1 sv1) ∧ ((k9 = 0 ∧ ((0 ≤ p0 ∧ p0 ≤ 2)) ∧ (∃ z : Int, d1 = (iN z).toInt64 ∧ (-2147483648 ≤ z ∧ z ≤ 2147483647) ∧ z = A_walk (O, V, Wv, K, kp, kv, rfd) p0) ∧ RG G A1 h0 (N + 1) (S_walk (O, V, Wv, K, kp, kv, rfd) p0)) ∨ (k9 ≠ 0 ∧ ((k9 = 1 ∧ ¬ (0 ≤ p0 ∧ p0 ≤ 2))) ∧ RG G A1 h0 (N + 1) (O, V, Wv, K, kp, kv, rfd)))) := by
  obtain ⟨bs, vs, og, qb, qk, qv, fb, fv, T, C, K0, hR, hK, hcb⟩ := hG
  replace hK : K = abK T C K0 := hK
  subst hK
  replace hR : RGx G A h0 bs vs og kp kv rfd qb qk qv fb fv O O Wv V T C K0 := hR
  refine x_introW (cc := cL_walk) (maxL := 4) (ret := (some .int)) (hh := [(0, 10, 13, 19)]) (by exact pln_RL) rfl (Nat.le_of_ble_eq_true rfl) ?_
  intro p e R s m args below meth c ls hRf hRc hRs hRl htab hC hw hl
  have hinX4 : ∀ w ∈ wsX40, w ∈ wsL_walk := fun w h => (List.mem_cons_of_mem _ (List.mem_append_left _ (List.mem_append_left _ (List.mem_append_left _ (List.mem_append_left _ (List.mem_append_left _ (List.mem_append_right _ h)))))))
  have hl : lv_has ls 4 [(0, .ref h0), (1, .int (iN (p0))), (2, .ref o)] := hl
  refine lv_aload_n hC.1 hC.2.1 dL_walk_0 rfl (lv_at hl 2 rfl) ?_
  refine lv_aload_n hC.1 hC.2.1 dL_walk_1 rfl (lv_at hl 0 rfl) ?_
  refine lv_iload_n hC.1 hC.2.1 dL_walk_2 rfl (lv_at hl 1 rfl) ?_
  refine x_callVX hC hw (lv_size hl) ((c_X3_walk l G hst hR hcb hN (p0 := p0) (by first | assumption | omega)).frame hd) gL_walk_X3_walk rfl dv_X3_walk (xU_l hR.1) rfl rfl (Nat.le_of_ble_eq_true rfl) (by rw [hRf]; decide) (by rw [hRl]; decide) (by first | (rw [hRc]; decide) | omega) (by first | (rw [hRs]; decide) | omega) dL_walk_3 (fun E ce q9 M1 H locs hqx hw hcell hcv hcls => ?_) (fun r9 M1 H locs hq hw => ?_)
  · obtain ⟨A1, ⟨hE, hG1⟩, hM1, hd1⟩ := hqx
    subst hM1
    obtain ⟨rfl, hb9⟩ := hE
    refine vx_catch (own := "RangeledgerLaw") (name := "java/lang/IndexOutOfBoundsException") hC.2.2.2.1 [] (⟨0, 10, 13, 19⟩ : ExceptionTableEntry) [] (by rw [htab]; rfl) (fun z hz => nomatch hz) (by decide) (by decide) (hC.2.2.2.2.1 _ (List.mem_cons_of_mem _ (List.mem_append_left _ (List.mem_append_left _ (List.mem_append_left _ (List.mem_append_left _ (List.mem_append_left _ (List.mem_append_left _ (List.mem_append_left _ (List.mem_of_getElem? (i := 0) rfl)))))))))) (va_Nw.use rfl (hC.2.2.2.2.2.2.2.2.1.2.2.2.1.1 ("java/lang/IndexOutOfBoundsException", "java/lang/IndexOutOfBoundsException") (by decide))) hcell hcv hcls ?_
    show W p l e R s m args below meth c H locs _ _ _ (F0 m 13 ls [.ref q9])
    refine lv_astore_n (lv' := [(3, .ref q9), (0, .ref h0), (1, .int (iN (p0))), (2, .ref o)]) hC.1 hC.2.1 dL_walk_13 rfl hl (by decide) rfl (fun ls hl => ?_)
    refine x_const hC dL_walk_14 ?_
    exact vx_ret (x_iret hC hw dL_walk_15 (by first | decide | omega) (by first | decide | omega) ⟨1, rfl, _, _, _, rfl, hd1, Or.inr ⟨by omega, by omega, hG1⟩⟩)
  · obtain ⟨A1, ⟨z8, hr9, hz8, ho8, hA8, hG1⟩, hM1, hd1⟩ := hq
    subst hr9
    subst hM1
    show W p l e R s m args below meth c H locs _ _ _ (F0 m 6 ls [.int (iN (z8)), .ref o])
    refine lv_i2l hC.1 hC.2.1 dL_walk_6 rfl ?_
    refine lv_topl (fun d_1 hd_1 => ?_)
    refine x_putOn (fs2 := [.long (d_1), sv]) hC hw hinX4 (xU_b hd1 xO_s) (by simp) rfl dL_walk_7 (fun H locs hw => ?_)
    rw [xU_up hd1] at hw
    refine lv_goto (tgt := 16) hC.1 hC.2.1 dL_walk_10 (by decide) ?_
    refine x_const hC dL_walk_16 ?_
    exact vx_ret (x_iret hC hw dL_walk_17 (by first | decide | omega) (by first | decide | omega) ⟨0, rfl, _, _, _, rfl, xO_dis hd1, Or.inl ⟨by omega, ho8, ⟨z8, hd_1, by omega, hA8⟩, hG1⟩⟩)
set_option maxHeartbeats 4000000 in
set_option maxRecDepth 100000 in
theorem c_L_viewWalk (l : Launch) (G : xG) (hst : l.stackTraces = false) {A : HM} {h0 o : Nat} {N : Int} {O : OW} {V : BW} {Wv : VW} {K : WA} {kp kv rfd : Int32} {d : Int64} {sv : Value} (hG : RG G A h0 N (O, V, Wv, K, kp, kv, rfd)) (hN : N ≤ 590) (hd : xDis A (xO o d sv)) {p0 : Int} (hp0 : -2147483648 ≤ p0 ∧ p0 ≤ 2147483647) : xMet l G yL_viewWalk wsL_viewWalk 8 132 2 11 [.ref h0, .int (iN (p0)), .ref o] (xU A (xO o d sv)) (fun r M1 => ∃ k9 : Int, r = some (.int (iN k9)) ∧ ∃ (A1 : HM) (d1 : Int64) (sv1 : Value), M1 = xU A1 (xO o d1 sv1) ∧ xDis A1 (xO o d1 sv1) ∧ ((k9 = 0 ∧ ((0 ≤ p0 ∧ p0 ≤ 3 ∧ opN (Wv p0.toNat) = 1)) ∧ (∃ z : Int, d1 = (iN z).toInt64 ∧ (-2147483648 ≤ z ∧ z ≤ 2147483647) ∧ z = A_viewWalk (O, V, Wv, K, kp, kv, rfd) p0) ∧ RG G A1 h0 (N + 1) (S_viewWalk (O, V, Wv, K, kp, kv, rfd) p0)) ∨ (k9 ≠ 0 ∧ ((k9 = 1 ∧ ¬ (0 ≤ p0 ∧ p0 ≤ 3 ∧ opN (Wv p0.toNat) = 1))) ∧ RG G A1 h0 (N + 1) (O, V, Wv, K, kp, kv, rfd)))) := by
  obtain ⟨bs, vs, og, qb, qk, qv, fb, fv, T, C, K0, hR, hK, hcb⟩ := hG
  replace hK : K = abK T C K0 := hK
  subst hK
  replace hR : RGx G A h0 bs vs og kp kv rfd qb qk qv fb fv O O Wv V T C K0 := hR
  refine x_introW (cc := cL_viewWalk) (maxL := 4) (ret := (some .int)) (hh := [(0, 10, 13, 19)]) (by exact pln_RL) rfl (Nat.le_of_ble_eq_true rfl) ?_
  intro p e R s m args below meth c ls hRf hRc hRs hRl htab hC hw hl
  have hinX4 : ∀ w ∈ wsX40, w ∈ wsL_viewWalk := fun w h => (List.mem_cons_of_mem _ (List.mem_append_left _ (List.mem_append_left _ (List.mem_append_left _ (List.mem_append_left _ (List.mem_append_left _ (List.mem_append_right _ h)))))))
  have hl : lv_has ls 4 [(0, .ref h0), (1, .int (iN (p0))), (2, .ref o)] := hl
  refine lv_aload_n hC.1 hC.2.1 dL_viewWalk_0 rfl (lv_at hl 2 rfl) ?_
  refine lv_aload_n hC.1 hC.2.1 dL_viewWalk_1 rfl (lv_at hl 0 rfl) ?_
  refine lv_iload_n hC.1 hC.2.1 dL_viewWalk_2 rfl (lv_at hl 1 rfl) ?_
  refine x_callVX hC hw (lv_size hl) ((c_X3_viewWalk l G hst hR hcb hN (p0 := p0) (by first | assumption | omega)).frame hd) gL_viewWalk_X3_viewWalk rfl dv_X3_viewWalk (xU_l hR.1) rfl rfl (Nat.le_of_ble_eq_true rfl) (by rw [hRf]; decide) (by rw [hRl]; decide) (by first | (rw [hRc]; decide) | omega) (by first | (rw [hRs]; decide) | omega) dL_viewWalk_3 (fun E ce q9 M1 H locs hqx hw hcell hcv hcls => ?_) (fun r9 M1 H locs hq hw => ?_)
  · obtain ⟨A1, ⟨hE, hG1⟩, hM1, hd1⟩ := hqx
    subst hM1
    obtain ⟨rfl, hb9⟩ := hE
    refine vx_catch (own := "RangeledgerLaw") (name := "java/lang/IndexOutOfBoundsException") hC.2.2.2.1 [] (⟨0, 10, 13, 19⟩ : ExceptionTableEntry) [] (by rw [htab]; rfl) (fun z hz => nomatch hz) (by decide) (by decide) (hC.2.2.2.2.1 _ (List.mem_cons_of_mem _ (List.mem_append_left _ (List.mem_append_left _ (List.mem_append_left _ (List.mem_append_left _ (List.mem_append_left _ (List.mem_append_left _ (List.mem_append_left _ (List.mem_of_getElem? (i := 0) rfl)))))))))) (va_Nw.use rfl (hC.2.2.2.2.2.2.2.2.1.2.2.2.1.1 ("java/lang/IndexOutOfBoundsException", "java/lang/IndexOutOfBoundsException") (by decide))) hcell hcv hcls ?_
    show W p l e R s m args below meth c H locs _ _ _ (F0 m 13 ls [.ref q9])
    refine lv_astore_n (lv' := [(3, .ref q9), (0, .ref h0), (1, .int (iN (p0))), (2, .ref o)]) hC.1 hC.2.1 dL_viewWalk_13 rfl hl (by decide) rfl (fun ls hl => ?_)
    refine x_const hC dL_viewWalk_14 ?_
    exact vx_ret (x_iret hC hw dL_viewWalk_15 (by first | decide | omega) (by first | decide | omega) ⟨1, rfl, _, _, _, rfl, hd1, Or.inr ⟨by omega, by omega, hG1⟩⟩)
  · obtain ⟨A1, ⟨z8, hr9, hz8, ho8, hA8, hG1⟩, hM1, hd1⟩ := hq
    subst hr9
    subst hM1
    show W p l e R s m args below meth c H locs _ _ _ (F0 m 6 ls [.int (iN (z8)), .ref o])
    refine lv_i2l hC.1 hC.2.1 dL_viewWalk_6 rfl ?_
    refine lv_topl (fun d_1 hd_1 => ?_)
    refine x_putOn (fs2 := [.long (d_1), sv]) hC hw hinX4 (xU_b hd1 xO_s) (by simp) rfl dL_viewWalk_7 (fun H locs hw => ?_)
    rw [xU_up hd1] at hw
    refine lv_goto (tgt := 16) hC.1 hC.2.1 dL_viewWalk_10 (by decide) ?_
    refine x_const hC dL_viewWalk_16 ?_
    exact vx_ret (x_iret hC hw dL_viewWalk_17 (by first | decide | omega) (by first | decide | omega) ⟨0, rfl, _, _, _, rfl, xO_dis hd1, Or.inl ⟨by omega, ho8, ⟨z8, hd_1, by omega, hA8⟩, hG1⟩⟩)
set_option maxHeartbeats 4000000 in
set_option maxRecDepth 100000 in
theorem c_L_step (l : Launch) (G : xG) (hst : l.stackTraces = false) {A : HM} {h0 o : Nat} {N : Int} {O : OW} {V : BW} {Wv : VW} {K : WA} {kp kv rfd : Int32} {d : Int64} {sv : Value} (hG : RG G A h0 N (O, V, Wv, K, kp, kv, rfd)) (hN : N ≤ 590) (hd : xDis A (xO o d sv)) : xMet l G yL_step wsL_step 8 130 1 6 [.ref h0, .ref o] (xU A (xO o d sv)) (fun r M1 => ∃ k9 : Int, r = some (.int (iN k9)) ∧ ∃ (A1 : HM) (d1 : Int64) (sv1 : Value), M1 = xU A1 (xO o d1 sv1) ∧ xDis A1 (xO o d1 sv1) ∧ ((k9 = 0 ∧ ((kS (K) = 1)) ∧ (∃ z : Int, d1 = (iN z).toInt64 ∧ (-2147483648 ≤ z ∧ z ≤ 2147483647) ∧ z = A_step (O, V, Wv, K, kp, kv, rfd)) ∧ RG G A1 h0 (N + 1) (S_step (O, V, Wv, K, kp, kv, rfd))) ∨ (k9 ≠ 0 ∧ ((k9 = 1 ∧ ¬ (kS (K) = 1))) ∧ RG G A1 h0 (N + 1) (O, V, Wv, K, kp, kv, rfd)))) := by
  obtain ⟨bs, vs, og, qb, qk, qv, fb, fv, T, C, K0, hR, hK, hcb⟩ := hG
  replace hK : K = abK T C K0 := hK
  subst hK
  replace hR : RGx G A h0 bs vs og kp kv rfd qb qk qv fb fv O O Wv V T C K0 := hR
  refine x_introW (cc := cL_step) (maxL := 3) (ret := (some .int)) (hh := [(0, 9, 12, 67)]) (by exact pln_RL) rfl (Nat.le_of_ble_eq_true rfl) ?_
  intro p e R s m args below meth c ls hRf hRc hRs hRl htab hC hw hl
  have hinX4 : ∀ w ∈ wsX40, w ∈ wsL_step := fun w h => (List.mem_cons_of_mem _ (List.mem_append_left _ (List.mem_append_left _ (List.mem_append_left _ (List.mem_append_left _ (List.mem_append_left _ (List.mem_append_right _ h)))))))
  have hl : lv_has ls 3 [(0, .ref h0), (1, .ref o)] := hl
  refine lv_aload_n hC.1 hC.2.1 dL_step_0 rfl (lv_at hl 1 rfl) ?_
  refine lv_aload_n hC.1 hC.2.1 dL_step_1 rfl (lv_at hl 0 rfl) ?_
  refine x_callVX hC hw (lv_size hl) ((c_X3_step l G hst hR hcb hN).frame hd) gL_step_X3_step rfl dv_X3_step (xU_l hR.1) rfl rfl (Nat.le_of_ble_eq_true rfl) (by rw [hRf]; decide) (by rw [hRl]; decide) (by first | (rw [hRc]; decide) | omega) (by first | (rw [hRs]; decide) | omega) dL_step_2 (fun E ce q9 M1 H locs hqx hw hcell hcv hcls => ?_) (fun r9 M1 H locs hq hw => ?_)
  · obtain ⟨A1, ⟨hE, hG1⟩, hM1, hd1⟩ := hqx
    subst hM1
    obtain ⟨rfl, hb9⟩ := hE
    refine vx_catch (own := "RangeledgerLaw") (name := "java/lang/IllegalStateException") hC.2.2.2.1 [] (⟨0, 9, 12, 67⟩ : ExceptionTableEntry) [] (by rw [htab]; rfl) (fun z hz => nomatch hz) (by decide) (by decide) (hC.2.2.2.2.1 _ (List.mem_cons_of_mem _ (List.mem_append_left _ (List.mem_append_left _ (List.mem_append_left _ (List.mem_append_left _ (List.mem_append_left _ (List.mem_append_left _ (List.mem_append_left _ (List.mem_of_getElem? (i := 0) rfl)))))))))) (va_Nw.use rfl (hC.2.2.2.2.2.2.2.2.1.2.2.2.1.1 ("java/lang/IllegalStateException", "java/lang/IllegalStateException") (by decide))) hcell hcv hcls ?_
    show W p l e R s m args below meth c H locs _ _ _ (F0 m 12 ls [.ref q9])
    refine lv_astore_n (lv' := [(2, .ref q9), (0, .ref h0), (1, .ref o)]) hC.1 hC.2.1 dL_step_12 rfl hl (by decide) rfl (fun ls hl => ?_)
    refine x_const hC dL_step_13 ?_
    exact vx_ret (x_iret hC hw dL_step_14 (by first | decide | omega) (by first | decide | omega) ⟨1, rfl, _, _, _, rfl, hd1, Or.inr ⟨by omega, by omega, hG1⟩⟩)
  · obtain ⟨A1, ⟨z8, hr9, hz8, ho8, hA8, hG1⟩, hM1, hd1⟩ := hq
    subst hr9
    subst hM1
    show W p l e R s m args below meth c H locs _ _ _ (F0 m 5 ls [.int (iN (z8)), .ref o])
    refine lv_i2l hC.1 hC.2.1 dL_step_5 rfl ?_
    refine lv_topl (fun d_1 hd_1 => ?_)
    refine x_putOn (fs2 := [.long (d_1), sv]) hC hw hinX4 (xU_b hd1 xO_s) (by simp) rfl dL_step_6 (fun H locs hw => ?_)
    rw [xU_up hd1] at hw
    refine lv_goto (tgt := 15) hC.1 hC.2.1 dL_step_9 (by decide) ?_
    refine x_const hC dL_step_15 ?_
    exact vx_ret (x_iret hC hw dL_step_16 (by first | decide | omega) (by first | decide | omega) ⟨0, rfl, _, _, _, rfl, xO_dis hd1, Or.inl ⟨by omega, ho8, ⟨z8, hd_1, by omega, hA8⟩, hG1⟩⟩)
set_option maxHeartbeats 4000000 in
set_option maxRecDepth 100000 in
theorem c_L_write (l : Launch) (G : xG) (hst : l.stackTraces = false) {A : HM} {h0 o : Nat} {N : Int} {O : OW} {V : BW} {Wv : VW} {K : WA} {kp kv rfd : Int32} {d : Int64} {sv : Value} (hG : RG G A h0 N (O, V, Wv, K, kp, kv, rfd)) (hN : N ≤ 590) (hd : xDis A (xO o d sv)) {p0 : Int} (hp0 : -2147483648 ≤ p0 ∧ p0 ≤ 2147483647) : xMet l G yL_write wsL_write 8 133 3 18 [.ref h0, .int (iN (p0)), .ref o] (xU A (xO o d sv)) (fun r M1 => ∃ k9 : Int, r = some (.int (iN k9)) ∧ ∃ (A1 : HM) (d1 : Int64) (sv1 : Value), M1 = xU A1 (xO o d1 sv1) ∧ xDis A1 (xO o d1 sv1) ∧ ((k9 = 0 ∧ ((-9999 ≤ p0 ∧ p0 ≤ 9999) ∧ (kS (K) = 1 ∧ kH (K) = 1)) ∧ (∃ z : Int, d1 = (iN z).toInt64 ∧ (-2147483648 ≤ z ∧ z ≤ 2147483647) ∧ z = A_write (O, V, Wv, K, kp, kv, rfd) p0) ∧ RG G A1 h0 (N + 1) (S_write (O, V, Wv, K, kp, kv, rfd) p0)) ∨ (k9 ≠ 0 ∧ ((k9 = 1 ∧ ¬ (-9999 ≤ p0 ∧ p0 ≤ 9999)) ∨ (k9 = 2 ∧ (-9999 ≤ p0 ∧ p0 ≤ 9999) ∧ ¬ (kS (K) = 1 ∧ kH (K) = 1))) ∧ RG G A1 h0 (N + 1) (O, V, Wv, K, kp, kv, rfd)))) := by
  obtain ⟨bs, vs, og, qb, qk, qv, fb, fv, T, C, K0, hR, hK, hcb⟩ := hG
  replace hK : K = abK T C K0 := hK
  subst hK
  replace hR : RGx G A h0 bs vs og kp kv rfd qb qk qv fb fv O O Wv V T C K0 := hR
  refine x_introW (cc := cL_write) (maxL := 4) (ret := (some .int)) (hh := [(0, 10, 13, 21), (0, 10, 16, 67)]) (by exact pln_RL) rfl (Nat.le_of_ble_eq_true rfl) ?_
  intro p e R s m args below meth c ls hRf hRc hRs hRl htab hC hw hl
  have hinX4 : ∀ w ∈ wsX40, w ∈ wsL_write := fun w h => (List.mem_cons_of_mem _ (List.mem_append_left _ (List.mem_append_left _ (List.mem_append_left _ (List.mem_append_left _ (List.mem_append_left _ (List.mem_append_left _ (List.mem_append_right _ h))))))))
  have hl : lv_has ls 4 [(0, .ref h0), (1, .int (iN (p0))), (2, .ref o)] := hl
  refine lv_aload_n hC.1 hC.2.1 dL_write_0 rfl (lv_at hl 2 rfl) ?_
  refine lv_aload_n hC.1 hC.2.1 dL_write_1 rfl (lv_at hl 0 rfl) ?_
  refine lv_iload_n hC.1 hC.2.1 dL_write_2 rfl (lv_at hl 1 rfl) ?_
  refine x_callVX hC hw (lv_size hl) ((c_X3_write l G hst hR hcb hN (p0 := p0) (by first | assumption | omega)).frame hd) gL_write_X3_write rfl dv_X3_write (xU_l hR.1) rfl rfl (Nat.le_of_ble_eq_true rfl) (by rw [hRf]; decide) (by rw [hRl]; decide) (by first | (rw [hRc]; decide) | omega) (by first | (rw [hRs]; decide) | omega) dL_write_3 (fun E ce q9 M1 H locs hqx hw hcell hcv hcls => ?_) (fun r9 M1 H locs hq hw => ?_)
  · obtain ⟨A1, ⟨hE, hG1⟩, hM1, hd1⟩ := hqx
    subst hM1
    rcases hE with ⟨rfl, hb9⟩ | ⟨rfl, hb9⟩
    · skip
      refine vx_catch (own := "RangeledgerLaw") (name := "java/lang/IllegalArgumentException") hC.2.2.2.1 [] (⟨0, 10, 13, 21⟩ : ExceptionTableEntry) [(⟨0, 10, 16, 67⟩ : ExceptionTableEntry)] (by rw [htab]; rfl) (fun z hz => nomatch hz) (by decide) (by decide) (hC.2.2.2.2.1 _ (List.mem_cons_of_mem _ (List.mem_append_left _ (List.mem_append_left _ (List.mem_append_left _ (List.mem_append_left _ (List.mem_append_left _ (List.mem_append_left _ (List.mem_append_left _ (List.mem_append_left _ (List.mem_of_getElem? (i := 0) rfl))))))))))) (va_Nw.use rfl (hC.2.2.2.2.2.2.2.2.1.2.2.2.1.1 ("java/lang/IllegalArgumentException", "java/lang/IllegalArgumentException") (by decide))) hcell hcv hcls ?_
      show W p l e R s m args below meth c H locs _ _ _ (F0 m 13 ls [.ref q9])
      refine lv_astore_n (lv' := [(3, .ref q9), (0, .ref h0), (1, .int (iN (p0))), (2, .ref o)]) hC.1 hC.2.1 dL_write_13 rfl hl (by decide) rfl (fun ls hl => ?_)
      refine x_const hC dL_write_14 ?_
      exact vx_ret (x_iret hC hw dL_write_15 (by first | decide | omega) (by first | decide | omega) ⟨1, rfl, _, _, _, rfl, hd1, Or.inr ⟨by omega, by omega, hG1⟩⟩)
    · skip
      refine vx_catch (own := "RangeledgerLaw") (name := "java/lang/IllegalStateException") hC.2.2.2.1 [(⟨0, 10, 13, 21⟩ : ExceptionTableEntry)] (⟨0, 10, 16, 67⟩ : ExceptionTableEntry) [] (by rw [htab]; rfl) (fun z hz => by simp only [List.mem_cons, List.not_mem_nil, or_false] at hz; subst hz; (· exact Or.inr ⟨by decide, "java/lang/IllegalArgumentException", hC.2.2.2.2.1 _ (List.mem_cons_of_mem _ (List.mem_append_left _ (List.mem_append_left _ (List.mem_append_left _ (List.mem_append_left _ (List.mem_append_left _ (List.mem_append_left _ (List.mem_append_left _ (List.mem_append_left _ (List.mem_of_getElem? (i := 0) rfl)))))))))), hC.2.2.2.2.2.2.2.2.1.2.2.2.2.1 ("java/lang/IllegalStateException", "java/lang/IllegalArgumentException") (by decide)⟩)) (by decide) (by decide) (hC.2.2.2.2.1 _ (List.mem_cons_of_mem _ (List.mem_append_left _ (List.mem_append_left _ (List.mem_append_left _ (List.mem_append_left _ (List.mem_append_left _ (List.mem_append_left _ (List.mem_append_left _ (List.mem_append_left _ (List.mem_of_getElem? (i := 1) rfl))))))))))) (va_Nw.use rfl (hC.2.2.2.2.2.2.2.2.1.2.2.2.1.1 ("java/lang/IllegalStateException", "java/lang/IllegalStateException") (by decide))) hcell hcv hcls ?_
      show W p l e R s m args below meth c H locs _ _ _ (F0 m 16 ls [.ref q9])
      refine lv_astore_n (lv' := [(3, .ref q9), (0, .ref h0), (1, .int (iN (p0))), (2, .ref o)]) hC.1 hC.2.1 dL_write_16 rfl hl (by decide) rfl (fun ls hl => ?_)
      refine x_const hC dL_write_17 ?_
      exact vx_ret (x_iret hC hw dL_write_18 (by first | decide | omega) (by first | decide | omega) ⟨2, rfl, _, _, _, rfl, hd1, Or.inr ⟨by omega, by omega, hG1⟩⟩)
  · obtain ⟨A1, ⟨z8, hr9, hz8, ho8, hA8, hG1⟩, hM1, hd1⟩ := hq
    subst hr9
    subst hM1
    show W p l e R s m args below meth c H locs _ _ _ (F0 m 6 ls [.int (iN (z8)), .ref o])
    refine lv_i2l hC.1 hC.2.1 dL_write_6 rfl ?_
    refine lv_topl (fun d_1 hd_1 => ?_)
    refine x_putOn (fs2 := [.long (d_1), sv]) hC hw hinX4 (xU_b hd1 xO_s) (by simp) rfl dL_write_7 (fun H locs hw => ?_)
    rw [xU_up hd1] at hw
    refine lv_goto (tgt := 19) hC.1 hC.2.1 dL_write_10 (by decide) ?_
    refine x_const hC dL_write_19 ?_
    exact vx_ret (x_iret hC hw dL_write_20 (by first | decide | omega) (by first | decide | omega) ⟨0, rfl, _, _, _, rfl, xO_dis hd1, Or.inl ⟨by omega, ho8, ⟨z8, hd_1, by omega, hA8⟩, hG1⟩⟩)
set_option maxHeartbeats 4000000 in
set_option maxRecDepth 100000 in
theorem c_L_drop (l : Launch) (G : xG) (hst : l.stackTraces = false) {A : HM} {h0 o : Nat} {N : Int} {O : OW} {V : BW} {Wv : VW} {K : WA} {kp kv rfd : Int32} {d : Int64} {sv : Value} (hG : RG G A h0 N (O, V, Wv, K, kp, kv, rfd)) (hN : N ≤ 590) (hd : xDis A (xO o d sv)) : xMet l G yL_drop wsL_drop 8 133 2 12 [.ref h0, .ref o] (xU A (xO o d sv)) (fun r M1 => ∃ k9 : Int, r = some (.int (iN k9)) ∧ ∃ (A1 : HM) (d1 : Int64) (sv1 : Value), M1 = xU A1 (xO o d1 sv1) ∧ xDis A1 (xO o d1 sv1) ∧ ((k9 = 0 ∧ ((kS (K) = 1 ∧ kC (K) = 1)) ∧ (∃ z : Int, d1 = (iN z).toInt64 ∧ (-2147483648 ≤ z ∧ z ≤ 2147483647) ∧ z = A_drop (O, V, Wv, K, kp, kv, rfd)) ∧ RG G A1 h0 (N + 1) (S_drop (O, V, Wv, K, kp, kv, rfd))) ∨ (k9 ≠ 0 ∧ ((k9 = 1 ∧ ¬ (kS (K) = 1 ∧ kC (K) = 1))) ∧ RG G A1 h0 (N + 1) (O, V, Wv, K, kp, kv, rfd)))) := by
  obtain ⟨bs, vs, og, qb, qk, qv, fb, fv, T, C, K0, hR, hK, hcb⟩ := hG
  replace hK : K = abK T C K0 := hK
  subst hK
  replace hR : RGx G A h0 bs vs og kp kv rfd qb qk qv fb fv O O Wv V T C K0 := hR
  refine x_introW (cc := cL_drop) (maxL := 3) (ret := (some .int)) (hh := [(0, 9, 12, 67)]) (by exact pln_RL) rfl (Nat.le_of_ble_eq_true rfl) ?_
  intro p e R s m args below meth c ls hRf hRc hRs hRl htab hC hw hl
  have hinX4 : ∀ w ∈ wsX40, w ∈ wsL_drop := fun w h => (List.mem_cons_of_mem _ (List.mem_append_left _ (List.mem_append_left _ (List.mem_append_left _ (List.mem_append_left _ (List.mem_append_left _ (List.mem_append_right _ h)))))))
  have hl : lv_has ls 3 [(0, .ref h0), (1, .ref o)] := hl
  refine lv_aload_n hC.1 hC.2.1 dL_drop_0 rfl (lv_at hl 1 rfl) ?_
  refine lv_aload_n hC.1 hC.2.1 dL_drop_1 rfl (lv_at hl 0 rfl) ?_
  refine x_callVX hC hw (lv_size hl) ((c_X3_drop l G hst hR hcb hN).frame hd) gL_drop_X3_drop rfl dv_X3_drop (xU_l hR.1) rfl rfl (Nat.le_of_ble_eq_true rfl) (by rw [hRf]; decide) (by rw [hRl]; decide) (by first | (rw [hRc]; decide) | omega) (by first | (rw [hRs]; decide) | omega) dL_drop_2 (fun E ce q9 M1 H locs hqx hw hcell hcv hcls => ?_) (fun r9 M1 H locs hq hw => ?_)
  · obtain ⟨A1, ⟨hE, hG1⟩, hM1, hd1⟩ := hqx
    subst hM1
    obtain ⟨rfl, hb9⟩ := hE
    refine vx_catch (own := "RangeledgerLaw") (name := "java/lang/IllegalStateException") hC.2.2.2.1 [] (⟨0, 9, 12, 67⟩ : ExceptionTableEntry) [] (by rw [htab]; rfl) (fun z hz => nomatch hz) (by decide) (by decide) (hC.2.2.2.2.1 _ (List.mem_cons_of_mem _ (List.mem_append_left _ (List.mem_append_left _ (List.mem_append_left _ (List.mem_append_left _ (List.mem_append_left _ (List.mem_append_left _ (List.mem_append_left _ (List.mem_of_getElem? (i := 0) rfl)))))))))) (va_Nw.use rfl (hC.2.2.2.2.2.2.2.2.1.2.2.2.1.1 ("java/lang/IllegalStateException", "java/lang/IllegalStateException") (by decide))) hcell hcv hcls ?_
    show W p l e R s m args below meth c H locs _ _ _ (F0 m 12 ls [.ref q9])
    refine lv_astore_n (lv' := [(2, .ref q9), (0, .ref h0), (1, .ref o)]) hC.1 hC.2.1 dL_drop_12 rfl hl (by decide) rfl (fun ls hl => ?_)
    refine x_const hC dL_drop_13 ?_
    exact vx_ret (x_iret hC hw dL_drop_14 (by first | decide | omega) (by first | decide | omega) ⟨1, rfl, _, _, _, rfl, hd1, Or.inr ⟨by omega, by omega, hG1⟩⟩)
  · obtain ⟨A1, ⟨z8, hr9, hz8, ho8, hA8, hG1⟩, hM1, hd1⟩ := hq
    subst hr9
    subst hM1
    show W p l e R s m args below meth c H locs _ _ _ (F0 m 5 ls [.int (iN (z8)), .ref o])
    refine lv_i2l hC.1 hC.2.1 dL_drop_5 rfl ?_
    refine lv_topl (fun d_1 hd_1 => ?_)
    refine x_putOn (fs2 := [.long (d_1), sv]) hC hw hinX4 (xU_b hd1 xO_s) (by simp) rfl dL_drop_6 (fun H locs hw => ?_)
    rw [xU_up hd1] at hw
    refine lv_goto (tgt := 15) hC.1 hC.2.1 dL_drop_9 (by decide) ?_
    refine x_const hC dL_drop_15 ?_
    exact vx_ret (x_iret hC hw dL_drop_16 (by first | decide | omega) (by first | decide | omega) ⟨0, rfl, _, _, _, rfl, xO_dis hd1, Or.inl ⟨by omega, ho8, ⟨z8, hd_1, by omega, hA8⟩, hG1⟩⟩)
set_option maxHeartbeats 4000000 in
set_option maxRecDepth 100000 in
theorem c_L_keep (l : Launch) (G : xG) (hst : l.stackTraces = false) {A : HM} {h0 o : Nat} {N : Int} {O : OW} {V : BW} {Wv : VW} {K : WA} {kp kv rfd : Int32} {d : Int64} {sv : Value} (hG : RG G A h0 N (O, V, Wv, K, kp, kv, rfd)) (hN : N ≤ 590) (hd : xDis A (xO o d sv)) {p0 : Int} (hp0 : -2147483648 ≤ p0 ∧ p0 ≤ 2147483647) {p1 : Int} (hp1 : -2147483648 ≤ p1 ∧ p1 ≤ 2147483647) (hb1 : p1 = 0 ∨ p1 = 1) : xMet l G yL_keep wsL_keep 8 135 1 6 [.ref h0, .int (iN (p0)), .int (iN (p1)), .ref o] (xU A (xO o d sv)) (fun r M1 => ∃ k9 : Int, r = some (.int (iN k9)) ∧ ∃ (A1 : HM) (d1 : Int64) (sv1 : Value), M1 = xU A1 (xO o d1 sv1) ∧ xDis A1 (xO o d1 sv1) ∧ ((k9 = 0 ∧ ((0 ≤ p0 ∧ p0 ≤ 2)) ∧ (∃ z : Int, d1 = (iN z).toInt64 ∧ (-2147483648 ≤ z ∧ z ≤ 2147483647) ∧ z = A_keep (O, V, Wv, K, kp, kv, rfd) p0 p1) ∧ RG G A1 h0 (N + 1) (S_keep (O, V, Wv, K, kp, kv, rfd) p0 p1)) ∨ (k9 ≠ 0 ∧ ((k9 = 1 ∧ ¬ (0 ≤ p0 ∧ p0 ≤ 2))) ∧ RG G A1 h0 (N + 1) (O, V, Wv, K, kp, kv, rfd)))) := by
  obtain ⟨bs, vs, og, qb, qk, qv, fb, fv, T, C, K0, hR, hK, hcb⟩ := hG
  replace hK : K = abK T C K0 := hK
  subst hK
  replace hR : RGx G A h0 bs vs og kp kv rfd qb qk qv fb fv O O Wv V T C K0 := hR
  refine x_introW (cc := cL_keep) (maxL := 5) (ret := (some .int)) (hh := [(0, 11, 14, 19)]) (by exact pln_RL) rfl (Nat.le_of_ble_eq_true rfl) ?_
  intro p e R s m args below meth c ls hRf hRc hRs hRl htab hC hw hl
  have hinX4 : ∀ w ∈ wsX40, w ∈ wsL_keep := fun w h => (List.mem_cons_of_mem _ (List.mem_append_left _ (List.mem_append_left _ (List.mem_append_left _ (List.mem_append_right _ h)))))
  have hl : lv_has ls 5 [(0, .ref h0), (1, .int (iN (p0))), (2, .int (iN (p1))), (3, .ref o)] := hl
  refine lv_aload_n hC.1 hC.2.1 dL_keep_0 rfl (lv_at hl 3 rfl) ?_
  refine lv_aload_n hC.1 hC.2.1 dL_keep_1 rfl (lv_at hl 0 rfl) ?_
  refine lv_iload_n hC.1 hC.2.1 dL_keep_2 rfl (lv_at hl 1 rfl) ?_
  refine lv_iload_n hC.1 hC.2.1 dL_keep_3 rfl (lv_at hl 2 rfl) ?_
  refine x_callVX hC hw (lv_size hl) ((c_X3_keep l G hst hR hcb hN (p0 := p0) (by first | assumption | omega) (p1 := p1) (by first | assumption | omega) (by omega)).frame hd) gL_keep_X3_keep rfl dv_X3_keep (xU_l hR.1) rfl rfl (Nat.le_of_ble_eq_true rfl) (by rw [hRf]; decide) (by rw [hRl]; decide) (by first | (rw [hRc]; decide) | omega) (by first | (rw [hRs]; decide) | omega) dL_keep_4 (fun E ce q9 M1 H locs hqx hw hcell hcv hcls => ?_) (fun r9 M1 H locs hq hw => ?_)
  · obtain ⟨A1, ⟨hE, hG1⟩, hM1, hd1⟩ := hqx
    subst hM1
    obtain ⟨rfl, hb9⟩ := hE
    refine vx_catch (own := "RangeledgerLaw") (name := "java/lang/IndexOutOfBoundsException") hC.2.2.2.1 [] (⟨0, 11, 14, 19⟩ : ExceptionTableEntry) [] (by rw [htab]; rfl) (fun z hz => nomatch hz) (by decide) (by decide) (hC.2.2.2.2.1 _ (List.mem_cons_of_mem _ (List.mem_append_left _ (List.mem_append_left _ (List.mem_append_left _ (List.mem_append_left _ (List.mem_append_left _ (List.mem_of_getElem? (i := 0) rfl)))))))) (va_Nw.use rfl (hC.2.2.2.2.2.2.2.2.1.2.2.2.1.1 ("java/lang/IndexOutOfBoundsException", "java/lang/IndexOutOfBoundsException") (by decide))) hcell hcv hcls ?_
    show W p l e R s m args below meth c H locs _ _ _ (F0 m 14 ls [.ref q9])
    refine lv_astore (lv' := [(4, .ref q9), (0, .ref h0), (1, .int (iN (p0))), (2, .int (iN (p1))), (3, .ref o)]) hC.1 hC.2.1 dL_keep_14 hl (by decide) rfl (fun ls hl => ?_)
    refine x_const hC dL_keep_16 ?_
    exact vx_ret (x_iret hC hw dL_keep_17 (by first | decide | omega) (by first | decide | omega) ⟨1, rfl, _, _, _, rfl, hd1, Or.inr ⟨by omega, by omega, hG1⟩⟩)
  · obtain ⟨A1, ⟨z8, hr9, hz8, ho8, hA8, hG1⟩, hM1, hd1⟩ := hq
    subst hr9
    subst hM1
    show W p l e R s m args below meth c H locs _ _ _ (F0 m 7 ls [.int (iN (z8)), .ref o])
    refine lv_i2l hC.1 hC.2.1 dL_keep_7 rfl ?_
    refine lv_topl (fun d_1 hd_1 => ?_)
    refine x_putOn (fs2 := [.long (d_1), sv]) hC hw hinX4 (xU_b hd1 xO_s) (by simp) rfl dL_keep_8 (fun H locs hw => ?_)
    rw [xU_up hd1] at hw
    refine lv_goto (tgt := 18) hC.1 hC.2.1 dL_keep_11 (by decide) ?_
    refine x_const hC dL_keep_18 ?_
    exact vx_ret (x_iret hC hw dL_keep_19 (by first | decide | omega) (by first | decide | omega) ⟨0, rfl, _, _, _, rfl, xO_dis hd1, Or.inl ⟨by omega, ho8, ⟨z8, hd_1, by omega, hA8⟩, hG1⟩⟩)
set_option maxHeartbeats 4000000 in
set_option maxRecDepth 100000 in
theorem c_L_brand (l : Launch) (G : xG) (hst : l.stackTraces = false) {A : HM} {h0 o : Nat} {N : Int} {O : OW} {V : BW} {Wv : VW} {K : WA} {kp kv rfd : Int32} {d : Int64} {sv : Value} (hG : RG G A h0 N (O, V, Wv, K, kp, kv, rfd)) (hN : N ≤ 590) (hd : xDis A (xO o d sv)) {p0 : Int} (hp0 : -2147483648 ≤ p0 ∧ p0 ≤ 2147483647) : xMet l G yL_brand wsL_brand 8 131 1 6 [.ref h0, .int (iN (p0)), .ref o] (xU A (xO o d sv)) (fun r M1 => ∃ k9 : Int, r = some (.int (iN k9)) ∧ ∃ (A1 : HM) (d1 : Int64) (sv1 : Value), M1 = xU A1 (xO o d1 sv1) ∧ xDis A1 (xO o d1 sv1) ∧ ((k9 = 0 ∧ ((-9999 ≤ p0 ∧ p0 ≤ 9999)) ∧ (∃ z : Int, d1 = (iN z).toInt64 ∧ (-2147483648 ≤ z ∧ z ≤ 2147483647) ∧ z = A_brand (O, V, Wv, K, kp, kv, rfd) p0) ∧ RG G A1 h0 (N + 1) (S_brand (O, V, Wv, K, kp, kv, rfd) p0)) ∨ (k9 ≠ 0 ∧ ((k9 = 1 ∧ ¬ (-9999 ≤ p0 ∧ p0 ≤ 9999))) ∧ RG G A1 h0 (N + 1) (O, V, Wv, K, kp, kv, rfd)))) := by
  obtain ⟨bs, vs, og, qb, qk, qv, fb, fv, T, C, K0, hR, hK, hcb⟩ := hG
  replace hK : K = abK T C K0 := hK
  subst hK
  replace hR : RGx G A h0 bs vs og kp kv rfd qb qk qv fb fv O O Wv V T C K0 := hR
  refine x_introW (cc := cL_brand) (maxL := 4) (ret := (some .int)) (hh := [(0, 10, 13, 21)]) (by exact pln_RL) rfl (Nat.le_of_ble_eq_true rfl) ?_
  intro p e R s m args below meth c ls hRf hRc hRs hRl htab hC hw hl
  have hinX4 : ∀ w ∈ wsX40, w ∈ wsL_brand := fun w h => (List.mem_cons_of_mem _ (List.mem_append_left _ (List.mem_append_left _ (List.mem_append_right _ h))))
  have hl : lv_has ls 4 [(0, .ref h0), (1, .int (iN (p0))), (2, .ref o)] := hl
  refine lv_aload_n hC.1 hC.2.1 dL_brand_0 rfl (lv_at hl 2 rfl) ?_
  refine lv_aload_n hC.1 hC.2.1 dL_brand_1 rfl (lv_at hl 0 rfl) ?_
  refine lv_iload_n hC.1 hC.2.1 dL_brand_2 rfl (lv_at hl 1 rfl) ?_
  refine x_callVX hC hw (lv_size hl) ((c_X3_brand l G hst hR hcb hN (p0 := p0) (by first | assumption | omega)).frame hd) gL_brand_X3_brand rfl dv_X3_brand (xU_l hR.1) rfl rfl (Nat.le_of_ble_eq_true rfl) (by rw [hRf]; decide) (by rw [hRl]; decide) (by first | (rw [hRc]; decide) | omega) (by first | (rw [hRs]; decide) | omega) dL_brand_3 (fun E ce q9 M1 H locs hqx hw hcell hcv hcls => ?_) (fun r9 M1 H locs hq hw => ?_)
  · obtain ⟨A1, ⟨hE, hG1⟩, hM1, hd1⟩ := hqx
    subst hM1
    obtain ⟨rfl, hb9⟩ := hE
    refine vx_catch (own := "RangeledgerLaw") (name := "java/lang/IllegalArgumentException") hC.2.2.2.1 [] (⟨0, 10, 13, 21⟩ : ExceptionTableEntry) [] (by rw [htab]; rfl) (fun z hz => nomatch hz) (by decide) (by decide) (hC.2.2.2.2.1 _ (List.mem_cons_of_mem _ (List.mem_append_left _ (List.mem_append_left _ (List.mem_append_left _ (List.mem_of_getElem? (i := 0) rfl)))))) (va_Nw.use rfl (hC.2.2.2.2.2.2.2.2.1.2.2.2.1.1 ("java/lang/IllegalArgumentException", "java/lang/IllegalArgumentException") (by decide))) hcell hcv hcls ?_
    show W p l e R s m args below meth c H locs _ _ _ (F0 m 13 ls [.ref q9])
    refine lv_astore_n (lv' := [(3, .ref q9), (0, .ref h0), (1, .int (iN (p0))), (2, .ref o)]) hC.1 hC.2.1 dL_brand_13 rfl hl (by decide) rfl (fun ls hl => ?_)
    refine x_const hC dL_brand_14 ?_
    exact vx_ret (x_iret hC hw dL_brand_15 (by first | decide | omega) (by first | decide | omega) ⟨1, rfl, _, _, _, rfl, hd1, Or.inr ⟨by omega, by omega, hG1⟩⟩)
  · obtain ⟨A1, ⟨z8, hr9, hz8, ho8, hA8, hG1⟩, hM1, hd1⟩ := hq
    subst hr9
    subst hM1
    show W p l e R s m args below meth c H locs _ _ _ (F0 m 6 ls [.int (iN (z8)), .ref o])
    refine lv_i2l hC.1 hC.2.1 dL_brand_6 rfl ?_
    refine lv_topl (fun d_1 hd_1 => ?_)
    refine x_putOn (fs2 := [.long (d_1), sv]) hC hw hinX4 (xU_b hd1 xO_s) (by simp) rfl dL_brand_7 (fun H locs hw => ?_)
    rw [xU_up hd1] at hw
    refine lv_goto (tgt := 16) hC.1 hC.2.1 dL_brand_10 (by decide) ?_
    refine x_const hC dL_brand_16 ?_
    exact vx_ret (x_iret hC hw dL_brand_17 (by first | decide | omega) (by first | decide | omega) ⟨0, rfl, _, _, _, rfl, xO_dis hd1, Or.inl ⟨by omega, ho8, ⟨z8, hd_1, by omega, hA8⟩, hG1⟩⟩)
set_option maxHeartbeats 4000000 in
set_option maxRecDepth 100000 in
theorem c_L_get (l : Launch) (G : xG) (hst : l.stackTraces = false) {A : HM} {h0 o : Nat} {N : Int} {O : OW} {V : BW} {Wv : VW} {K : WA} {kp kv rfd : Int32} {d : Int64} {sv : Value} (hG : RG G A h0 N (O, V, Wv, K, kp, kv, rfd)) (hN : N ≤ 590) (hd : xDis A (xO o d sv)) {p0 : Int} (hp0 : -2147483648 ≤ p0 ∧ p0 ≤ 2147483647) {p1 : Int} (hp1 : -2147483648 ≤ p1 ∧ p1 ≤ 2147483647) : xMet l G yL_get wsL_get 8 134 2 12 [.ref h0, .int (iN (p0)), .int (iN (p1)), .ref o] (xU A (xO o d sv)) (fun r M1 => ∃ k9 : Int, r = some (.int (iN k9)) ∧ ∃ (A1 : HM) (d1 : Int64) (sv1 : Value), M1 = xU A1 (xO o d1 sv1) ∧ xDis A1 (xO o d1 sv1) ∧ ((k9 = 0 ∧ ((0 ≤ p0 ∧ p0 ≤ 2) ∧ (0 ≤ p1 ∧ p1 ≤ 99)) ∧ (∃ z : Int, d1 = (iN z).toInt64 ∧ (-2147483648 ≤ z ∧ z ≤ 2147483647) ∧ z = A_get (O, V, Wv, K, kp, kv, rfd) p0 p1) ∧ RG G A1 h0 (N + 1) (O, V, Wv, K, kp, kv, rfd)) ∨ (k9 ≠ 0 ∧ ((k9 = 1 ∧ ¬ (0 ≤ p0 ∧ p0 ≤ 2)) ∨ (k9 = 2 ∧ (0 ≤ p0 ∧ p0 ≤ 2) ∧ ¬ (0 ≤ p1 ∧ p1 ≤ 99))) ∧ RG G A1 h0 (N + 1) (O, V, Wv, K, kp, kv, rfd)))) := by
  obtain ⟨bs, vs, og, qb, qk, qv, fb, fv, T, C, K0, hR, hK, hcb⟩ := hG
  replace hK : K = abK T C K0 := hK
  subst hK
  replace hR : RGx G A h0 bs vs og kp kv rfd qb qk qv fb fv O O Wv V T C K0 := hR
  refine x_introW (cc := cL_get) (maxL := 5) (ret := (some .int)) (hh := [(0, 11, 14, 19), (0, 11, 18, 21)]) (by exact pln_RL) rfl (Nat.le_of_ble_eq_true rfl) ?_
  intro p e R s m args below meth c ls hRf hRc hRs hRl htab hC hw hl
  have hinX4 : ∀ w ∈ wsX40, w ∈ wsL_get := fun w h => (List.mem_cons_of_mem _ (List.mem_append_left _ (List.mem_append_left _ (List.mem_append_left _ (List.mem_append_left _ (List.mem_append_right _ h))))))
  have hl : lv_has ls 5 [(0, .ref h0), (1, .int (iN (p0))), (2, .int (iN (p1))), (3, .ref o)] := hl
  refine lv_aload_n hC.1 hC.2.1 dL_get_0 rfl (lv_at hl 3 rfl) ?_
  refine lv_aload_n hC.1 hC.2.1 dL_get_1 rfl (lv_at hl 0 rfl) ?_
  refine lv_iload_n hC.1 hC.2.1 dL_get_2 rfl (lv_at hl 1 rfl) ?_
  refine lv_iload_n hC.1 hC.2.1 dL_get_3 rfl (lv_at hl 2 rfl) ?_
  refine x_callVX hC hw (lv_size hl) ((c_X3_get l G hst hR hcb hN (p0 := p0) (by first | assumption | omega) (p1 := p1) (by first | assumption | omega)).frame hd) gL_get_X3_get rfl dv_X3_get (xU_l hR.1) rfl rfl (Nat.le_of_ble_eq_true rfl) (by rw [hRf]; decide) (by rw [hRl]; decide) (by first | (rw [hRc]; decide) | omega) (by first | (rw [hRs]; decide) | omega) dL_get_4 (fun E ce q9 M1 H locs hqx hw hcell hcv hcls => ?_) (fun r9 M1 H locs hq hw => ?_)
  · obtain ⟨A1, ⟨hE, hG1⟩, hM1, hd1⟩ := hqx
    subst hM1
    rcases hE with ⟨rfl, hb9⟩ | ⟨rfl, hb9⟩
    · skip
      refine vx_catch (own := "RangeledgerLaw") (name := "java/lang/IndexOutOfBoundsException") hC.2.2.2.1 [] (⟨0, 11, 14, 19⟩ : ExceptionTableEntry) [(⟨0, 11, 18, 21⟩ : ExceptionTableEntry)] (by rw [htab]; rfl) (fun z hz => nomatch hz) (by decide) (by decide) (hC.2.2.2.2.1 _ (List.mem_cons_of_mem _ (List.mem_append_left _ (List.mem_append_left _ (List.mem_append_left _ (List.mem_append_left _ (List.mem_append_left _ (List.mem_append_left _ (List.mem_of_getElem? (i := 0) rfl))))))))) (va_Nw.use rfl (hC.2.2.2.2.2.2.2.2.1.2.2.2.1.1 ("java/lang/IndexOutOfBoundsException", "java/lang/IndexOutOfBoundsException") (by decide))) hcell hcv hcls ?_
      show W p l e R s m args below meth c H locs _ _ _ (F0 m 14 ls [.ref q9])
      refine lv_astore (lv' := [(4, .ref q9), (0, .ref h0), (1, .int (iN (p0))), (2, .int (iN (p1))), (3, .ref o)]) hC.1 hC.2.1 dL_get_14 hl (by decide) rfl (fun ls hl => ?_)
      refine x_const hC dL_get_16 ?_
      exact vx_ret (x_iret hC hw dL_get_17 (by first | decide | omega) (by first | decide | omega) ⟨1, rfl, _, _, _, rfl, hd1, Or.inr ⟨by omega, by omega, hG1⟩⟩)
    · skip
      refine vx_catch (own := "RangeledgerLaw") (name := "java/lang/IllegalArgumentException") hC.2.2.2.1 [(⟨0, 11, 14, 19⟩ : ExceptionTableEntry)] (⟨0, 11, 18, 21⟩ : ExceptionTableEntry) [] (by rw [htab]; rfl) (fun z hz => by simp only [List.mem_cons, List.not_mem_nil, or_false] at hz; subst hz; (· exact Or.inr ⟨by decide, "java/lang/IndexOutOfBoundsException", hC.2.2.2.2.1 _ (List.mem_cons_of_mem _ (List.mem_append_left _ (List.mem_append_left _ (List.mem_append_left _ (List.mem_append_left _ (List.mem_append_left _ (List.mem_append_left _ (List.mem_of_getElem? (i := 0) rfl)))))))), hC.2.2.2.2.2.2.2.2.1.2.2.2.2.1 ("java/lang/IllegalArgumentException", "java/lang/IndexOutOfBoundsException") (by decide)⟩)) (by decide) (by decide) (hC.2.2.2.2.1 _ (List.mem_cons_of_mem _ (List.mem_append_left _ (List.mem_append_left _ (List.mem_append_left _ (List.mem_append_left _ (List.mem_append_left _ (List.mem_append_left _ (List.mem_of_getElem? (i := 1) rfl))))))))) (va_Nw.use rfl (hC.2.2.2.2.2.2.2.2.1.2.2.2.1.1 ("java/lang/IllegalArgumentException", "java/lang/IllegalArgumentException") (by decide))) hcell hcv hcls ?_
      show W p l e R s m args below meth c H locs _ _ _ (F0 m 18 ls [.ref q9])
      refine lv_astore (lv' := [(4, .ref q9), (0, .ref h0), (1, .int (iN (p0))), (2, .int (iN (p1))), (3, .ref o)]) hC.1 hC.2.1 dL_get_18 hl (by decide) rfl (fun ls hl => ?_)
      refine x_const hC dL_get_20 ?_
      exact vx_ret (x_iret hC hw dL_get_21 (by first | decide | omega) (by first | decide | omega) ⟨2, rfl, _, _, _, rfl, hd1, Or.inr ⟨by omega, by omega, hG1⟩⟩)
  · obtain ⟨A1, ⟨z8, hr9, hz8, ho8, hA8, hG1⟩, hM1, hd1⟩ := hq
    subst hr9
    subst hM1
    show W p l e R s m args below meth c H locs _ _ _ (F0 m 7 ls [.int (iN (z8)), .ref o])
    refine lv_i2l hC.1 hC.2.1 dL_get_7 rfl ?_
    refine lv_topl (fun d_1 hd_1 => ?_)
    refine x_putOn (fs2 := [.long (d_1), sv]) hC hw hinX4 (xU_b hd1 xO_s) (by simp) rfl dL_get_8 (fun H locs hw => ?_)
    rw [xU_up hd1] at hw
    refine lv_goto (tgt := 22) hC.1 hC.2.1 dL_get_11 (by decide) ?_
    refine x_const hC dL_get_22 ?_
    exact vx_ret (x_iret hC hw dL_get_23 (by first | decide | omega) (by first | decide | omega) ⟨0, rfl, _, _, _, rfl, xO_dis hd1, Or.inl ⟨by omega, ho8, ⟨z8, hd_1, by omega, hA8⟩, hG1⟩⟩)
set_option maxHeartbeats 4000000 in
set_option maxRecDepth 100000 in
theorem c_L_getOr (l : Launch) (G : xG) (hst : l.stackTraces = false) {A : HM} {h0 o : Nat} {N : Int} {O : OW} {V : BW} {Wv : VW} {K : WA} {kp kv rfd : Int32} {d : Int64} {sv : Value} (hG : RG G A h0 N (O, V, Wv, K, kp, kv, rfd)) (hN : N ≤ 590) (hd : xDis A (xO o d sv)) {p0 : Int} (hp0 : -2147483648 ≤ p0 ∧ p0 ≤ 2147483647) {p1 : Int} (hp1 : -2147483648 ≤ p1 ∧ p1 ≤ 2147483647) {p2 : Int} (hp2 : -2147483648 ≤ p2 ∧ p2 ≤ 2147483647) : xMet l G yL_getOr wsL_getOr 8 136 3 18 [.ref h0, .int (iN (p0)), .int (iN (p1)), .int (iN (p2)), .ref o] (xU A (xO o d sv)) (fun r M1 => ∃ k9 : Int, r = some (.int (iN k9)) ∧ ∃ (A1 : HM) (d1 : Int64) (sv1 : Value), M1 = xU A1 (xO o d1 sv1) ∧ xDis A1 (xO o d1 sv1) ∧ ((k9 = 0 ∧ ((0 ≤ p0 ∧ p0 ≤ 2) ∧ ((0 ≤ p1 ∧ p1 ≤ 99) ∧ (-9999 ≤ p2 ∧ p2 ≤ 9999))) ∧ (∃ z : Int, d1 = (iN z).toInt64 ∧ (-2147483648 ≤ z ∧ z ≤ 2147483647) ∧ z = A_getOr (O, V, Wv, K, kp, kv, rfd) p0 p1 p2) ∧ RG G A1 h0 (N + 1) (O, V, Wv, K, kp, kv, rfd)) ∨ (k9 ≠ 0 ∧ ((k9 = 1 ∧ ¬ (0 ≤ p0 ∧ p0 ≤ 2)) ∨ (k9 = 2 ∧ (0 ≤ p0 ∧ p0 ≤ 2) ∧ ¬ ((0 ≤ p1 ∧ p1 ≤ 99) ∧ (-9999 ≤ p2 ∧ p2 ≤ 9999)))) ∧ RG G A1 h0 (N + 1) (O, V, Wv, K, kp, kv, rfd)))) := by
  obtain ⟨bs, vs, og, qb, qk, qv, fb, fv, T, C, K0, hR, hK, hcb⟩ := hG
  replace hK : K = abK T C K0 := hK
  subst hK
  replace hR : RGx G A h0 bs vs og kp kv rfd qb qk qv fb fv O O Wv V T C K0 := hR
  refine x_introW (cc := cL_getOr) (maxL := 6) (ret := (some .int)) (hh := [(0, 13, 16, 19), (0, 13, 20, 21)]) (by exact pln_RL) rfl (Nat.le_of_ble_eq_true rfl) ?_
  intro p e R s m args below meth c ls hRf hRc hRs hRl htab hC hw hl
  have hinX4 : ∀ w ∈ wsX40, w ∈ wsL_getOr := fun w h => (List.mem_cons_of_mem _ (List.mem_append_left _ (List.mem_append_left _ (List.mem_append_left _ (List.mem_append_left _ (List.mem_append_right _ h))))))
  have hl : lv_has ls 6 [(0, .ref h0), (1, .int (iN (p0))), (2, .int (iN (p1))), (3, .int (iN (p2))), (4, .ref o)] := hl
  refine lv_aload hC.1 hC.2.1 dL_getOr_0 (lv_at hl 4 rfl) ?_
  refine lv_aload_n hC.1 hC.2.1 dL_getOr_2 rfl (lv_at hl 0 rfl) ?_
  refine lv_iload_n hC.1 hC.2.1 dL_getOr_3 rfl (lv_at hl 1 rfl) ?_
  refine lv_iload_n hC.1 hC.2.1 dL_getOr_4 rfl (lv_at hl 2 rfl) ?_
  refine lv_iload_n hC.1 hC.2.1 dL_getOr_5 rfl (lv_at hl 3 rfl) ?_
  refine x_callVX hC hw (lv_size hl) ((c_X3_getOr l G hst hR hcb hN (p0 := p0) (by first | assumption | omega) (p1 := p1) (by first | assumption | omega) (p2 := p2) (by first | assumption | omega)).frame hd) gL_getOr_X3_getOr rfl dv_X3_getOr (xU_l hR.1) rfl rfl (Nat.le_of_ble_eq_true rfl) (by rw [hRf]; decide) (by rw [hRl]; decide) (by first | (rw [hRc]; decide) | omega) (by first | (rw [hRs]; decide) | omega) dL_getOr_6 (fun E ce q9 M1 H locs hqx hw hcell hcv hcls => ?_) (fun r9 M1 H locs hq hw => ?_)
  · obtain ⟨A1, ⟨hE, hG1⟩, hM1, hd1⟩ := hqx
    subst hM1
    rcases hE with ⟨rfl, hb9⟩ | ⟨rfl, hb9⟩
    · skip
      refine vx_catch (own := "RangeledgerLaw") (name := "java/lang/IndexOutOfBoundsException") hC.2.2.2.1 [] (⟨0, 13, 16, 19⟩ : ExceptionTableEntry) [(⟨0, 13, 20, 21⟩ : ExceptionTableEntry)] (by rw [htab]; rfl) (fun z hz => nomatch hz) (by decide) (by decide) (hC.2.2.2.2.1 _ (List.mem_cons_of_mem _ (List.mem_append_left _ (List.mem_append_left _ (List.mem_append_left _ (List.mem_append_left _ (List.mem_append_left _ (List.mem_append_left _ (List.mem_of_getElem? (i := 0) rfl))))))))) (va_Nw.use rfl (hC.2.2.2.2.2.2.2.2.1.2.2.2.1.1 ("java/lang/IndexOutOfBoundsException", "java/lang/IndexOutOfBoundsException") (by decide))) hcell hcv hcls ?_
      show W p l e R s m args below meth c H locs _ _ _ (F0 m 16 ls [.ref q9])
      refine lv_astore (lv' := [(5, .ref q9), (0, .ref h0), (1, .int (iN (p0))), (2, .int (iN (p1))), (3, .int (iN (p2))), (4, .ref o)]) hC.1 hC.2.1 dL_getOr_16 hl (by decide) rfl (fun ls hl => ?_)
      refine x_const hC dL_getOr_18 ?_
      exact vx_ret (x_iret hC hw dL_getOr_19 (by first | decide | omega) (by first | decide | omega) ⟨1, rfl, _, _, _, rfl, hd1, Or.inr ⟨by omega, by omega, hG1⟩⟩)
    · skip
      refine vx_catch (own := "RangeledgerLaw") (name := "java/lang/IllegalArgumentException") hC.2.2.2.1 [(⟨0, 13, 16, 19⟩ : ExceptionTableEntry)] (⟨0, 13, 20, 21⟩ : ExceptionTableEntry) [] (by rw [htab]; rfl) (fun z hz => by simp only [List.mem_cons, List.not_mem_nil, or_false] at hz; subst hz; (· exact Or.inr ⟨by decide, "java/lang/IndexOutOfBoundsException", hC.2.2.2.2.1 _ (List.mem_cons_of_mem _ (List.mem_append_left _ (List.mem_append_left _ (List.mem_append_left _ (List.mem_append_left _ (List.mem_append_left _ (List.mem_append_left _ (List.mem_of_getElem? (i := 0) rfl)))))))), hC.2.2.2.2.2.2.2.2.1.2.2.2.2.1 ("java/lang/IllegalArgumentException", "java/lang/IndexOutOfBoundsException") (by decide)⟩)) (by decide) (by decide) (hC.2.2.2.2.1 _ (List.mem_cons_of_mem _ (List.mem_append_left _ (List.mem_append_left _ (List.mem_append_left _ (List.mem_append_left _ (List.mem_append_left _ (List.mem_append_left _ (List.mem_of_getElem? (i := 1) rfl))))))))) (va_Nw.use rfl (hC.2.2.2.2.2.2.2.2.1.2.2.2.1.1 ("java/lang/IllegalArgumentException", "java/lang/IllegalArgumentException") (by decide))) hcell hcv hcls ?_
      show W p l e R s m args below meth c H locs _ _ _ (F0 m 20 ls [.ref q9])
      refine lv_astore (lv' := [(5, .ref q9), (0, .ref h0), (1, .int (iN (p0))), (2, .int (iN (p1))), (3, .int (iN (p2))), (4, .ref o)]) hC.1 hC.2.1 dL_getOr_20 hl (by decide) rfl (fun ls hl => ?_)
      refine x_const hC dL_getOr_22 ?_
      exact vx_ret (x_iret hC hw dL_getOr_23 (by first | decide | omega) (by first | decide | omega) ⟨2, rfl, _, _, _, rfl, hd1, Or.inr ⟨by omega, by omega, hG1⟩⟩)
  · obtain ⟨A1, ⟨z8, hr9, hz8, ho8, hA8, hG1⟩, hM1, hd1⟩ := hq
    subst hr9
    subst hM1
    show W p l e R s m args below meth c H locs _ _ _ (F0 m 9 ls [.int (iN (z8)), .ref o])
    refine lv_i2l hC.1 hC.2.1 dL_getOr_9 rfl ?_
    refine lv_topl (fun d_1 hd_1 => ?_)
    refine x_putOn (fs2 := [.long (d_1), sv]) hC hw hinX4 (xU_b hd1 xO_s) (by simp) rfl dL_getOr_10 (fun H locs hw => ?_)
    rw [xU_up hd1] at hw
    refine lv_goto (tgt := 24) hC.1 hC.2.1 dL_getOr_13 (by decide) ?_
    refine x_const hC dL_getOr_24 ?_
    exact vx_ret (x_iret hC hw dL_getOr_25 (by first | decide | omega) (by first | decide | omega) ⟨0, rfl, _, _, _, rfl, xO_dis hd1, Or.inl ⟨by omega, ho8, ⟨z8, hd_1, by omega, hA8⟩, hG1⟩⟩)
set_option maxHeartbeats 4000000 in
set_option maxRecDepth 100000 in
theorem c_L_has (l : Launch) (G : xG) (hst : l.stackTraces = false) {A : HM} {h0 o : Nat} {N : Int} {O : OW} {V : BW} {Wv : VW} {K : WA} {kp kv rfd : Int32} {d : Int64} {sv : Value} (hG : RG G A h0 N (O, V, Wv, K, kp, kv, rfd)) (hN : N ≤ 590) (hd : xDis A (xO o d sv)) {p0 : Int} (hp0 : -2147483648 ≤ p0 ∧ p0 ≤ 2147483647) {p1 : Int} (hp1 : -2147483648 ≤ p1 ∧ p1 ≤ 2147483647) : xMet l G yL_has wsL_has 8 135 2 12 [.ref h0, .int (iN (p0)), .int (iN (p1)), .ref o] (xU A (xO o d sv)) (fun r M1 => ∃ k9 : Int, r = some (.int (iN k9)) ∧ ∃ (A1 : HM) (d1 : Int64) (sv1 : Value), M1 = xU A1 (xO o d1 sv1) ∧ xDis A1 (xO o d1 sv1) ∧ ((k9 = 0 ∧ ((0 ≤ p0 ∧ p0 ≤ 2) ∧ (0 ≤ p1 ∧ p1 ≤ 99)) ∧ (∃ z : Int, d1 = (iN z).toInt64 ∧ (-2147483648 ≤ z ∧ z ≤ 2147483647) ∧ z = A_has (O, V, Wv, K, kp, kv, rfd) p0 p1) ∧ RG G A1 h0 (N + 1) (O, V, Wv, K, kp, kv, rfd)) ∨ (k9 ≠ 0 ∧ ((k9 = 1 ∧ ¬ (0 ≤ p0 ∧ p0 ≤ 2)) ∨ (k9 = 2 ∧ (0 ≤ p0 ∧ p0 ≤ 2) ∧ ¬ (0 ≤ p1 ∧ p1 ≤ 99))) ∧ RG G A1 h0 (N + 1) (O, V, Wv, K, kp, kv, rfd)))) := by
  obtain ⟨bs, vs, og, qb, qk, qv, fb, fv, T, C, K0, hR, hK, hcb⟩ := hG
  replace hK : K = abK T C K0 := hK
  subst hK
  replace hR : RGx G A h0 bs vs og kp kv rfd qb qk qv fb fv O O Wv V T C K0 := hR
  refine x_introW (cc := cL_has) (maxL := 5) (ret := (some .int)) (hh := [(0, 18, 21, 19), (0, 18, 25, 21)]) (by exact pln_RL) rfl (Nat.le_of_ble_eq_true rfl) ?_
  intro p e R s m args below meth c ls hRf hRc hRs hRl htab hC hw hl
  have hinX4 : ∀ w ∈ wsX40, w ∈ wsL_has := fun w h => (List.mem_cons_of_mem _ (List.mem_append_left _ (List.mem_append_left _ (List.mem_append_left _ (List.mem_append_left _ (List.mem_append_right _ h))))))
  have hl : lv_has ls 5 [(0, .ref h0), (1, .int (iN (p0))), (2, .int (iN (p1))), (3, .ref o)] := hl
  refine lv_aload_n hC.1 hC.2.1 dL_has_0 rfl (lv_at hl 3 rfl) ?_
  refine lv_aload_n hC.1 hC.2.1 dL_has_1 rfl (lv_at hl 0 rfl) ?_
  refine lv_iload_n hC.1 hC.2.1 dL_has_2 rfl (lv_at hl 1 rfl) ?_
  refine lv_iload_n hC.1 hC.2.1 dL_has_3 rfl (lv_at hl 2 rfl) ?_
  refine x_callVX hC hw (lv_size hl) ((c_X3_has l G hst hR hcb hN (p0 := p0) (by first | assumption | omega) (p1 := p1) (by first | assumption | omega)).frame hd) gL_has_X3_has rfl dv_X3_has (xU_l hR.1) rfl rfl (Nat.le_of_ble_eq_true rfl) (by rw [hRf]; decide) (by rw [hRl]; decide) (by first | (rw [hRc]; decide) | omega) (by first | (rw [hRs]; decide) | omega) dL_has_4 (fun E ce q9 M1 H locs hqx hw hcell hcv hcls => ?_) (fun r9 M1 H locs hq hw => ?_)
  · obtain ⟨A1, ⟨hE, hG1⟩, hM1, hd1⟩ := hqx
    subst hM1
    rcases hE with ⟨rfl, hb9⟩ | ⟨rfl, hb9⟩
    · skip
      refine vx_catch (own := "RangeledgerLaw") (name := "java/lang/IndexOutOfBoundsException") hC.2.2.2.1 [] (⟨0, 18, 21, 19⟩ : ExceptionTableEntry) [(⟨0, 18, 25, 21⟩ : ExceptionTableEntry)] (by rw [htab]; rfl) (fun z hz => nomatch hz) (by decide) (by decide) (hC.2.2.2.2.1 _ (List.mem_cons_of_mem _ (List.mem_append_left _ (List.mem_append_left _ (List.mem_append_left _ (List.mem_append_left _ (List.mem_append_left _ (List.mem_append_left _ (List.mem_of_getElem? (i := 0) rfl))))))))) (va_Nw.use rfl (hC.2.2.2.2.2.2.2.2.1.2.2.2.1.1 ("java/lang/IndexOutOfBoundsException", "java/lang/IndexOutOfBoundsException") (by decide))) hcell hcv hcls ?_
      show W p l e R s m args below meth c H locs _ _ _ (F0 m 21 ls [.ref q9])
      refine lv_astore (lv' := [(4, .ref q9), (0, .ref h0), (1, .int (iN (p0))), (2, .int (iN (p1))), (3, .ref o)]) hC.1 hC.2.1 dL_has_21 hl (by decide) rfl (fun ls hl => ?_)
      refine x_const hC dL_has_23 ?_
      exact vx_ret (x_iret hC hw dL_has_24 (by first | decide | omega) (by first | decide | omega) ⟨1, rfl, _, _, _, rfl, hd1, Or.inr ⟨by omega, by omega, hG1⟩⟩)
    · skip
      refine vx_catch (own := "RangeledgerLaw") (name := "java/lang/IllegalArgumentException") hC.2.2.2.1 [(⟨0, 18, 21, 19⟩ : ExceptionTableEntry)] (⟨0, 18, 25, 21⟩ : ExceptionTableEntry) [] (by rw [htab]; rfl) (fun z hz => by simp only [List.mem_cons, List.not_mem_nil, or_false] at hz; subst hz; (· exact Or.inr ⟨by decide, "java/lang/IndexOutOfBoundsException", hC.2.2.2.2.1 _ (List.mem_cons_of_mem _ (List.mem_append_left _ (List.mem_append_left _ (List.mem_append_left _ (List.mem_append_left _ (List.mem_append_left _ (List.mem_append_left _ (List.mem_of_getElem? (i := 0) rfl)))))))), hC.2.2.2.2.2.2.2.2.1.2.2.2.2.1 ("java/lang/IllegalArgumentException", "java/lang/IndexOutOfBoundsException") (by decide)⟩)) (by decide) (by decide) (hC.2.2.2.2.1 _ (List.mem_cons_of_mem _ (List.mem_append_left _ (List.mem_append_left _ (List.mem_append_left _ (List.mem_append_left _ (List.mem_append_left _ (List.mem_append_left _ (List.mem_of_getElem? (i := 1) rfl))))))))) (va_Nw.use rfl (hC.2.2.2.2.2.2.2.2.1.2.2.2.1.1 ("java/lang/IllegalArgumentException", "java/lang/IllegalArgumentException") (by decide))) hcell hcv hcls ?_
      show W p l e R s m args below meth c H locs _ _ _ (F0 m 25 ls [.ref q9])
      refine lv_astore (lv' := [(4, .ref q9), (0, .ref h0), (1, .int (iN (p0))), (2, .int (iN (p1))), (3, .ref o)]) hC.1 hC.2.1 dL_has_25 hl (by decide) rfl (fun ls hl => ?_)
      refine x_const hC dL_has_27 ?_
      exact vx_ret (x_iret hC hw dL_has_28 (by first | decide | omega) (by first | decide | omega) ⟨2, rfl, _, _, _, rfl, hd1, Or.inr ⟨by omega, by omega, hG1⟩⟩)
  · obtain ⟨A1, ⟨z8, hr9, hz8, ho8, hA8, hG1⟩, hM1, hd1⟩ := hq
    subst hr9
    subst hM1
    show W p l e R s m args below meth c H locs _ _ _ (F0 m 7 ls [.int (iN (z8)), .ref o])
    refine x_if_eq (tgt := 14) hC ⟨by omega, by omega⟩ dL_has_7 (by decide) (fun c_1 => ?_) (fun c_1 => ?_)
    · refine lv_lconst (v := 0) hC.1 hC.2.1 dL_has_14 rfl ?_
      refine x_putOn (fs2 := [.long (0), sv]) hC hw hinX4 (xU_b hd1 xO_s) (by simp) rfl dL_has_15 (fun H locs hw => ?_)
      rw [xU_up hd1] at hw
      refine lv_goto (tgt := 29) hC.1 hC.2.1 dL_has_18 (by decide) ?_
      refine x_const hC dL_has_29 ?_
      exact vx_ret (x_iret hC hw dL_has_30 (by first | decide | omega) (by first | decide | omega) ⟨0, rfl, _, _, _, rfl, xO_dis hd1, Or.inl ⟨by omega, ho8, ⟨z8, by rw [show z8 = 0 by omega]; rfl, by omega, hA8⟩, hG1⟩⟩)
    · refine lv_lconst (v := 1) hC.1 hC.2.1 dL_has_10 rfl ?_
      refine lv_goto (tgt := 15) hC.1 hC.2.1 dL_has_11 (by decide) ?_
      refine x_putOn (fs2 := [.long (1), sv]) hC hw hinX4 (xU_b hd1 xO_s) (by simp) rfl dL_has_15 (fun H locs hw => ?_)
      rw [xU_up hd1] at hw
      refine lv_goto (tgt := 29) hC.1 hC.2.1 dL_has_18 (by decide) ?_
      refine x_const hC dL_has_29 ?_
      exact vx_ret (x_iret hC hw dL_has_30 (by first | decide | omega) (by first | decide | omega) ⟨0, rfl, _, _, _, rfl, xO_dis hd1, Or.inl ⟨by omega, ho8, ⟨z8, by rw [show z8 = 1 by omega]; rfl, by omega, hA8⟩, hG1⟩⟩)
set_option maxHeartbeats 4000000 in
set_option maxRecDepth 100000 in
theorem c_L_hasValue (l : Launch) (G : xG) (hst : l.stackTraces = false) {A : HM} {h0 o : Nat} {N : Int} {O : OW} {V : BW} {Wv : VW} {K : WA} {kp kv rfd : Int32} {d : Int64} {sv : Value} (hG : RG G A h0 N (O, V, Wv, K, kp, kv, rfd)) (hN : N ≤ 590) (hd : xDis A (xO o d sv)) {p0 : Int} (hp0 : -2147483648 ≤ p0 ∧ p0 ≤ 2147483647) {p1 : Int} (hp1 : -2147483648 ≤ p1 ∧ p1 ≤ 2147483647) : xMet l G yL_hasValue wsL_hasValue 8 134 2 12 [.ref h0, .int (iN (p0)), .int (iN (p1)), .ref o] (xU A (xO o d sv)) (fun r M1 => ∃ k9 : Int, r = some (.int (iN k9)) ∧ ∃ (A1 : HM) (d1 : Int64) (sv1 : Value), M1 = xU A1 (xO o d1 sv1) ∧ xDis A1 (xO o d1 sv1) ∧ ((k9 = 0 ∧ ((0 ≤ p0 ∧ p0 ≤ 2) ∧ (-9999 ≤ p1 ∧ p1 ≤ 9999)) ∧ (∃ z : Int, d1 = (iN z).toInt64 ∧ (-2147483648 ≤ z ∧ z ≤ 2147483647) ∧ z = A_hasValue (O, V, Wv, K, kp, kv, rfd) p0 p1) ∧ RG G A1 h0 (N + 1) (O, V, Wv, K, kp, kv, rfd)) ∨ (k9 ≠ 0 ∧ ((k9 = 1 ∧ ¬ (0 ≤ p0 ∧ p0 ≤ 2)) ∨ (k9 = 2 ∧ (0 ≤ p0 ∧ p0 ≤ 2) ∧ ¬ (-9999 ≤ p1 ∧ p1 ≤ 9999))) ∧ RG G A1 h0 (N + 1) (O, V, Wv, K, kp, kv, rfd)))) := by
  obtain ⟨bs, vs, og, qb, qk, qv, fb, fv, T, C, K0, hR, hK, hcb⟩ := hG
  replace hK : K = abK T C K0 := hK
  subst hK
  replace hR : RGx G A h0 bs vs og kp kv rfd qb qk qv fb fv O O Wv V T C K0 := hR
  refine x_introW (cc := cL_hasValue) (maxL := 5) (ret := (some .int)) (hh := [(0, 18, 21, 19), (0, 18, 25, 21)]) (by exact pln_RL) rfl (Nat.le_of_ble_eq_true rfl) ?_
  intro p e R s m args below meth c ls hRf hRc hRs hRl htab hC hw hl
  have hinX4 : ∀ w ∈ wsX40, w ∈ wsL_hasValue := fun w h => (List.mem_cons_of_mem _ (List.mem_append_left _ (List.mem_append_left _ (List.mem_append_left _ (List.mem_append_left _ (List.mem_append_right _ h))))))
  have hl : lv_has ls 5 [(0, .ref h0), (1, .int (iN (p0))), (2, .int (iN (p1))), (3, .ref o)] := hl
  refine lv_aload_n hC.1 hC.2.1 dL_hasValue_0 rfl (lv_at hl 3 rfl) ?_
  refine lv_aload_n hC.1 hC.2.1 dL_hasValue_1 rfl (lv_at hl 0 rfl) ?_
  refine lv_iload_n hC.1 hC.2.1 dL_hasValue_2 rfl (lv_at hl 1 rfl) ?_
  refine lv_iload_n hC.1 hC.2.1 dL_hasValue_3 rfl (lv_at hl 2 rfl) ?_
  refine x_callVX hC hw (lv_size hl) ((c_X3_hasValue l G hst hR hcb hN (p0 := p0) (by first | assumption | omega) (p1 := p1) (by first | assumption | omega)).frame hd) gL_hasValue_X3_hasValue rfl dv_X3_hasValue (xU_l hR.1) rfl rfl (Nat.le_of_ble_eq_true rfl) (by rw [hRf]; decide) (by rw [hRl]; decide) (by first | (rw [hRc]; decide) | omega) (by first | (rw [hRs]; decide) | omega) dL_hasValue_4 (fun E ce q9 M1 H locs hqx hw hcell hcv hcls => ?_) (fun r9 M1 H locs hq hw => ?_)
  · obtain ⟨A1, ⟨hE, hG1⟩, hM1, hd1⟩ := hqx
    subst hM1
    rcases hE with ⟨rfl, hb9⟩ | ⟨rfl, hb9⟩
    · skip
      refine vx_catch (own := "RangeledgerLaw") (name := "java/lang/IndexOutOfBoundsException") hC.2.2.2.1 [] (⟨0, 18, 21, 19⟩ : ExceptionTableEntry) [(⟨0, 18, 25, 21⟩ : ExceptionTableEntry)] (by rw [htab]; rfl) (fun z hz => nomatch hz) (by decide) (by decide) (hC.2.2.2.2.1 _ (List.mem_cons_of_mem _ (List.mem_append_left _ (List.mem_append_left _ (List.mem_append_left _ (List.mem_append_left _ (List.mem_append_left _ (List.mem_append_left _ (List.mem_of_getElem? (i := 0) rfl))))))))) (va_Nw.use rfl (hC.2.2.2.2.2.2.2.2.1.2.2.2.1.1 ("java/lang/IndexOutOfBoundsException", "java/lang/IndexOutOfBoundsException") (by decide))) hcell hcv hcls ?_
      show W p l e R s m args below meth c H locs _ _ _ (F0 m 21 ls [.ref q9])
      refine lv_astore (lv' := [(4, .ref q9), (0, .ref h0), (1, .int (iN (p0))), (2, .int (iN (p1))), (3, .ref o)]) hC.1 hC.2.1 dL_hasValue_21 hl (by decide) rfl (fun ls hl => ?_)
      refine x_const hC dL_hasValue_23 ?_
      exact vx_ret (x_iret hC hw dL_hasValue_24 (by first | decide | omega) (by first | decide | omega) ⟨1, rfl, _, _, _, rfl, hd1, Or.inr ⟨by omega, by omega, hG1⟩⟩)
    · skip
      refine vx_catch (own := "RangeledgerLaw") (name := "java/lang/IllegalArgumentException") hC.2.2.2.1 [(⟨0, 18, 21, 19⟩ : ExceptionTableEntry)] (⟨0, 18, 25, 21⟩ : ExceptionTableEntry) [] (by rw [htab]; rfl) (fun z hz => by simp only [List.mem_cons, List.not_mem_nil, or_false] at hz; subst hz; (· exact Or.inr ⟨by decide, "java/lang/IndexOutOfBoundsException", hC.2.2.2.2.1 _ (List.mem_cons_of_mem _ (List.mem_append_left _ (List.mem_append_left _ (List.mem_append_left _ (List.mem_append_left _ (List.mem_append_left _ (List.mem_append_left _ (List.mem_of_getElem? (i := 0) rfl)))))))), hC.2.2.2.2.2.2.2.2.1.2.2.2.2.1 ("java/lang/IllegalArgumentException", "java/lang/IndexOutOfBoundsException") (by decide)⟩)) (by decide) (by decide) (hC.2.2.2.2.1 _ (List.mem_cons_of_mem _ (List.mem_append_left _ (List.mem_append_left _ (List.mem_append_left _ (List.mem_append_left _ (List.mem_append_left _ (List.mem_append_left _ (List.mem_of_getElem? (i := 1) rfl))))))))) (va_Nw.use rfl (hC.2.2.2.2.2.2.2.2.1.2.2.2.1.1 ("java/lang/IllegalArgumentException", "java/lang/IllegalArgumentException") (by decide))) hcell hcv hcls ?_
      show W p l e R s m args below meth c H locs _ _ _ (F0 m 25 ls [.ref q9])
      refine lv_astore (lv' := [(4, .ref q9), (0, .ref h0), (1, .int (iN (p0))), (2, .int (iN (p1))), (3, .ref o)]) hC.1 hC.2.1 dL_hasValue_25 hl (by decide) rfl (fun ls hl => ?_)
      refine x_const hC dL_hasValue_27 ?_
      exact vx_ret (x_iret hC hw dL_hasValue_28 (by first | decide | omega) (by first | decide | omega) ⟨2, rfl, _, _, _, rfl, hd1, Or.inr ⟨by omega, by omega, hG1⟩⟩)
  · obtain ⟨A1, ⟨z8, hr9, hz8, ho8, hA8, hG1⟩, hM1, hd1⟩ := hq
    subst hr9
    subst hM1
    show W p l e R s m args below meth c H locs _ _ _ (F0 m 7 ls [.int (iN (z8)), .ref o])
    refine x_if_eq (tgt := 14) hC ⟨by omega, by omega⟩ dL_hasValue_7 (by decide) (fun c_1 => ?_) (fun c_1 => ?_)
    · refine lv_lconst (v := 0) hC.1 hC.2.1 dL_hasValue_14 rfl ?_
      refine x_putOn (fs2 := [.long (0), sv]) hC hw hinX4 (xU_b hd1 xO_s) (by simp) rfl dL_hasValue_15 (fun H locs hw => ?_)
      rw [xU_up hd1] at hw
      refine lv_goto (tgt := 29) hC.1 hC.2.1 dL_hasValue_18 (by decide) ?_
      refine x_const hC dL_hasValue_29 ?_
      exact vx_ret (x_iret hC hw dL_hasValue_30 (by first | decide | omega) (by first | decide | omega) ⟨0, rfl, _, _, _, rfl, xO_dis hd1, Or.inl ⟨by omega, ho8, ⟨z8, by rw [show z8 = 0 by omega]; rfl, by omega, hA8⟩, hG1⟩⟩)
    · refine lv_lconst (v := 1) hC.1 hC.2.1 dL_hasValue_10 rfl ?_
      refine lv_goto (tgt := 15) hC.1 hC.2.1 dL_hasValue_11 (by decide) ?_
      refine x_putOn (fs2 := [.long (1), sv]) hC hw hinX4 (xU_b hd1 xO_s) (by simp) rfl dL_hasValue_15 (fun H locs hw => ?_)
      rw [xU_up hd1] at hw
      refine lv_goto (tgt := 29) hC.1 hC.2.1 dL_hasValue_18 (by decide) ?_
      refine x_const hC dL_hasValue_29 ?_
      exact vx_ret (x_iret hC hw dL_hasValue_30 (by first | decide | omega) (by first | decide | omega) ⟨0, rfl, _, _, _, rfl, xO_dis hd1, Or.inl ⟨by omega, ho8, ⟨z8, by rw [show z8 = 1 by omega]; rfl, by omega, hA8⟩, hG1⟩⟩)
set_option maxHeartbeats 4000000 in
set_option maxRecDepth 100000 in
theorem c_L_ofBook (l : Launch) (G : xG) (hst : l.stackTraces = false) {A : HM} {h0 o : Nat} {N : Int} {O : OW} {V : BW} {Wv : VW} {K : WA} {kp kv rfd : Int32} {d : Int64} {sv : Value} (hG : RG G A h0 N (O, V, Wv, K, kp, kv, rfd)) (hN : N ≤ 590) (hd : xDis A (xO o d sv)) {p0 : Int} (hp0 : -2147483648 ≤ p0 ∧ p0 ≤ 2147483647) {p1 : Int} (hp1 : -2147483648 ≤ p1 ∧ p1 ≤ 2147483647) : xMet l G yL_ofBook wsL_ofBook 8 134 2 12 [.ref h0, .int (iN (p0)), .int (iN (p1)), .ref o] (xU A (xO o d sv)) (fun r M1 => ∃ k9 : Int, r = some (.int (iN k9)) ∧ ∃ (A1 : HM) (d1 : Int64) (sv1 : Value), M1 = xU A1 (xO o d1 sv1) ∧ xDis A1 (xO o d1 sv1) ∧ ((k9 = 0 ∧ ((0 ≤ p0 ∧ p0 ≤ 2) ∧ (0 ≤ p1 ∧ p1 ≤ 8)) ∧ (∃ z : Int, d1 = (iN z).toInt64 ∧ (-2147483648 ≤ z ∧ z ≤ 2147483647) ∧ z = A_ofBook (O, V, Wv, K, kp, kv, rfd) p0 p1) ∧ RG G A1 h0 (N + 1) (O, V, Wv, K, kp, kv, rfd)) ∨ (k9 ≠ 0 ∧ ((k9 = 1 ∧ ¬ (0 ≤ p0 ∧ p0 ≤ 2)) ∨ (k9 = 2 ∧ (0 ≤ p0 ∧ p0 ≤ 2) ∧ ¬ (0 ≤ p1 ∧ p1 ≤ 8))) ∧ RG G A1 h0 (N + 1) (O, V, Wv, K, kp, kv, rfd)))) := by
  obtain ⟨bs, vs, og, qb, qk, qv, fb, fv, T, C, K0, hR, hK, hcb⟩ := hG
  replace hK : K = abK T C K0 := hK
  subst hK
  replace hR : RGx G A h0 bs vs og kp kv rfd qb qk qv fb fv O O Wv V T C K0 := hR
  refine x_introW (cc := cL_ofBook) (maxL := 5) (ret := (some .int)) (hh := [(0, 11, 14, 19), (0, 11, 18, 21)]) (by exact pln_RL) rfl (Nat.le_of_ble_eq_true rfl) ?_
  intro p e R s m args below meth c ls hRf hRc hRs hRl htab hC hw hl
  have hinX4 : ∀ w ∈ wsX40, w ∈ wsL_ofBook := fun w h => (List.mem_cons_of_mem _ (List.mem_append_left _ (List.mem_append_left _ (List.mem_append_left _ (List.mem_append_left _ (List.mem_append_left _ (List.mem_append_right _ h)))))))
  have hl : lv_has ls 5 [(0, .ref h0), (1, .int (iN (p0))), (2, .int (iN (p1))), (3, .ref o)] := hl
  refine lv_aload_n hC.1 hC.2.1 dL_ofBook_0 rfl (lv_at hl 3 rfl) ?_
  refine lv_aload_n hC.1 hC.2.1 dL_ofBook_1 rfl (lv_at hl 0 rfl) ?_
  refine lv_iload_n hC.1 hC.2.1 dL_ofBook_2 rfl (lv_at hl 1 rfl) ?_
  refine lv_iload_n hC.1 hC.2.1 dL_ofBook_3 rfl (lv_at hl 2 rfl) ?_
  refine x_callVX hC hw (lv_size hl) ((c_X3_ofBook l G hst hR hcb hN (p0 := p0) (by first | assumption | omega) (p1 := p1) (by first | assumption | omega)).frame hd) gL_ofBook_X3_ofBook rfl dv_X3_ofBook (xU_l hR.1) rfl rfl (Nat.le_of_ble_eq_true rfl) (by rw [hRf]; decide) (by rw [hRl]; decide) (by first | (rw [hRc]; decide) | omega) (by first | (rw [hRs]; decide) | omega) dL_ofBook_4 (fun E ce q9 M1 H locs hqx hw hcell hcv hcls => ?_) (fun r9 M1 H locs hq hw => ?_)
  · obtain ⟨A1, ⟨hE, hG1⟩, hM1, hd1⟩ := hqx
    subst hM1
    rcases hE with ⟨rfl, hb9⟩ | ⟨rfl, hb9⟩
    · skip
      refine vx_catch (own := "RangeledgerLaw") (name := "java/lang/IndexOutOfBoundsException") hC.2.2.2.1 [] (⟨0, 11, 14, 19⟩ : ExceptionTableEntry) [(⟨0, 11, 18, 21⟩ : ExceptionTableEntry)] (by rw [htab]; rfl) (fun z hz => nomatch hz) (by decide) (by decide) (hC.2.2.2.2.1 _ (List.mem_cons_of_mem _ (List.mem_append_left _ (List.mem_append_left _ (List.mem_append_left _ (List.mem_append_left _ (List.mem_append_left _ (List.mem_append_left _ (List.mem_append_left _ (List.mem_of_getElem? (i := 0) rfl)))))))))) (va_Nw.use rfl (hC.2.2.2.2.2.2.2.2.1.2.2.2.1.1 ("java/lang/IndexOutOfBoundsException", "java/lang/IndexOutOfBoundsException") (by decide))) hcell hcv hcls ?_
      show W p l e R s m args below meth c H locs _ _ _ (F0 m 14 ls [.ref q9])
      refine lv_astore (lv' := [(4, .ref q9), (0, .ref h0), (1, .int (iN (p0))), (2, .int (iN (p1))), (3, .ref o)]) hC.1 hC.2.1 dL_ofBook_14 hl (by decide) rfl (fun ls hl => ?_)
      refine x_const hC dL_ofBook_16 ?_
      exact vx_ret (x_iret hC hw dL_ofBook_17 (by first | decide | omega) (by first | decide | omega) ⟨1, rfl, _, _, _, rfl, hd1, Or.inr ⟨by omega, by omega, hG1⟩⟩)
    · skip
      refine vx_catch (own := "RangeledgerLaw") (name := "java/lang/IllegalArgumentException") hC.2.2.2.1 [(⟨0, 11, 14, 19⟩ : ExceptionTableEntry)] (⟨0, 11, 18, 21⟩ : ExceptionTableEntry) [] (by rw [htab]; rfl) (fun z hz => by simp only [List.mem_cons, List.not_mem_nil, or_false] at hz; subst hz; (· exact Or.inr ⟨by decide, "java/lang/IndexOutOfBoundsException", hC.2.2.2.2.1 _ (List.mem_cons_of_mem _ (List.mem_append_left _ (List.mem_append_left _ (List.mem_append_left _ (List.mem_append_left _ (List.mem_append_left _ (List.mem_append_left _ (List.mem_append_left _ (List.mem_of_getElem? (i := 0) rfl))))))))), hC.2.2.2.2.2.2.2.2.1.2.2.2.2.1 ("java/lang/IllegalArgumentException", "java/lang/IndexOutOfBoundsException") (by decide)⟩)) (by decide) (by decide) (hC.2.2.2.2.1 _ (List.mem_cons_of_mem _ (List.mem_append_left _ (List.mem_append_left _ (List.mem_append_left _ (List.mem_append_left _ (List.mem_append_left _ (List.mem_append_left _ (List.mem_append_left _ (List.mem_of_getElem? (i := 1) rfl)))))))))) (va_Nw.use rfl (hC.2.2.2.2.2.2.2.2.1.2.2.2.1.1 ("java/lang/IllegalArgumentException", "java/lang/IllegalArgumentException") (by decide))) hcell hcv hcls ?_
      show W p l e R s m args below meth c H locs _ _ _ (F0 m 18 ls [.ref q9])
      refine lv_astore (lv' := [(4, .ref q9), (0, .ref h0), (1, .int (iN (p0))), (2, .int (iN (p1))), (3, .ref o)]) hC.1 hC.2.1 dL_ofBook_18 hl (by decide) rfl (fun ls hl => ?_)
      refine x_const hC dL_ofBook_20 ?_
      exact vx_ret (x_iret hC hw dL_ofBook_21 (by first | decide | omega) (by first | decide | omega) ⟨2, rfl, _, _, _, rfl, hd1, Or.inr ⟨by omega, by omega, hG1⟩⟩)
  · obtain ⟨A1, ⟨z8, hr9, hz8, ho8, hA8, hG1⟩, hM1, hd1⟩ := hq
    subst hr9
    subst hM1
    show W p l e R s m args below meth c H locs _ _ _ (F0 m 7 ls [.int (iN (z8)), .ref o])
    refine lv_i2l hC.1 hC.2.1 dL_ofBook_7 rfl ?_
    refine lv_topl (fun d_1 hd_1 => ?_)
    refine x_putOn (fs2 := [.long (d_1), sv]) hC hw hinX4 (xU_b hd1 xO_s) (by simp) rfl dL_ofBook_8 (fun H locs hw => ?_)
    rw [xU_up hd1] at hw
    refine lv_goto (tgt := 22) hC.1 hC.2.1 dL_ofBook_11 (by decide) ?_
    refine x_const hC dL_ofBook_22 ?_
    exact vx_ret (x_iret hC hw dL_ofBook_23 (by first | decide | omega) (by first | decide | omega) ⟨0, rfl, _, _, _, rfl, xO_dis hd1, Or.inl ⟨by omega, ho8, ⟨z8, hd_1, by omega, hA8⟩, hG1⟩⟩)
set_option maxHeartbeats 4000000 in
set_option maxRecDepth 100000 in
theorem c_L_near (l : Launch) (G : xG) (hst : l.stackTraces = false) {A : HM} {h0 o : Nat} {N : Int} {O : OW} {V : BW} {Wv : VW} {K : WA} {kp kv rfd : Int32} {d : Int64} {sv : Value} (hG : RG G A h0 N (O, V, Wv, K, kp, kv, rfd)) (hN : N ≤ 590) (hd : xDis A (xO o d sv)) {p0 : Int} (hp0 : -2147483648 ≤ p0 ∧ p0 ≤ 2147483647) {p1 : Int} (hp1 : -2147483648 ≤ p1 ∧ p1 ≤ 2147483647) {p2 : Int} (hp2 : -2147483648 ≤ p2 ∧ p2 ≤ 2147483647) : xMet l G yL_near wsL_near 8 136 3 18 [.ref h0, .int (iN (p0)), .int (iN (p1)), .int (iN (p2)), .ref o] (xU A (xO o d sv)) (fun r M1 => ∃ k9 : Int, r = some (.int (iN k9)) ∧ ∃ (A1 : HM) (d1 : Int64) (sv1 : Value), M1 = xU A1 (xO o d1 sv1) ∧ xDis A1 (xO o d1 sv1) ∧ ((k9 = 0 ∧ ((0 ≤ p0 ∧ p0 ≤ 2) ∧ ((0 ≤ p1 ∧ p1 ≤ 99) ∧ (0 ≤ p2 ∧ p2 ≤ 7))) ∧ (∃ z : Int, d1 = (iN z).toInt64 ∧ (-2147483648 ≤ z ∧ z ≤ 2147483647) ∧ z = A_near (O, V, Wv, K, kp, kv, rfd) p0 p1 p2) ∧ RG G A1 h0 (N + 1) (O, V, Wv, K, kp, kv, rfd)) ∨ (k9 ≠ 0 ∧ ((k9 = 1 ∧ ¬ (0 ≤ p0 ∧ p0 ≤ 2)) ∨ (k9 = 2 ∧ (0 ≤ p0 ∧ p0 ≤ 2) ∧ ¬ ((0 ≤ p1 ∧ p1 ≤ 99) ∧ (0 ≤ p2 ∧ p2 ≤ 7)))) ∧ RG G A1 h0 (N + 1) (O, V, Wv, K, kp, kv, rfd)))) := by
  obtain ⟨bs, vs, og, qb, qk, qv, fb, fv, T, C, K0, hR, hK, hcb⟩ := hG
  replace hK : K = abK T C K0 := hK
  subst hK
  replace hR : RGx G A h0 bs vs og kp kv rfd qb qk qv fb fv O O Wv V T C K0 := hR
  refine x_introW (cc := cL_near) (maxL := 6) (ret := (some .int)) (hh := [(0, 13, 16, 19), (0, 13, 20, 21)]) (by exact pln_RL) rfl (Nat.le_of_ble_eq_true rfl) ?_
  intro p e R s m args below meth c ls hRf hRc hRs hRl htab hC hw hl
  have hinX4 : ∀ w ∈ wsX40, w ∈ wsL_near := fun w h => (List.mem_cons_of_mem _ (List.mem_append_left _ (List.mem_append_left _ (List.mem_append_left _ (List.mem_append_left _ (List.mem_append_right _ h))))))
  have hl : lv_has ls 6 [(0, .ref h0), (1, .int (iN (p0))), (2, .int (iN (p1))), (3, .int (iN (p2))), (4, .ref o)] := hl
  refine lv_aload hC.1 hC.2.1 dL_near_0 (lv_at hl 4 rfl) ?_
  refine lv_aload_n hC.1 hC.2.1 dL_near_2 rfl (lv_at hl 0 rfl) ?_
  refine lv_iload_n hC.1 hC.2.1 dL_near_3 rfl (lv_at hl 1 rfl) ?_
  refine lv_iload_n hC.1 hC.2.1 dL_near_4 rfl (lv_at hl 2 rfl) ?_
  refine lv_iload_n hC.1 hC.2.1 dL_near_5 rfl (lv_at hl 3 rfl) ?_
  refine x_callVX hC hw (lv_size hl) ((c_X3_near l G hst hR hcb hN (p0 := p0) (by first | assumption | omega) (p1 := p1) (by first | assumption | omega) (p2 := p2) (by first | assumption | omega)).frame hd) gL_near_X3_near rfl dv_X3_near (xU_l hR.1) rfl rfl (Nat.le_of_ble_eq_true rfl) (by rw [hRf]; decide) (by rw [hRl]; decide) (by first | (rw [hRc]; decide) | omega) (by first | (rw [hRs]; decide) | omega) dL_near_6 (fun E ce q9 M1 H locs hqx hw hcell hcv hcls => ?_) (fun r9 M1 H locs hq hw => ?_)
  · obtain ⟨A1, ⟨hE, hG1⟩, hM1, hd1⟩ := hqx
    subst hM1
    rcases hE with ⟨rfl, hb9⟩ | ⟨rfl, hb9⟩
    · skip
      refine vx_catch (own := "RangeledgerLaw") (name := "java/lang/IndexOutOfBoundsException") hC.2.2.2.1 [] (⟨0, 13, 16, 19⟩ : ExceptionTableEntry) [(⟨0, 13, 20, 21⟩ : ExceptionTableEntry)] (by rw [htab]; rfl) (fun z hz => nomatch hz) (by decide) (by decide) (hC.2.2.2.2.1 _ (List.mem_cons_of_mem _ (List.mem_append_left _ (List.mem_append_left _ (List.mem_append_left _ (List.mem_append_left _ (List.mem_append_left _ (List.mem_append_left _ (List.mem_of_getElem? (i := 0) rfl))))))))) (va_Nw.use rfl (hC.2.2.2.2.2.2.2.2.1.2.2.2.1.1 ("java/lang/IndexOutOfBoundsException", "java/lang/IndexOutOfBoundsException") (by decide))) hcell hcv hcls ?_
      show W p l e R s m args below meth c H locs _ _ _ (F0 m 16 ls [.ref q9])
      refine lv_astore (lv' := [(5, .ref q9), (0, .ref h0), (1, .int (iN (p0))), (2, .int (iN (p1))), (3, .int (iN (p2))), (4, .ref o)]) hC.1 hC.2.1 dL_near_16 hl (by decide) rfl (fun ls hl => ?_)
      refine x_const hC dL_near_18 ?_
      exact vx_ret (x_iret hC hw dL_near_19 (by first | decide | omega) (by first | decide | omega) ⟨1, rfl, _, _, _, rfl, hd1, Or.inr ⟨by omega, by omega, hG1⟩⟩)
    · skip
      refine vx_catch (own := "RangeledgerLaw") (name := "java/lang/IllegalArgumentException") hC.2.2.2.1 [(⟨0, 13, 16, 19⟩ : ExceptionTableEntry)] (⟨0, 13, 20, 21⟩ : ExceptionTableEntry) [] (by rw [htab]; rfl) (fun z hz => by simp only [List.mem_cons, List.not_mem_nil, or_false] at hz; subst hz; (· exact Or.inr ⟨by decide, "java/lang/IndexOutOfBoundsException", hC.2.2.2.2.1 _ (List.mem_cons_of_mem _ (List.mem_append_left _ (List.mem_append_left _ (List.mem_append_left _ (List.mem_append_left _ (List.mem_append_left _ (List.mem_append_left _ (List.mem_of_getElem? (i := 0) rfl)))))))), hC.2.2.2.2.2.2.2.2.1.2.2.2.2.1 ("java/lang/IllegalArgumentException", "java/lang/IndexOutOfBoundsException") (by decide)⟩)) (by decide) (by decide) (hC.2.2.2.2.1 _ (List.mem_cons_of_mem _ (List.mem_append_left _ (List.mem_append_left _ (List.mem_append_left _ (List.mem_append_left _ (List.mem_append_left _ (List.mem_append_left _ (List.mem_of_getElem? (i := 1) rfl))))))))) (va_Nw.use rfl (hC.2.2.2.2.2.2.2.2.1.2.2.2.1.1 ("java/lang/IllegalArgumentException", "java/lang/IllegalArgumentException") (by decide))) hcell hcv hcls ?_
      show W p l e R s m args below meth c H locs _ _ _ (F0 m 20 ls [.ref q9])
      refine lv_astore (lv' := [(5, .ref q9), (0, .ref h0), (1, .int (iN (p0))), (2, .int (iN (p1))), (3, .int (iN (p2))), (4, .ref o)]) hC.1 hC.2.1 dL_near_20 hl (by decide) rfl (fun ls hl => ?_)
      refine x_const hC dL_near_22 ?_
      exact vx_ret (x_iret hC hw dL_near_23 (by first | decide | omega) (by first | decide | omega) ⟨2, rfl, _, _, _, rfl, hd1, Or.inr ⟨by omega, by omega, hG1⟩⟩)
  · obtain ⟨A1, ⟨z8, hr9, hz8, ho8, hA8, hG1⟩, hM1, hd1⟩ := hq
    subst hr9
    subst hM1
    show W p l e R s m args below meth c H locs _ _ _ (F0 m 9 ls [.int (iN (z8)), .ref o])
    refine lv_i2l hC.1 hC.2.1 dL_near_9 rfl ?_
    refine lv_topl (fun d_1 hd_1 => ?_)
    refine x_putOn (fs2 := [.long (d_1), sv]) hC hw hinX4 (xU_b hd1 xO_s) (by simp) rfl dL_near_10 (fun H locs hw => ?_)
    rw [xU_up hd1] at hw
    refine lv_goto (tgt := 24) hC.1 hC.2.1 dL_near_13 (by decide) ?_
    refine x_const hC dL_near_24 ?_
    exact vx_ret (x_iret hC hw dL_near_25 (by first | decide | omega) (by first | decide | omega) ⟨0, rfl, _, _, _, rfl, xO_dis hd1, Or.inl ⟨by omega, ho8, ⟨z8, hd_1, by omega, hA8⟩, hG1⟩⟩)
set_option maxHeartbeats 4000000 in
set_option maxRecDepth 100000 in
theorem c_L_place (l : Launch) (G : xG) (hst : l.stackTraces = false) {A : HM} {h0 o : Nat} {N : Int} {O : OW} {V : BW} {Wv : VW} {K : WA} {kp kv rfd : Int32} {d : Int64} {sv : Value} (hG : RG G A h0 N (O, V, Wv, K, kp, kv, rfd)) (hN : N ≤ 590) (hd : xDis A (xO o d sv)) {p0 : Int} (hp0 : -2147483648 ≤ p0 ∧ p0 ≤ 2147483647) {p1 : Int} (hp1 : -2147483648 ≤ p1 ∧ p1 ≤ 2147483647) : xMet l G yL_place wsL_place 8 134 2 12 [.ref h0, .int (iN (p0)), .int (iN (p1)), .ref o] (xU A (xO o d sv)) (fun r M1 => ∃ k9 : Int, r = some (.int (iN k9)) ∧ ∃ (A1 : HM) (d1 : Int64) (sv1 : Value), M1 = xU A1 (xO o d1 sv1) ∧ xDis A1 (xO o d1 sv1) ∧ ((k9 = 0 ∧ ((0 ≤ p0 ∧ p0 ≤ 2) ∧ (0 ≤ p1 ∧ p1 ≤ 99)) ∧ (∃ z : Int, d1 = (iN z).toInt64 ∧ (-2147483648 ≤ z ∧ z ≤ 2147483647) ∧ z = A_place (O, V, Wv, K, kp, kv, rfd) p0 p1) ∧ RG G A1 h0 (N + 1) (O, V, Wv, K, kp, kv, rfd)) ∨ (k9 ≠ 0 ∧ ((k9 = 1 ∧ ¬ (0 ≤ p0 ∧ p0 ≤ 2)) ∨ (k9 = 2 ∧ (0 ≤ p0 ∧ p0 ≤ 2) ∧ ¬ (0 ≤ p1 ∧ p1 ≤ 99))) ∧ RG G A1 h0 (N + 1) (O, V, Wv, K, kp, kv, rfd)))) := by
  obtain ⟨bs, vs, og, qb, qk, qv, fb, fv, T, C, K0, hR, hK, hcb⟩ := hG
  replace hK : K = abK T C K0 := hK
  subst hK
  replace hR : RGx G A h0 bs vs og kp kv rfd qb qk qv fb fv O O Wv V T C K0 := hR
  refine x_introW (cc := cL_place) (maxL := 5) (ret := (some .int)) (hh := [(0, 11, 14, 19), (0, 11, 18, 21)]) (by exact pln_RL) rfl (Nat.le_of_ble_eq_true rfl) ?_
  intro p e R s m args below meth c ls hRf hRc hRs hRl htab hC hw hl
  have hinX4 : ∀ w ∈ wsX40, w ∈ wsL_place := fun w h => (List.mem_cons_of_mem _ (List.mem_append_left _ (List.mem_append_left _ (List.mem_append_left _ (List.mem_append_left _ (List.mem_append_right _ h))))))
  have hl : lv_has ls 5 [(0, .ref h0), (1, .int (iN (p0))), (2, .int (iN (p1))), (3, .ref o)] := hl
  refine lv_aload_n hC.1 hC.2.1 dL_place_0 rfl (lv_at hl 3 rfl) ?_
  refine lv_aload_n hC.1 hC.2.1 dL_place_1 rfl (lv_at hl 0 rfl) ?_
  refine lv_iload_n hC.1 hC.2.1 dL_place_2 rfl (lv_at hl 1 rfl) ?_
  refine lv_iload_n hC.1 hC.2.1 dL_place_3 rfl (lv_at hl 2 rfl) ?_
  refine x_callVX hC hw (lv_size hl) ((c_X3_place l G hst hR hcb hN (p0 := p0) (by first | assumption | omega) (p1 := p1) (by first | assumption | omega)).frame hd) gL_place_X3_place rfl dv_X3_place (xU_l hR.1) rfl rfl (Nat.le_of_ble_eq_true rfl) (by rw [hRf]; decide) (by rw [hRl]; decide) (by first | (rw [hRc]; decide) | omega) (by first | (rw [hRs]; decide) | omega) dL_place_4 (fun E ce q9 M1 H locs hqx hw hcell hcv hcls => ?_) (fun r9 M1 H locs hq hw => ?_)
  · obtain ⟨A1, ⟨hE, hG1⟩, hM1, hd1⟩ := hqx
    subst hM1
    rcases hE with ⟨rfl, hb9⟩ | ⟨rfl, hb9⟩
    · skip
      refine vx_catch (own := "RangeledgerLaw") (name := "java/lang/IndexOutOfBoundsException") hC.2.2.2.1 [] (⟨0, 11, 14, 19⟩ : ExceptionTableEntry) [(⟨0, 11, 18, 21⟩ : ExceptionTableEntry)] (by rw [htab]; rfl) (fun z hz => nomatch hz) (by decide) (by decide) (hC.2.2.2.2.1 _ (List.mem_cons_of_mem _ (List.mem_append_left _ (List.mem_append_left _ (List.mem_append_left _ (List.mem_append_left _ (List.mem_append_left _ (List.mem_append_left _ (List.mem_of_getElem? (i := 0) rfl))))))))) (va_Nw.use rfl (hC.2.2.2.2.2.2.2.2.1.2.2.2.1.1 ("java/lang/IndexOutOfBoundsException", "java/lang/IndexOutOfBoundsException") (by decide))) hcell hcv hcls ?_
      show W p l e R s m args below meth c H locs _ _ _ (F0 m 14 ls [.ref q9])
      refine lv_astore (lv' := [(4, .ref q9), (0, .ref h0), (1, .int (iN (p0))), (2, .int (iN (p1))), (3, .ref o)]) hC.1 hC.2.1 dL_place_14 hl (by decide) rfl (fun ls hl => ?_)
      refine x_const hC dL_place_16 ?_
      exact vx_ret (x_iret hC hw dL_place_17 (by first | decide | omega) (by first | decide | omega) ⟨1, rfl, _, _, _, rfl, hd1, Or.inr ⟨by omega, by omega, hG1⟩⟩)
    · skip
      refine vx_catch (own := "RangeledgerLaw") (name := "java/lang/IllegalArgumentException") hC.2.2.2.1 [(⟨0, 11, 14, 19⟩ : ExceptionTableEntry)] (⟨0, 11, 18, 21⟩ : ExceptionTableEntry) [] (by rw [htab]; rfl) (fun z hz => by simp only [List.mem_cons, List.not_mem_nil, or_false] at hz; subst hz; (· exact Or.inr ⟨by decide, "java/lang/IndexOutOfBoundsException", hC.2.2.2.2.1 _ (List.mem_cons_of_mem _ (List.mem_append_left _ (List.mem_append_left _ (List.mem_append_left _ (List.mem_append_left _ (List.mem_append_left _ (List.mem_append_left _ (List.mem_of_getElem? (i := 0) rfl)))))))), hC.2.2.2.2.2.2.2.2.1.2.2.2.2.1 ("java/lang/IllegalArgumentException", "java/lang/IndexOutOfBoundsException") (by decide)⟩)) (by decide) (by decide) (hC.2.2.2.2.1 _ (List.mem_cons_of_mem _ (List.mem_append_left _ (List.mem_append_left _ (List.mem_append_left _ (List.mem_append_left _ (List.mem_append_left _ (List.mem_append_left _ (List.mem_of_getElem? (i := 1) rfl))))))))) (va_Nw.use rfl (hC.2.2.2.2.2.2.2.2.1.2.2.2.1.1 ("java/lang/IllegalArgumentException", "java/lang/IllegalArgumentException") (by decide))) hcell hcv hcls ?_
      show W p l e R s m args below meth c H locs _ _ _ (F0 m 18 ls [.ref q9])
      refine lv_astore (lv' := [(4, .ref q9), (0, .ref h0), (1, .int (iN (p0))), (2, .int (iN (p1))), (3, .ref o)]) hC.1 hC.2.1 dL_place_18 hl (by decide) rfl (fun ls hl => ?_)
      refine x_const hC dL_place_20 ?_
      exact vx_ret (x_iret hC hw dL_place_21 (by first | decide | omega) (by first | decide | omega) ⟨2, rfl, _, _, _, rfl, hd1, Or.inr ⟨by omega, by omega, hG1⟩⟩)
  · obtain ⟨A1, ⟨z8, hr9, hz8, ho8, hA8, hG1⟩, hM1, hd1⟩ := hq
    subst hr9
    subst hM1
    show W p l e R s m args below meth c H locs _ _ _ (F0 m 7 ls [.int (iN (z8)), .ref o])
    refine lv_i2l hC.1 hC.2.1 dL_place_7 rfl ?_
    refine lv_topl (fun d_1 hd_1 => ?_)
    refine x_putOn (fs2 := [.long (d_1), sv]) hC hw hinX4 (xU_b hd1 xO_s) (by simp) rfl dL_place_8 (fun H locs hw => ?_)
    rw [xU_up hd1] at hw
    refine lv_goto (tgt := 22) hC.1 hC.2.1 dL_place_11 (by decide) ?_
    refine x_const hC dL_place_22 ?_
    exact vx_ret (x_iret hC hw dL_place_23 (by first | decide | omega) (by first | decide | omega) ⟨0, rfl, _, _, _, rfl, xO_dis hd1, Or.inl ⟨by omega, ho8, ⟨z8, hd_1, by omega, hA8⟩, hG1⟩⟩)
set_option maxHeartbeats 4000000 in
set_option maxRecDepth 100000 in
theorem c_L_at (l : Launch) (G : xG) (hst : l.stackTraces = false) {A : HM} {h0 o : Nat} {N : Int} {O : OW} {V : BW} {Wv : VW} {K : WA} {kp kv rfd : Int32} {d : Int64} {sv : Value} (hG : RG G A h0 N (O, V, Wv, K, kp, kv, rfd)) (hN : N ≤ 590) (hd : xDis A (xO o d sv)) {p0 : Int} (hp0 : -2147483648 ≤ p0 ∧ p0 ≤ 2147483647) {p1 : Int} (hp1 : -2147483648 ≤ p1 ∧ p1 ≤ 2147483647) : xMet l G yL_at wsL_at 8 134 2 12 [.ref h0, .int (iN (p0)), .int (iN (p1)), .ref o] (xU A (xO o d sv)) (fun r M1 => ∃ k9 : Int, r = some (.int (iN k9)) ∧ ∃ (A1 : HM) (d1 : Int64) (sv1 : Value), M1 = xU A1 (xO o d1 sv1) ∧ xDis A1 (xO o d1 sv1) ∧ ((k9 = 0 ∧ ((0 ≤ p0 ∧ p0 ≤ 2) ∧ (0 ≤ p1)) ∧ (∃ z : Int, d1 = (iN z).toInt64 ∧ (-2147483648 ≤ z ∧ z ≤ 2147483647) ∧ atQ O V p0.toNat p1 z) ∧ RG G A1 h0 (N + 1) (O, V, Wv, K, kp, kv, rfd)) ∨ (k9 ≠ 0 ∧ ((k9 = 1 ∧ ¬ (0 ≤ p0 ∧ p0 ≤ 2)) ∨ (k9 = 2 ∧ (0 ≤ p0 ∧ p0 ≤ 2) ∧ ¬ (0 ≤ p1))) ∧ RG G A1 h0 (N + 1) (O, V, Wv, K, kp, kv, rfd)))) := by
  obtain ⟨bs, vs, og, qb, qk, qv, fb, fv, T, C, K0, hR, hK, hcb⟩ := hG
  replace hK : K = abK T C K0 := hK
  subst hK
  replace hR : RGx G A h0 bs vs og kp kv rfd qb qk qv fb fv O O Wv V T C K0 := hR
  refine x_introW (cc := cL_at) (maxL := 5) (ret := (some .int)) (hh := [(0, 11, 14, 19), (0, 11, 18, 21)]) (by exact pln_RL) rfl (Nat.le_of_ble_eq_true rfl) ?_
  intro p e R s m args below meth c ls hRf hRc hRs hRl htab hC hw hl
  have hinX4 : ∀ w ∈ wsX40, w ∈ wsL_at := fun w h => (List.mem_cons_of_mem _ (List.mem_append_left _ (List.mem_append_left _ (List.mem_append_left _ (List.mem_append_left _ (List.mem_append_right _ h))))))
  have hl : lv_has ls 5 [(0, .ref h0), (1, .int (iN (p0))), (2, .int (iN (p1))), (3, .ref o)] := hl
  refine lv_aload_n hC.1 hC.2.1 dL_at_0 rfl (lv_at hl 3 rfl) ?_
  refine lv_aload_n hC.1 hC.2.1 dL_at_1 rfl (lv_at hl 0 rfl) ?_
  refine lv_iload_n hC.1 hC.2.1 dL_at_2 rfl (lv_at hl 1 rfl) ?_
  refine lv_iload_n hC.1 hC.2.1 dL_at_3 rfl (lv_at hl 2 rfl) ?_
  refine x_callVX hC hw (lv_size hl) ((c_X3_at l G hst hR hcb hN (p0 := p0) (by first | assumption | omega) (p1 := p1) (by first | assumption | omega)).frame hd) gL_at_X3_at rfl dv_X3_at (xU_l hR.1) rfl rfl (Nat.le_of_ble_eq_true rfl) (by rw [hRf]; decide) (by rw [hRl]; decide) (by first | (rw [hRc]; decide) | omega) (by first | (rw [hRs]; decide) | omega) dL_at_4 (fun E ce q9 M1 H locs hqx hw hcell hcv hcls => ?_) (fun r9 M1 H locs hq hw => ?_)
  · obtain ⟨A1, ⟨hE, hG1⟩, hM1, hd1⟩ := hqx
    subst hM1
    rcases hE with ⟨rfl, hb9⟩ | ⟨rfl, hb9⟩
    · skip
      refine vx_catch (own := "RangeledgerLaw") (name := "java/lang/IndexOutOfBoundsException") hC.2.2.2.1 [] (⟨0, 11, 14, 19⟩ : ExceptionTableEntry) [(⟨0, 11, 18, 21⟩ : ExceptionTableEntry)] (by rw [htab]; rfl) (fun z hz => nomatch hz) (by decide) (by decide) (hC.2.2.2.2.1 _ (List.mem_cons_of_mem _ (List.mem_append_left _ (List.mem_append_left _ (List.mem_append_left _ (List.mem_append_left _ (List.mem_append_left _ (List.mem_append_left _ (List.mem_of_getElem? (i := 0) rfl))))))))) (va_Nw.use rfl (hC.2.2.2.2.2.2.2.2.1.2.2.2.1.1 ("java/lang/IndexOutOfBoundsException", "java/lang/IndexOutOfBoundsException") (by decide))) hcell hcv hcls ?_
      show W p l e R s m args below meth c H locs _ _ _ (F0 m 14 ls [.ref q9])
      refine lv_astore (lv' := [(4, .ref q9), (0, .ref h0), (1, .int (iN (p0))), (2, .int (iN (p1))), (3, .ref o)]) hC.1 hC.2.1 dL_at_14 hl (by decide) rfl (fun ls hl => ?_)
      refine x_const hC dL_at_16 ?_
      exact vx_ret (x_iret hC hw dL_at_17 (by first | decide | omega) (by first | decide | omega) ⟨1, rfl, _, _, _, rfl, hd1, Or.inr ⟨by omega, by omega, hG1⟩⟩)
    · skip
      refine vx_catch (own := "RangeledgerLaw") (name := "java/lang/IllegalArgumentException") hC.2.2.2.1 [(⟨0, 11, 14, 19⟩ : ExceptionTableEntry)] (⟨0, 11, 18, 21⟩ : ExceptionTableEntry) [] (by rw [htab]; rfl) (fun z hz => by simp only [List.mem_cons, List.not_mem_nil, or_false] at hz; subst hz; (· exact Or.inr ⟨by decide, "java/lang/IndexOutOfBoundsException", hC.2.2.2.2.1 _ (List.mem_cons_of_mem _ (List.mem_append_left _ (List.mem_append_left _ (List.mem_append_left _ (List.mem_append_left _ (List.mem_append_left _ (List.mem_append_left _ (List.mem_of_getElem? (i := 0) rfl)))))))), hC.2.2.2.2.2.2.2.2.1.2.2.2.2.1 ("java/lang/IllegalArgumentException", "java/lang/IndexOutOfBoundsException") (by decide)⟩)) (by decide) (by decide) (hC.2.2.2.2.1 _ (List.mem_cons_of_mem _ (List.mem_append_left _ (List.mem_append_left _ (List.mem_append_left _ (List.mem_append_left _ (List.mem_append_left _ (List.mem_append_left _ (List.mem_of_getElem? (i := 1) rfl))))))))) (va_Nw.use rfl (hC.2.2.2.2.2.2.2.2.1.2.2.2.1.1 ("java/lang/IllegalArgumentException", "java/lang/IllegalArgumentException") (by decide))) hcell hcv hcls ?_
      show W p l e R s m args below meth c H locs _ _ _ (F0 m 18 ls [.ref q9])
      refine lv_astore (lv' := [(4, .ref q9), (0, .ref h0), (1, .int (iN (p0))), (2, .int (iN (p1))), (3, .ref o)]) hC.1 hC.2.1 dL_at_18 hl (by decide) rfl (fun ls hl => ?_)
      refine x_const hC dL_at_20 ?_
      exact vx_ret (x_iret hC hw dL_at_21 (by first | decide | omega) (by first | decide | omega) ⟨2, rfl, _, _, _, rfl, hd1, Or.inr ⟨by omega, by omega, hG1⟩⟩)
  · obtain ⟨A1, ⟨z8, hr9, hz8, ho8, hA8, hG1⟩, hM1, hd1⟩ := hq
    subst hr9
    subst hM1
    show W p l e R s m args below meth c H locs _ _ _ (F0 m 7 ls [.int (iN (z8)), .ref o])
    refine lv_i2l hC.1 hC.2.1 dL_at_7 rfl ?_
    refine lv_topl (fun d_1 hd_1 => ?_)
    refine x_putOn (fs2 := [.long (d_1), sv]) hC hw hinX4 (xU_b hd1 xO_s) (by simp) rfl dL_at_8 (fun H locs hw => ?_)
    rw [xU_up hd1] at hw
    refine lv_goto (tgt := 22) hC.1 hC.2.1 dL_at_11 (by decide) ?_
    refine x_const hC dL_at_22 ?_
    exact vx_ret (x_iret hC hw dL_at_23 (by first | decide | omega) (by first | decide | omega) ⟨0, rfl, _, _, _, rfl, xO_dis hd1, Or.inl ⟨by omega, ho8, ⟨z8, hd_1, by omega, hA8⟩, hG1⟩⟩)
set_option maxHeartbeats 4000000 in
set_option maxRecDepth 100000 in
theorem c_L_row (l : Launch) (G : xG) (hst : l.stackTraces = false) {A : HM} {h0 o : Nat} {N : Int} {O : OW} {V : BW} {Wv : VW} {K : WA} {kp kv rfd : Int32} {d : Int64} {sv : Value} (hG : RG G A h0 N (O, V, Wv, K, kp, kv, rfd)) (hN : N ≤ 590) (hd : xDis A (xO o d sv)) {p0 : Int} (hp0 : -2147483648 ≤ p0 ∧ p0 ≤ 2147483647) : xMet l G yL_row wsL_row 8 183 15 11706 [.ref h0, .int (iN (p0)), .ref o] (xU A (xO o d sv)) (fun r M1 => ∃ k9 : Int, r = some (.int (iN k9)) ∧ ∃ (A1 : HM) (d1 : Int64) (sv1 : Value), M1 = xU A1 (xO o d1 sv1) ∧ xDis A1 (xO o d1 sv1) ∧ ((k9 = 0 ∧ ((0 ≤ p0 ∧ p0 ≤ 2)) ∧ True ∧ RG G A1 h0 (N + 1) (O, V, Wv, K, kp, kv, rfd)) ∨ (k9 ≠ 0 ∧ ((k9 = 1 ∧ ¬ (0 ≤ p0 ∧ p0 ≤ 2))) ∧ RG G A1 h0 (N + 1) (O, V, Wv, K, kp, kv, rfd)))) := by
  obtain ⟨bs, vs, og, qb, qk, qv, fb, fv, T, C, K0, hR, hK, hcb⟩ := hG
  replace hK : K = abK T C K0 := hK
  subst hK
  replace hR : RGx G A h0 bs vs og kp kv rfd qb qk qv fb fv O O Wv V T C K0 := hR
  refine x_introW (cc := cL_row) (maxL := 4) (ret := (some .int)) (hh := [(0, 9, 12, 19)]) (by exact pln_RL) rfl (Nat.le_of_ble_eq_true rfl) ?_
  intro p e R s m args below meth c ls hRf hRc hRs hRl htab hC hw hl
  have hinX4 : ∀ w ∈ wsX40, w ∈ wsL_row := fun w h => (List.mem_cons_of_mem _ (List.mem_append_left _ (List.mem_append_left _ (List.mem_append_left _ (List.mem_append_left _ (List.mem_append_left _ (List.mem_append_right _ h)))))))
  have hl : lv_has ls 4 [(0, .ref h0), (1, .int (iN (p0))), (2, .ref o)] := hl
  refine lv_aload_n hC.1 hC.2.1 dL_row_0 rfl (lv_at hl 2 rfl) ?_
  refine lv_aload_n hC.1 hC.2.1 dL_row_1 rfl (lv_at hl 0 rfl) ?_
  refine lv_iload_n hC.1 hC.2.1 dL_row_2 rfl (lv_at hl 1 rfl) ?_
  refine x_callVX hC hw (lv_size hl) ((c_X3_row l G hst hR hcb hN (p0 := p0) (by first | assumption | omega)).frame hd) gL_row_X3_row rfl dv_X3_row (xU_l hR.1) rfl rfl (Nat.le_of_ble_eq_true rfl) (by rw [hRf]; decide) (by rw [hRl]; decide) (by first | (rw [hRc]; decide) | omega) (by first | (rw [hRs]; decide) | omega) dL_row_3 (fun E ce q9 M1 H locs hqx hw hcell hcv hcls => ?_) (fun r9 M1 H locs hq hw => ?_)
  · obtain ⟨A1, ⟨hE, hG1⟩, hM1, hd1⟩ := hqx
    subst hM1
    obtain ⟨rfl, hb9⟩ := hE
    refine vx_catch (own := "RangeledgerLaw") (name := "java/lang/IndexOutOfBoundsException") hC.2.2.2.1 [] (⟨0, 9, 12, 19⟩ : ExceptionTableEntry) [] (by rw [htab]; rfl) (fun z hz => nomatch hz) (by decide) (by decide) (hC.2.2.2.2.1 _ (List.mem_cons_of_mem _ (List.mem_append_left _ (List.mem_append_left _ (List.mem_append_left _ (List.mem_append_left _ (List.mem_append_left _ (List.mem_append_left _ (List.mem_append_left _ (List.mem_of_getElem? (i := 0) rfl)))))))))) (va_Nw.use rfl (hC.2.2.2.2.2.2.2.2.1.2.2.2.1.1 ("java/lang/IndexOutOfBoundsException", "java/lang/IndexOutOfBoundsException") (by decide))) hcell hcv hcls ?_
    show W p l e R s m args below meth c H locs _ _ _ (F0 m 12 ls [.ref q9])
    refine lv_astore_n (lv' := [(3, .ref q9), (0, .ref h0), (1, .int (iN (p0))), (2, .ref o)]) hC.1 hC.2.1 dL_row_12 rfl hl (by decide) rfl (fun ls hl => ?_)
    refine x_const hC dL_row_13 ?_
    exact vx_ret (x_iret hC hw dL_row_14 (by first | decide | omega) (by first | decide | omega) ⟨1, rfl, _, _, _, rfl, hd1, Or.inr ⟨by omega, by omega, hG1⟩⟩)
  · obtain ⟨A1, ⟨q8, hr9, ho8, hG1⟩, hM1, hd1⟩ := hq
    subst hr9
    subst hM1
    show W p l e R s m args below meth c H locs _ _ _ (F0 m 6 ls [.ref q8, .ref o])
    refine x_putOs (fs2 := [.long d, .ref q8]) hC hw hinX4 (xU_b hd1 xO_s) (by simp) rfl dL_row_6 (fun H locs hw => ?_)
    rw [xU_up hd1] at hw
    refine lv_goto (tgt := 15) hC.1 hC.2.1 dL_row_9 (by decide) ?_
    refine x_const hC dL_row_15 ?_
    exact vx_ret (x_iret hC hw dL_row_16 (by first | decide | omega) (by first | decide | omega) ⟨0, rfl, _, _, _, rfl, xO_dis hd1, Or.inl ⟨by omega, ho8, trivial, hG1⟩⟩)
set_option maxHeartbeats 4000000 in
set_option maxRecDepth 100000 in
theorem c_L_same (l : Launch) (G : xG) (hst : l.stackTraces = false) {A : HM} {h0 o : Nat} {N : Int} {O : OW} {V : BW} {Wv : VW} {K : WA} {kp kv rfd : Int32} {d : Int64} {sv : Value} (hG : RG G A h0 N (O, V, Wv, K, kp, kv, rfd)) (hN : N ≤ 590) (hd : xDis A (xO o d sv)) {p0 : Int} (hp0 : -2147483648 ≤ p0 ∧ p0 ≤ 2147483647) {p1 : Int} (hp1 : -2147483648 ≤ p1 ∧ p1 ≤ 2147483647) : xMet l G yL_same wsL_same 8 136 2 12 [.ref h0, .int (iN (p0)), .int (iN (p1)), .ref o] (xU A (xO o d sv)) (fun r M1 => ∃ k9 : Int, r = some (.int (iN k9)) ∧ ∃ (A1 : HM) (d1 : Int64) (sv1 : Value), M1 = xU A1 (xO o d1 sv1) ∧ xDis A1 (xO o d1 sv1) ∧ ((k9 = 0 ∧ (((0 ≤ p0 ∧ p0 ≤ 2) ∧ (0 ≤ p1 ∧ p1 ≤ 2))) ∧ (∃ z : Int, d1 = (iN z).toInt64 ∧ (-2147483648 ≤ z ∧ z ≤ 2147483647) ∧ z = A_same (O, V, Wv, K, kp, kv, rfd) p0 p1) ∧ RG G A1 h0 (N + 1) (O, V, Wv, K, kp, kv, rfd)) ∨ (k9 ≠ 0 ∧ ((k9 = 1 ∧ ¬ ((0 ≤ p0 ∧ p0 ≤ 2) ∧ (0 ≤ p1 ∧ p1 ≤ 2)))) ∧ RG G A1 h0 (N + 1) (O, V, Wv, K, kp, kv, rfd)))) := by
  obtain ⟨bs, vs, og, qb, qk, qv, fb, fv, T, C, K0, hR, hK, hcb⟩ := hG
  replace hK : K = abK T C K0 := hK
  subst hK
  replace hR : RGx G A h0 bs vs og kp kv rfd qb qk qv fb fv O O Wv V T C K0 := hR
  refine x_introW (cc := cL_same) (maxL := 5) (ret := (some .int)) (hh := [(0, 18, 21, 19)]) (by exact pln_RL) rfl (Nat.le_of_ble_eq_true rfl) ?_
  intro p e R s m args below meth c ls hRf hRc hRs hRl htab hC hw hl
  have hinX4 : ∀ w ∈ wsX40, w ∈ wsL_same := fun w h => (List.mem_cons_of_mem _ (List.mem_append_left _ (List.mem_append_left _ (List.mem_append_left _ (List.mem_append_right _ h)))))
  have hl : lv_has ls 5 [(0, .ref h0), (1, .int (iN (p0))), (2, .int (iN (p1))), (3, .ref o)] := hl
  refine lv_aload_n hC.1 hC.2.1 dL_same_0 rfl (lv_at hl 3 rfl) ?_
  refine lv_aload_n hC.1 hC.2.1 dL_same_1 rfl (lv_at hl 0 rfl) ?_
  refine lv_iload_n hC.1 hC.2.1 dL_same_2 rfl (lv_at hl 1 rfl) ?_
  refine lv_iload_n hC.1 hC.2.1 dL_same_3 rfl (lv_at hl 2 rfl) ?_
  refine x_callVX hC hw (lv_size hl) ((c_X3_same l G hst hR hcb hN (p0 := p0) (by first | assumption | omega) (p1 := p1) (by first | assumption | omega)).frame hd) gL_same_X3_same rfl dv_X3_same (xU_l hR.1) rfl rfl (Nat.le_of_ble_eq_true rfl) (by rw [hRf]; decide) (by rw [hRl]; decide) (by first | (rw [hRc]; decide) | omega) (by first | (rw [hRs]; decide) | omega) dL_same_4 (fun E ce q9 M1 H locs hqx hw hcell hcv hcls => ?_) (fun r9 M1 H locs hq hw => ?_)
  · obtain ⟨A1, ⟨hE, hG1⟩, hM1, hd1⟩ := hqx
    subst hM1
    obtain ⟨rfl, hb9⟩ := hE
    refine vx_catch (own := "RangeledgerLaw") (name := "java/lang/IndexOutOfBoundsException") hC.2.2.2.1 [] (⟨0, 18, 21, 19⟩ : ExceptionTableEntry) [] (by rw [htab]; rfl) (fun z hz => nomatch hz) (by decide) (by decide) (hC.2.2.2.2.1 _ (List.mem_cons_of_mem _ (List.mem_append_left _ (List.mem_append_left _ (List.mem_append_left _ (List.mem_append_left _ (List.mem_append_left _ (List.mem_of_getElem? (i := 0) rfl)))))))) (va_Nw.use rfl (hC.2.2.2.2.2.2.2.2.1.2.2.2.1.1 ("java/lang/IndexOutOfBoundsException", "java/lang/IndexOutOfBoundsException") (by decide))) hcell hcv hcls ?_
    show W p l e R s m args below meth c H locs _ _ _ (F0 m 21 ls [.ref q9])
    refine lv_astore (lv' := [(4, .ref q9), (0, .ref h0), (1, .int (iN (p0))), (2, .int (iN (p1))), (3, .ref o)]) hC.1 hC.2.1 dL_same_21 hl (by decide) rfl (fun ls hl => ?_)
    refine x_const hC dL_same_23 ?_
    exact vx_ret (x_iret hC hw dL_same_24 (by first | decide | omega) (by first | decide | omega) ⟨1, rfl, _, _, _, rfl, hd1, Or.inr ⟨by omega, by omega, hG1⟩⟩)
  · obtain ⟨A1, ⟨z8, hr9, hz8, ho8, hA8, hG1⟩, hM1, hd1⟩ := hq
    subst hr9
    subst hM1
    show W p l e R s m args below meth c H locs _ _ _ (F0 m 7 ls [.int (iN (z8)), .ref o])
    refine x_if_eq (tgt := 14) hC ⟨by omega, by omega⟩ dL_same_7 (by decide) (fun c_1 => ?_) (fun c_1 => ?_)
    · refine lv_lconst (v := 0) hC.1 hC.2.1 dL_same_14 rfl ?_
      refine x_putOn (fs2 := [.long (0), sv]) hC hw hinX4 (xU_b hd1 xO_s) (by simp) rfl dL_same_15 (fun H locs hw => ?_)
      rw [xU_up hd1] at hw
      refine lv_goto (tgt := 25) hC.1 hC.2.1 dL_same_18 (by decide) ?_
      refine x_const hC dL_same_25 ?_
      exact vx_ret (x_iret hC hw dL_same_26 (by first | decide | omega) (by first | decide | omega) ⟨0, rfl, _, _, _, rfl, xO_dis hd1, Or.inl ⟨by omega, ho8, ⟨z8, by rw [show z8 = 0 by omega]; rfl, by omega, hA8⟩, hG1⟩⟩)
    · refine lv_lconst (v := 1) hC.1 hC.2.1 dL_same_10 rfl ?_
      refine lv_goto (tgt := 15) hC.1 hC.2.1 dL_same_11 (by decide) ?_
      refine x_putOn (fs2 := [.long (1), sv]) hC hw hinX4 (xU_b hd1 xO_s) (by simp) rfl dL_same_15 (fun H locs hw => ?_)
      rw [xU_up hd1] at hw
      refine lv_goto (tgt := 25) hC.1 hC.2.1 dL_same_18 (by decide) ?_
      refine x_const hC dL_same_25 ?_
      exact vx_ret (x_iret hC hw dL_same_26 (by first | decide | omega) (by first | decide | omega) ⟨0, rfl, _, _, _, rfl, xO_dis hd1, Or.inl ⟨by omega, ho8, ⟨z8, by rw [show z8 = 1 by omega]; rfl, by omega, hA8⟩, hG1⟩⟩)
set_option maxHeartbeats 4000000 in
set_option maxRecDepth 100000 in
theorem c_L_viewGet (l : Launch) (G : xG) (hst : l.stackTraces = false) {A : HM} {h0 o : Nat} {N : Int} {O : OW} {V : BW} {Wv : VW} {K : WA} {kp kv rfd : Int32} {d : Int64} {sv : Value} (hG : RG G A h0 N (O, V, Wv, K, kp, kv, rfd)) (hN : N ≤ 590) (hd : xDis A (xO o d sv)) {p0 : Int} (hp0 : -2147483648 ≤ p0 ∧ p0 ≤ 2147483647) {p1 : Int} (hp1 : -2147483648 ≤ p1 ∧ p1 ≤ 2147483647) : xMet l G yL_viewGet wsL_viewGet 8 134 2 12 [.ref h0, .int (iN (p0)), .int (iN (p1)), .ref o] (xU A (xO o d sv)) (fun r M1 => ∃ k9 : Int, r = some (.int (iN k9)) ∧ ∃ (A1 : HM) (d1 : Int64) (sv1 : Value), M1 = xU A1 (xO o d1 sv1) ∧ xDis A1 (xO o d1 sv1) ∧ ((k9 = 0 ∧ ((0 ≤ p0 ∧ p0 ≤ 3 ∧ opN (Wv p0.toNat) = 1) ∧ (0 ≤ p1 ∧ p1 ≤ 99)) ∧ (∃ z : Int, d1 = (iN z).toInt64 ∧ (-2147483648 ≤ z ∧ z ≤ 2147483647) ∧ z = A_viewGet (O, V, Wv, K, kp, kv, rfd) p0 p1) ∧ RG G A1 h0 (N + 1) (O, V, Wv, K, kp, kv, rfd)) ∨ (k9 ≠ 0 ∧ ((k9 = 1 ∧ ¬ (0 ≤ p0 ∧ p0 ≤ 3 ∧ opN (Wv p0.toNat) = 1)) ∨ (k9 = 2 ∧ (0 ≤ p0 ∧ p0 ≤ 3 ∧ opN (Wv p0.toNat) = 1) ∧ ¬ (0 ≤ p1 ∧ p1 ≤ 99))) ∧ RG G A1 h0 (N + 1) (O, V, Wv, K, kp, kv, rfd)))) := by
  obtain ⟨bs, vs, og, qb, qk, qv, fb, fv, T, C, K0, hR, hK, hcb⟩ := hG
  replace hK : K = abK T C K0 := hK
  subst hK
  replace hR : RGx G A h0 bs vs og kp kv rfd qb qk qv fb fv O O Wv V T C K0 := hR
  refine x_introW (cc := cL_viewGet) (maxL := 5) (ret := (some .int)) (hh := [(0, 11, 14, 19), (0, 11, 18, 21)]) (by exact pln_RL) rfl (Nat.le_of_ble_eq_true rfl) ?_
  intro p e R s m args below meth c ls hRf hRc hRs hRl htab hC hw hl
  have hinX4 : ∀ w ∈ wsX40, w ∈ wsL_viewGet := fun w h => (List.mem_cons_of_mem _ (List.mem_append_left _ (List.mem_append_left _ (List.mem_append_left _ (List.mem_append_left _ (List.mem_append_left _ (List.mem_append_right _ h)))))))
  have hl : lv_has ls 5 [(0, .ref h0), (1, .int (iN (p0))), (2, .int (iN (p1))), (3, .ref o)] := hl
  refine lv_aload_n hC.1 hC.2.1 dL_viewGet_0 rfl (lv_at hl 3 rfl) ?_
  refine lv_aload_n hC.1 hC.2.1 dL_viewGet_1 rfl (lv_at hl 0 rfl) ?_
  refine lv_iload_n hC.1 hC.2.1 dL_viewGet_2 rfl (lv_at hl 1 rfl) ?_
  refine lv_iload_n hC.1 hC.2.1 dL_viewGet_3 rfl (lv_at hl 2 rfl) ?_
  refine x_callVX hC hw (lv_size hl) ((c_X3_viewGet l G hst hR hcb hN (p0 := p0) (by first | assumption | omega) (p1 := p1) (by first | assumption | omega)).frame hd) gL_viewGet_X3_viewGet rfl dv_X3_viewGet (xU_l hR.1) rfl rfl (Nat.le_of_ble_eq_true rfl) (by rw [hRf]; decide) (by rw [hRl]; decide) (by first | (rw [hRc]; decide) | omega) (by first | (rw [hRs]; decide) | omega) dL_viewGet_4 (fun E ce q9 M1 H locs hqx hw hcell hcv hcls => ?_) (fun r9 M1 H locs hq hw => ?_)
  · obtain ⟨A1, ⟨hE, hG1⟩, hM1, hd1⟩ := hqx
    subst hM1
    rcases hE with ⟨rfl, hb9⟩ | ⟨rfl, hb9⟩
    · skip
      refine vx_catch (own := "RangeledgerLaw") (name := "java/lang/IndexOutOfBoundsException") hC.2.2.2.1 [] (⟨0, 11, 14, 19⟩ : ExceptionTableEntry) [(⟨0, 11, 18, 21⟩ : ExceptionTableEntry)] (by rw [htab]; rfl) (fun z hz => nomatch hz) (by decide) (by decide) (hC.2.2.2.2.1 _ (List.mem_cons_of_mem _ (List.mem_append_left _ (List.mem_append_left _ (List.mem_append_left _ (List.mem_append_left _ (List.mem_append_left _ (List.mem_append_left _ (List.mem_append_left _ (List.mem_of_getElem? (i := 0) rfl)))))))))) (va_Nw.use rfl (hC.2.2.2.2.2.2.2.2.1.2.2.2.1.1 ("java/lang/IndexOutOfBoundsException", "java/lang/IndexOutOfBoundsException") (by decide))) hcell hcv hcls ?_
      show W p l e R s m args below meth c H locs _ _ _ (F0 m 14 ls [.ref q9])
      refine lv_astore (lv' := [(4, .ref q9), (0, .ref h0), (1, .int (iN (p0))), (2, .int (iN (p1))), (3, .ref o)]) hC.1 hC.2.1 dL_viewGet_14 hl (by decide) rfl (fun ls hl => ?_)
      refine x_const hC dL_viewGet_16 ?_
      exact vx_ret (x_iret hC hw dL_viewGet_17 (by first | decide | omega) (by first | decide | omega) ⟨1, rfl, _, _, _, rfl, hd1, Or.inr ⟨by omega, by omega, hG1⟩⟩)
    · skip
      refine vx_catch (own := "RangeledgerLaw") (name := "java/lang/IllegalArgumentException") hC.2.2.2.1 [(⟨0, 11, 14, 19⟩ : ExceptionTableEntry)] (⟨0, 11, 18, 21⟩ : ExceptionTableEntry) [] (by rw [htab]; rfl) (fun z hz => by simp only [List.mem_cons, List.not_mem_nil, or_false] at hz; subst hz; (· exact Or.inr ⟨by decide, "java/lang/IndexOutOfBoundsException", hC.2.2.2.2.1 _ (List.mem_cons_of_mem _ (List.mem_append_left _ (List.mem_append_left _ (List.mem_append_left _ (List.mem_append_left _ (List.mem_append_left _ (List.mem_append_left _ (List.mem_append_left _ (List.mem_of_getElem? (i := 0) rfl))))))))), hC.2.2.2.2.2.2.2.2.1.2.2.2.2.1 ("java/lang/IllegalArgumentException", "java/lang/IndexOutOfBoundsException") (by decide)⟩)) (by decide) (by decide) (hC.2.2.2.2.1 _ (List.mem_cons_of_mem _ (List.mem_append_left _ (List.mem_append_left _ (List.mem_append_left _ (List.mem_append_left _ (List.mem_append_left _ (List.mem_append_left _ (List.mem_append_left _ (List.mem_of_getElem? (i := 1) rfl)))))))))) (va_Nw.use rfl (hC.2.2.2.2.2.2.2.2.1.2.2.2.1.1 ("java/lang/IllegalArgumentException", "java/lang/IllegalArgumentException") (by decide))) hcell hcv hcls ?_
      show W p l e R s m args below meth c H locs _ _ _ (F0 m 18 ls [.ref q9])
      refine lv_astore (lv' := [(4, .ref q9), (0, .ref h0), (1, .int (iN (p0))), (2, .int (iN (p1))), (3, .ref o)]) hC.1 hC.2.1 dL_viewGet_18 hl (by decide) rfl (fun ls hl => ?_)
      refine x_const hC dL_viewGet_20 ?_
      exact vx_ret (x_iret hC hw dL_viewGet_21 (by first | decide | omega) (by first | decide | omega) ⟨2, rfl, _, _, _, rfl, hd1, Or.inr ⟨by omega, by omega, hG1⟩⟩)
  · obtain ⟨A1, ⟨z8, hr9, hz8, ho8, hA8, hG1⟩, hM1, hd1⟩ := hq
    subst hr9
    subst hM1
    show W p l e R s m args below meth c H locs _ _ _ (F0 m 7 ls [.int (iN (z8)), .ref o])
    refine lv_i2l hC.1 hC.2.1 dL_viewGet_7 rfl ?_
    refine lv_topl (fun d_1 hd_1 => ?_)
    refine x_putOn (fs2 := [.long (d_1), sv]) hC hw hinX4 (xU_b hd1 xO_s) (by simp) rfl dL_viewGet_8 (fun H locs hw => ?_)
    rw [xU_up hd1] at hw
    refine lv_goto (tgt := 22) hC.1 hC.2.1 dL_viewGet_11 (by decide) ?_
    refine x_const hC dL_viewGet_22 ?_
    exact vx_ret (x_iret hC hw dL_viewGet_23 (by first | decide | omega) (by first | decide | omega) ⟨0, rfl, _, _, _, rfl, xO_dis hd1, Or.inl ⟨by omega, ho8, ⟨z8, hd_1, by omega, hA8⟩, hG1⟩⟩)
set_option maxHeartbeats 4000000 in
set_option maxRecDepth 100000 in
theorem c_L_ofView (l : Launch) (G : xG) (hst : l.stackTraces = false) {A : HM} {h0 o : Nat} {N : Int} {O : OW} {V : BW} {Wv : VW} {K : WA} {kp kv rfd : Int32} {d : Int64} {sv : Value} (hG : RG G A h0 N (O, V, Wv, K, kp, kv, rfd)) (hN : N ≤ 590) (hd : xDis A (xO o d sv)) {p0 : Int} (hp0 : -2147483648 ≤ p0 ∧ p0 ≤ 2147483647) {p1 : Int} (hp1 : -2147483648 ≤ p1 ∧ p1 ≤ 2147483647) : xMet l G yL_ofView wsL_ofView 8 134 2 12 [.ref h0, .int (iN (p0)), .int (iN (p1)), .ref o] (xU A (xO o d sv)) (fun r M1 => ∃ k9 : Int, r = some (.int (iN k9)) ∧ ∃ (A1 : HM) (d1 : Int64) (sv1 : Value), M1 = xU A1 (xO o d1 sv1) ∧ xDis A1 (xO o d1 sv1) ∧ ((k9 = 0 ∧ ((0 ≤ p0 ∧ p0 ≤ 3 ∧ opN (Wv p0.toNat) = 1) ∧ (0 ≤ p1 ∧ p1 ≤ 8)) ∧ (∃ z : Int, d1 = (iN z).toInt64 ∧ (-2147483648 ≤ z ∧ z ≤ 2147483647) ∧ z = A_ofView (O, V, Wv, K, kp, kv, rfd) p0 p1) ∧ RG G A1 h0 (N + 1) (O, V, Wv, K, kp, kv, rfd)) ∨ (k9 ≠ 0 ∧ ((k9 = 1 ∧ ¬ (0 ≤ p0 ∧ p0 ≤ 3 ∧ opN (Wv p0.toNat) = 1)) ∨ (k9 = 2 ∧ (0 ≤ p0 ∧ p0 ≤ 3 ∧ opN (Wv p0.toNat) = 1) ∧ ¬ (0 ≤ p1 ∧ p1 ≤ 8))) ∧ RG G A1 h0 (N + 1) (O, V, Wv, K, kp, kv, rfd)))) := by
  obtain ⟨bs, vs, og, qb, qk, qv, fb, fv, T, C, K0, hR, hK, hcb⟩ := hG
  replace hK : K = abK T C K0 := hK
  subst hK
  replace hR : RGx G A h0 bs vs og kp kv rfd qb qk qv fb fv O O Wv V T C K0 := hR
  refine x_introW (cc := cL_ofView) (maxL := 5) (ret := (some .int)) (hh := [(0, 11, 14, 19), (0, 11, 18, 21)]) (by exact pln_RL) rfl (Nat.le_of_ble_eq_true rfl) ?_
  intro p e R s m args below meth c ls hRf hRc hRs hRl htab hC hw hl
  have hinX4 : ∀ w ∈ wsX40, w ∈ wsL_ofView := fun w h => (List.mem_cons_of_mem _ (List.mem_append_left _ (List.mem_append_left _ (List.mem_append_left _ (List.mem_append_left _ (List.mem_append_left _ (List.mem_append_right _ h)))))))
  have hl : lv_has ls 5 [(0, .ref h0), (1, .int (iN (p0))), (2, .int (iN (p1))), (3, .ref o)] := hl
  refine lv_aload_n hC.1 hC.2.1 dL_ofView_0 rfl (lv_at hl 3 rfl) ?_
  refine lv_aload_n hC.1 hC.2.1 dL_ofView_1 rfl (lv_at hl 0 rfl) ?_
  refine lv_iload_n hC.1 hC.2.1 dL_ofView_2 rfl (lv_at hl 1 rfl) ?_
  refine lv_iload_n hC.1 hC.2.1 dL_ofView_3 rfl (lv_at hl 2 rfl) ?_
  refine x_callVX hC hw (lv_size hl) ((c_X3_ofView l G hst hR hcb hN (p0 := p0) (by first | assumption | omega) (p1 := p1) (by first | assumption | omega)).frame hd) gL_ofView_X3_ofView rfl dv_X3_ofView (xU_l hR.1) rfl rfl (Nat.le_of_ble_eq_true rfl) (by rw [hRf]; decide) (by rw [hRl]; decide) (by first | (rw [hRc]; decide) | omega) (by first | (rw [hRs]; decide) | omega) dL_ofView_4 (fun E ce q9 M1 H locs hqx hw hcell hcv hcls => ?_) (fun r9 M1 H locs hq hw => ?_)
  · obtain ⟨A1, ⟨hE, hG1⟩, hM1, hd1⟩ := hqx
    subst hM1
    rcases hE with ⟨rfl, hb9⟩ | ⟨rfl, hb9⟩
    · skip
      refine vx_catch (own := "RangeledgerLaw") (name := "java/lang/IndexOutOfBoundsException") hC.2.2.2.1 [] (⟨0, 11, 14, 19⟩ : ExceptionTableEntry) [(⟨0, 11, 18, 21⟩ : ExceptionTableEntry)] (by rw [htab]; rfl) (fun z hz => nomatch hz) (by decide) (by decide) (hC.2.2.2.2.1 _ (List.mem_cons_of_mem _ (List.mem_append_left _ (List.mem_append_left _ (List.mem_append_left _ (List.mem_append_left _ (List.mem_append_left _ (List.mem_append_left _ (List.mem_append_left _ (List.mem_of_getElem? (i := 0) rfl)))))))))) (va_Nw.use rfl (hC.2.2.2.2.2.2.2.2.1.2.2.2.1.1 ("java/lang/IndexOutOfBoundsException", "java/lang/IndexOutOfBoundsException") (by decide))) hcell hcv hcls ?_
      show W p l e R s m args below meth c H locs _ _ _ (F0 m 14 ls [.ref q9])
      refine lv_astore (lv' := [(4, .ref q9), (0, .ref h0), (1, .int (iN (p0))), (2, .int (iN (p1))), (3, .ref o)]) hC.1 hC.2.1 dL_ofView_14 hl (by decide) rfl (fun ls hl => ?_)
      refine x_const hC dL_ofView_16 ?_
      exact vx_ret (x_iret hC hw dL_ofView_17 (by first | decide | omega) (by first | decide | omega) ⟨1, rfl, _, _, _, rfl, hd1, Or.inr ⟨by omega, by omega, hG1⟩⟩)
    · skip
      refine vx_catch (own := "RangeledgerLaw") (name := "java/lang/IllegalArgumentException") hC.2.2.2.1 [(⟨0, 11, 14, 19⟩ : ExceptionTableEntry)] (⟨0, 11, 18, 21⟩ : ExceptionTableEntry) [] (by rw [htab]; rfl) (fun z hz => by simp only [List.mem_cons, List.not_mem_nil, or_false] at hz; subst hz; (· exact Or.inr ⟨by decide, "java/lang/IndexOutOfBoundsException", hC.2.2.2.2.1 _ (List.mem_cons_of_mem _ (List.mem_append_left _ (List.mem_append_left _ (List.mem_append_left _ (List.mem_append_left _ (List.mem_append_left _ (List.mem_append_left _ (List.mem_append_left _ (List.mem_of_getElem? (i := 0) rfl))))))))), hC.2.2.2.2.2.2.2.2.1.2.2.2.2.1 ("java/lang/IllegalArgumentException", "java/lang/IndexOutOfBoundsException") (by decide)⟩)) (by decide) (by decide) (hC.2.2.2.2.1 _ (List.mem_cons_of_mem _ (List.mem_append_left _ (List.mem_append_left _ (List.mem_append_left _ (List.mem_append_left _ (List.mem_append_left _ (List.mem_append_left _ (List.mem_append_left _ (List.mem_of_getElem? (i := 1) rfl)))))))))) (va_Nw.use rfl (hC.2.2.2.2.2.2.2.2.1.2.2.2.1.1 ("java/lang/IllegalArgumentException", "java/lang/IllegalArgumentException") (by decide))) hcell hcv hcls ?_
      show W p l e R s m args below meth c H locs _ _ _ (F0 m 18 ls [.ref q9])
      refine lv_astore (lv' := [(4, .ref q9), (0, .ref h0), (1, .int (iN (p0))), (2, .int (iN (p1))), (3, .ref o)]) hC.1 hC.2.1 dL_ofView_18 hl (by decide) rfl (fun ls hl => ?_)
      refine x_const hC dL_ofView_20 ?_
      exact vx_ret (x_iret hC hw dL_ofView_21 (by first | decide | omega) (by first | decide | omega) ⟨2, rfl, _, _, _, rfl, hd1, Or.inr ⟨by omega, by omega, hG1⟩⟩)
  · obtain ⟨A1, ⟨z8, hr9, hz8, ho8, hA8, hG1⟩, hM1, hd1⟩ := hq
    subst hr9
    subst hM1
    show W p l e R s m args below meth c H locs _ _ _ (F0 m 7 ls [.int (iN (z8)), .ref o])
    refine lv_i2l hC.1 hC.2.1 dL_ofView_7 rfl ?_
    refine lv_topl (fun d_1 hd_1 => ?_)
    refine x_putOn (fs2 := [.long (d_1), sv]) hC hw hinX4 (xU_b hd1 xO_s) (by simp) rfl dL_ofView_8 (fun H locs hw => ?_)
    rw [xU_up hd1] at hw
    refine lv_goto (tgt := 22) hC.1 hC.2.1 dL_ofView_11 (by decide) ?_
    refine x_const hC dL_ofView_22 ?_
    exact vx_ret (x_iret hC hw dL_ofView_23 (by first | decide | omega) (by first | decide | omega) ⟨0, rfl, _, _, _, rfl, xO_dis hd1, Or.inl ⟨by omega, ho8, ⟨z8, hd_1, by omega, hA8⟩, hG1⟩⟩)
set_option maxHeartbeats 4000000 in
set_option maxRecDepth 100000 in
theorem c_L_viewNear (l : Launch) (G : xG) (hst : l.stackTraces = false) {A : HM} {h0 o : Nat} {N : Int} {O : OW} {V : BW} {Wv : VW} {K : WA} {kp kv rfd : Int32} {d : Int64} {sv : Value} (hG : RG G A h0 N (O, V, Wv, K, kp, kv, rfd)) (hN : N ≤ 590) (hd : xDis A (xO o d sv)) {p0 : Int} (hp0 : -2147483648 ≤ p0 ∧ p0 ≤ 2147483647) {p1 : Int} (hp1 : -2147483648 ≤ p1 ∧ p1 ≤ 2147483647) {p2 : Int} (hp2 : -2147483648 ≤ p2 ∧ p2 ≤ 2147483647) : xMet l G yL_viewNear wsL_viewNear 8 135 3 18 [.ref h0, .int (iN (p0)), .int (iN (p1)), .int (iN (p2)), .ref o] (xU A (xO o d sv)) (fun r M1 => ∃ k9 : Int, r = some (.int (iN k9)) ∧ ∃ (A1 : HM) (d1 : Int64) (sv1 : Value), M1 = xU A1 (xO o d1 sv1) ∧ xDis A1 (xO o d1 sv1) ∧ ((k9 = 0 ∧ ((0 ≤ p0 ∧ p0 ≤ 3 ∧ opN (Wv p0.toNat) = 1) ∧ ((0 ≤ p1 ∧ p1 ≤ 99) ∧ (0 ≤ p2 ∧ p2 ≤ 3))) ∧ (∃ z : Int, d1 = (iN z).toInt64 ∧ (-2147483648 ≤ z ∧ z ≤ 2147483647) ∧ z = A_viewNear (O, V, Wv, K, kp, kv, rfd) p0 p1 p2) ∧ RG G A1 h0 (N + 1) (O, V, Wv, K, kp, kv, rfd)) ∨ (k9 ≠ 0 ∧ ((k9 = 1 ∧ ¬ (0 ≤ p0 ∧ p0 ≤ 3 ∧ opN (Wv p0.toNat) = 1)) ∨ (k9 = 2 ∧ (0 ≤ p0 ∧ p0 ≤ 3 ∧ opN (Wv p0.toNat) = 1) ∧ ¬ ((0 ≤ p1 ∧ p1 ≤ 99) ∧ (0 ≤ p2 ∧ p2 ≤ 3)))) ∧ RG G A1 h0 (N + 1) (O, V, Wv, K, kp, kv, rfd)))) := by
  obtain ⟨bs, vs, og, qb, qk, qv, fb, fv, T, C, K0, hR, hK, hcb⟩ := hG
  replace hK : K = abK T C K0 := hK
  subst hK
  replace hR : RGx G A h0 bs vs og kp kv rfd qb qk qv fb fv O O Wv V T C K0 := hR
  refine x_introW (cc := cL_viewNear) (maxL := 6) (ret := (some .int)) (hh := [(0, 13, 16, 19), (0, 13, 20, 21)]) (by exact pln_RL) rfl (Nat.le_of_ble_eq_true rfl) ?_
  intro p e R s m args below meth c ls hRf hRc hRs hRl htab hC hw hl
  have hinX4 : ∀ w ∈ wsX40, w ∈ wsL_viewNear := fun w h => (List.mem_cons_of_mem _ (List.mem_append_left _ (List.mem_append_left _ (List.mem_append_left _ (List.mem_append_left _ (List.mem_append_left _ (List.mem_append_right _ h)))))))
  have hl : lv_has ls 6 [(0, .ref h0), (1, .int (iN (p0))), (2, .int (iN (p1))), (3, .int (iN (p2))), (4, .ref o)] := hl
  refine lv_aload hC.1 hC.2.1 dL_viewNear_0 (lv_at hl 4 rfl) ?_
  refine lv_aload_n hC.1 hC.2.1 dL_viewNear_2 rfl (lv_at hl 0 rfl) ?_
  refine lv_iload_n hC.1 hC.2.1 dL_viewNear_3 rfl (lv_at hl 1 rfl) ?_
  refine lv_iload_n hC.1 hC.2.1 dL_viewNear_4 rfl (lv_at hl 2 rfl) ?_
  refine lv_iload_n hC.1 hC.2.1 dL_viewNear_5 rfl (lv_at hl 3 rfl) ?_
  refine x_callVX hC hw (lv_size hl) ((c_X3_viewNear l G hst hR hcb hN (p0 := p0) (by first | assumption | omega) (p1 := p1) (by first | assumption | omega) (p2 := p2) (by first | assumption | omega)).frame hd) gL_viewNear_X3_viewNear rfl dv_X3_viewNear (xU_l hR.1) rfl rfl (Nat.le_of_ble_eq_true rfl) (by rw [hRf]; decide) (by rw [hRl]; decide) (by first | (rw [hRc]; decide) | omega) (by first | (rw [hRs]; decide) | omega) dL_viewNear_6 (fun E ce q9 M1 H locs hqx hw hcell hcv hcls => ?_) (fun r9 M1 H locs hq hw => ?_)
  · obtain ⟨A1, ⟨hE, hG1⟩, hM1, hd1⟩ := hqx
    subst hM1
    rcases hE with ⟨rfl, hb9⟩ | ⟨rfl, hb9⟩
    · skip
      refine vx_catch (own := "RangeledgerLaw") (name := "java/lang/IndexOutOfBoundsException") hC.2.2.2.1 [] (⟨0, 13, 16, 19⟩ : ExceptionTableEntry) [(⟨0, 13, 20, 21⟩ : ExceptionTableEntry)] (by rw [htab]; rfl) (fun z hz => nomatch hz) (by decide) (by decide) (hC.2.2.2.2.1 _ (List.mem_cons_of_mem _ (List.mem_append_left _ (List.mem_append_left _ (List.mem_append_left _ (List.mem_append_left _ (List.mem_append_left _ (List.mem_append_left _ (List.mem_append_left _ (List.mem_of_getElem? (i := 0) rfl)))))))))) (va_Nw.use rfl (hC.2.2.2.2.2.2.2.2.1.2.2.2.1.1 ("java/lang/IndexOutOfBoundsException", "java/lang/IndexOutOfBoundsException") (by decide))) hcell hcv hcls ?_
      show W p l e R s m args below meth c H locs _ _ _ (F0 m 16 ls [.ref q9])
      refine lv_astore (lv' := [(5, .ref q9), (0, .ref h0), (1, .int (iN (p0))), (2, .int (iN (p1))), (3, .int (iN (p2))), (4, .ref o)]) hC.1 hC.2.1 dL_viewNear_16 hl (by decide) rfl (fun ls hl => ?_)
      refine x_const hC dL_viewNear_18 ?_
      exact vx_ret (x_iret hC hw dL_viewNear_19 (by first | decide | omega) (by first | decide | omega) ⟨1, rfl, _, _, _, rfl, hd1, Or.inr ⟨by omega, by omega, hG1⟩⟩)
    · skip
      refine vx_catch (own := "RangeledgerLaw") (name := "java/lang/IllegalArgumentException") hC.2.2.2.1 [(⟨0, 13, 16, 19⟩ : ExceptionTableEntry)] (⟨0, 13, 20, 21⟩ : ExceptionTableEntry) [] (by rw [htab]; rfl) (fun z hz => by simp only [List.mem_cons, List.not_mem_nil, or_false] at hz; subst hz; (· exact Or.inr ⟨by decide, "java/lang/IndexOutOfBoundsException", hC.2.2.2.2.1 _ (List.mem_cons_of_mem _ (List.mem_append_left _ (List.mem_append_left _ (List.mem_append_left _ (List.mem_append_left _ (List.mem_append_left _ (List.mem_append_left _ (List.mem_append_left _ (List.mem_of_getElem? (i := 0) rfl))))))))), hC.2.2.2.2.2.2.2.2.1.2.2.2.2.1 ("java/lang/IllegalArgumentException", "java/lang/IndexOutOfBoundsException") (by decide)⟩)) (by decide) (by decide) (hC.2.2.2.2.1 _ (List.mem_cons_of_mem _ (List.mem_append_left _ (List.mem_append_left _ (List.mem_append_left _ (List.mem_append_left _ (List.mem_append_left _ (List.mem_append_left _ (List.mem_append_left _ (List.mem_of_getElem? (i := 1) rfl)))))))))) (va_Nw.use rfl (hC.2.2.2.2.2.2.2.2.1.2.2.2.1.1 ("java/lang/IllegalArgumentException", "java/lang/IllegalArgumentException") (by decide))) hcell hcv hcls ?_
      show W p l e R s m args below meth c H locs _ _ _ (F0 m 20 ls [.ref q9])
      refine lv_astore (lv' := [(5, .ref q9), (0, .ref h0), (1, .int (iN (p0))), (2, .int (iN (p1))), (3, .int (iN (p2))), (4, .ref o)]) hC.1 hC.2.1 dL_viewNear_20 hl (by decide) rfl (fun ls hl => ?_)
      refine x_const hC dL_viewNear_22 ?_
      exact vx_ret (x_iret hC hw dL_viewNear_23 (by first | decide | omega) (by first | decide | omega) ⟨2, rfl, _, _, _, rfl, hd1, Or.inr ⟨by omega, by omega, hG1⟩⟩)
  · obtain ⟨A1, ⟨z8, hr9, hz8, ho8, hA8, hG1⟩, hM1, hd1⟩ := hq
    subst hr9
    subst hM1
    show W p l e R s m args below meth c H locs _ _ _ (F0 m 9 ls [.int (iN (z8)), .ref o])
    refine lv_i2l hC.1 hC.2.1 dL_viewNear_9 rfl ?_
    refine lv_topl (fun d_1 hd_1 => ?_)
    refine x_putOn (fs2 := [.long (d_1), sv]) hC hw hinX4 (xU_b hd1 xO_s) (by simp) rfl dL_viewNear_10 (fun H locs hw => ?_)
    rw [xU_up hd1] at hw
    refine lv_goto (tgt := 24) hC.1 hC.2.1 dL_viewNear_13 (by decide) ?_
    refine x_const hC dL_viewNear_24 ?_
    exact vx_ret (x_iret hC hw dL_viewNear_25 (by first | decide | omega) (by first | decide | omega) ⟨0, rfl, _, _, _, rfl, xO_dis hd1, Or.inl ⟨by omega, ho8, ⟨z8, hd_1, by omega, hA8⟩, hG1⟩⟩)
set_option maxHeartbeats 4000000 in
set_option maxRecDepth 100000 in
theorem c_L_viewRow (l : Launch) (G : xG) (hst : l.stackTraces = false) {A : HM} {h0 o : Nat} {N : Int} {O : OW} {V : BW} {Wv : VW} {K : WA} {kp kv rfd : Int32} {d : Int64} {sv : Value} (hG : RG G A h0 N (O, V, Wv, K, kp, kv, rfd)) (hN : N ≤ 590) (hd : xDis A (xO o d sv)) {p0 : Int} (hp0 : -2147483648 ≤ p0 ∧ p0 ≤ 2147483647) : xMet l G yL_viewRow wsL_viewRow 8 183 15 11706 [.ref h0, .int (iN (p0)), .ref o] (xU A (xO o d sv)) (fun r M1 => ∃ k9 : Int, r = some (.int (iN k9)) ∧ ∃ (A1 : HM) (d1 : Int64) (sv1 : Value), M1 = xU A1 (xO o d1 sv1) ∧ xDis A1 (xO o d1 sv1) ∧ ((k9 = 0 ∧ ((0 ≤ p0 ∧ p0 ≤ 3 ∧ opN (Wv p0.toNat) = 1)) ∧ True ∧ RG G A1 h0 (N + 1) (O, V, Wv, K, kp, kv, rfd)) ∨ (k9 ≠ 0 ∧ ((k9 = 1 ∧ ¬ (0 ≤ p0 ∧ p0 ≤ 3 ∧ opN (Wv p0.toNat) = 1))) ∧ RG G A1 h0 (N + 1) (O, V, Wv, K, kp, kv, rfd)))) := by
  obtain ⟨bs, vs, og, qb, qk, qv, fb, fv, T, C, K0, hR, hK, hcb⟩ := hG
  replace hK : K = abK T C K0 := hK
  subst hK
  replace hR : RGx G A h0 bs vs og kp kv rfd qb qk qv fb fv O O Wv V T C K0 := hR
  refine x_introW (cc := cL_viewRow) (maxL := 4) (ret := (some .int)) (hh := [(0, 9, 12, 19)]) (by exact pln_RL) rfl (Nat.le_of_ble_eq_true rfl) ?_
  intro p e R s m args below meth c ls hRf hRc hRs hRl htab hC hw hl
  have hinX4 : ∀ w ∈ wsX40, w ∈ wsL_viewRow := fun w h => (List.mem_cons_of_mem _ (List.mem_append_left _ (List.mem_append_left _ (List.mem_append_left _ (List.mem_append_left _ (List.mem_append_left _ (List.mem_append_left _ (List.mem_append_right _ h))))))))
  have hl : lv_has ls 4 [(0, .ref h0), (1, .int (iN (p0))), (2, .ref o)] := hl
  refine lv_aload_n hC.1 hC.2.1 dL_viewRow_0 rfl (lv_at hl 2 rfl) ?_
  refine lv_aload_n hC.1 hC.2.1 dL_viewRow_1 rfl (lv_at hl 0 rfl) ?_
  refine lv_iload_n hC.1 hC.2.1 dL_viewRow_2 rfl (lv_at hl 1 rfl) ?_
  refine x_callVX hC hw (lv_size hl) ((c_X3_viewRow l G hst hR hcb hN (p0 := p0) (by first | assumption | omega)).frame hd) gL_viewRow_X3_viewRow rfl dv_X3_viewRow (xU_l hR.1) rfl rfl (Nat.le_of_ble_eq_true rfl) (by rw [hRf]; decide) (by rw [hRl]; decide) (by first | (rw [hRc]; decide) | omega) (by first | (rw [hRs]; decide) | omega) dL_viewRow_3 (fun E ce q9 M1 H locs hqx hw hcell hcv hcls => ?_) (fun r9 M1 H locs hq hw => ?_)
  · obtain ⟨A1, ⟨hE, hG1⟩, hM1, hd1⟩ := hqx
    subst hM1
    obtain ⟨rfl, hb9⟩ := hE
    refine vx_catch (own := "RangeledgerLaw") (name := "java/lang/IndexOutOfBoundsException") hC.2.2.2.1 [] (⟨0, 9, 12, 19⟩ : ExceptionTableEntry) [] (by rw [htab]; rfl) (fun z hz => nomatch hz) (by decide) (by decide) (hC.2.2.2.2.1 _ (List.mem_cons_of_mem _ (List.mem_append_left _ (List.mem_append_left _ (List.mem_append_left _ (List.mem_append_left _ (List.mem_append_left _ (List.mem_append_left _ (List.mem_append_left _ (List.mem_append_left _ (List.mem_of_getElem? (i := 0) rfl))))))))))) (va_Nw.use rfl (hC.2.2.2.2.2.2.2.2.1.2.2.2.1.1 ("java/lang/IndexOutOfBoundsException", "java/lang/IndexOutOfBoundsException") (by decide))) hcell hcv hcls ?_
    show W p l e R s m args below meth c H locs _ _ _ (F0 m 12 ls [.ref q9])
    refine lv_astore_n (lv' := [(3, .ref q9), (0, .ref h0), (1, .int (iN (p0))), (2, .ref o)]) hC.1 hC.2.1 dL_viewRow_12 rfl hl (by decide) rfl (fun ls hl => ?_)
    refine x_const hC dL_viewRow_13 ?_
    exact vx_ret (x_iret hC hw dL_viewRow_14 (by first | decide | omega) (by first | decide | omega) ⟨1, rfl, _, _, _, rfl, hd1, Or.inr ⟨by omega, by omega, hG1⟩⟩)
  · obtain ⟨A1, ⟨q8, hr9, ho8, hG1⟩, hM1, hd1⟩ := hq
    subst hr9
    subst hM1
    show W p l e R s m args below meth c H locs _ _ _ (F0 m 6 ls [.ref q8, .ref o])
    refine x_putOs (fs2 := [.long d, .ref q8]) hC hw hinX4 (xU_b hd1 xO_s) (by simp) rfl dL_viewRow_6 (fun H locs hw => ?_)
    rw [xU_up hd1] at hw
    refine lv_goto (tgt := 15) hC.1 hC.2.1 dL_viewRow_9 (by decide) ?_
    refine x_const hC dL_viewRow_15 ?_
    exact vx_ret (x_iret hC hw dL_viewRow_16 (by first | decide | omega) (by first | decide | omega) ⟨0, rfl, _, _, _, rfl, xO_dis hd1, Or.inl ⟨by omega, ho8, trivial, hG1⟩⟩)
set_option maxHeartbeats 4000000 in
set_option maxRecDepth 100000 in
theorem c_L_ledger (l : Launch) (G : xG) (hst : l.stackTraces = false) {A : HM} {h0 o : Nat} {N : Int} {O : OW} {V : BW} {Wv : VW} {K : WA} {kp kv rfd : Int32} {d : Int64} {sv : Value} (hG : RG G A h0 N (O, V, Wv, K, kp, kv, rfd)) (hN : N ≤ 590) (hd : xDis A (xO o d sv)) {p0 : Int} (hp0 : -2147483648 ≤ p0 ∧ p0 ≤ 2147483647) : xMet l G yL_ledger wsL_ledger 8 132 1 6 [.ref h0, .int (iN (p0)), .ref o] (xU A (xO o d sv)) (fun r M1 => ∃ k9 : Int, r = some (.int (iN k9)) ∧ ∃ (A1 : HM) (d1 : Int64) (sv1 : Value), M1 = xU A1 (xO o d1 sv1) ∧ xDis A1 (xO o d1 sv1) ∧ ((k9 = 0 ∧ ((0 ≤ p0 ∧ p0 ≤ 6)) ∧ (∃ z : Int, d1 = (iN z).toInt64 ∧ (-2147483648 ≤ z ∧ z ≤ 2147483647) ∧ z = A_ledger (O, V, Wv, K, kp, kv, rfd) p0) ∧ RG G A1 h0 (N + 1) (O, V, Wv, K, kp, kv, rfd)) ∨ (k9 ≠ 0 ∧ ((k9 = 1 ∧ ¬ (0 ≤ p0 ∧ p0 ≤ 6))) ∧ RG G A1 h0 (N + 1) (O, V, Wv, K, kp, kv, rfd)))) := by
  obtain ⟨bs, vs, og, qb, qk, qv, fb, fv, T, C, K0, hR, hK, hcb⟩ := hG
  replace hK : K = abK T C K0 := hK
  subst hK
  replace hR : RGx G A h0 bs vs og kp kv rfd qb qk qv fb fv O O Wv V T C K0 := hR
  refine x_introW (cc := cL_ledger) (maxL := 4) (ret := (some .int)) (hh := [(0, 10, 13, 21)]) (by exact pln_RL) rfl (Nat.le_of_ble_eq_true rfl) ?_
  intro p e R s m args below meth c ls hRf hRc hRs hRl htab hC hw hl
  have hinX4 : ∀ w ∈ wsX40, w ∈ wsL_ledger := fun w h => (List.mem_cons_of_mem _ (List.mem_append_left _ (List.mem_append_left _ (List.mem_append_left _ (List.mem_append_left _ (List.mem_append_left _ (List.mem_append_right _ h)))))))
  have hl : lv_has ls 4 [(0, .ref h0), (1, .int (iN (p0))), (2, .ref o)] := hl
  refine lv_aload_n hC.1 hC.2.1 dL_ledger_0 rfl (lv_at hl 2 rfl) ?_
  refine lv_aload_n hC.1 hC.2.1 dL_ledger_1 rfl (lv_at hl 0 rfl) ?_
  refine lv_iload_n hC.1 hC.2.1 dL_ledger_2 rfl (lv_at hl 1 rfl) ?_
  refine x_callVX hC hw (lv_size hl) ((c_X3_ledger l G hst hR hcb hN (p0 := p0) (by first | assumption | omega)).frame hd) gL_ledger_X3_ledger rfl dv_X3_ledger (xU_l hR.1) rfl rfl (Nat.le_of_ble_eq_true rfl) (by rw [hRf]; decide) (by rw [hRl]; decide) (by first | (rw [hRc]; decide) | omega) (by first | (rw [hRs]; decide) | omega) dL_ledger_3 (fun E ce q9 M1 H locs hqx hw hcell hcv hcls => ?_) (fun r9 M1 H locs hq hw => ?_)
  · obtain ⟨A1, ⟨hE, hG1⟩, hM1, hd1⟩ := hqx
    subst hM1
    obtain ⟨rfl, hb9⟩ := hE
    refine vx_catch (own := "RangeledgerLaw") (name := "java/lang/IllegalArgumentException") hC.2.2.2.1 [] (⟨0, 10, 13, 21⟩ : ExceptionTableEntry) [] (by rw [htab]; rfl) (fun z hz => nomatch hz) (by decide) (by decide) (hC.2.2.2.2.1 _ (List.mem_cons_of_mem _ (List.mem_append_left _ (List.mem_append_left _ (List.mem_append_left _ (List.mem_append_left _ (List.mem_append_left _ (List.mem_append_left _ (List.mem_append_left _ (List.mem_of_getElem? (i := 0) rfl)))))))))) (va_Nw.use rfl (hC.2.2.2.2.2.2.2.2.1.2.2.2.1.1 ("java/lang/IllegalArgumentException", "java/lang/IllegalArgumentException") (by decide))) hcell hcv hcls ?_
    show W p l e R s m args below meth c H locs _ _ _ (F0 m 13 ls [.ref q9])
    refine lv_astore_n (lv' := [(3, .ref q9), (0, .ref h0), (1, .int (iN (p0))), (2, .ref o)]) hC.1 hC.2.1 dL_ledger_13 rfl hl (by decide) rfl (fun ls hl => ?_)
    refine x_const hC dL_ledger_14 ?_
    exact vx_ret (x_iret hC hw dL_ledger_15 (by first | decide | omega) (by first | decide | omega) ⟨1, rfl, _, _, _, rfl, hd1, Or.inr ⟨by omega, by omega, hG1⟩⟩)
  · obtain ⟨A1, ⟨z8, hr9, hz8, ho8, hA8, hG1⟩, hM1, hd1⟩ := hq
    subst hr9
    subst hM1
    show W p l e R s m args below meth c H locs _ _ _ (F0 m 6 ls [.int (iN (z8)), .ref o])
    refine lv_i2l hC.1 hC.2.1 dL_ledger_6 rfl ?_
    refine lv_topl (fun d_1 hd_1 => ?_)
    refine x_putOn (fs2 := [.long (d_1), sv]) hC hw hinX4 (xU_b hd1 xO_s) (by simp) rfl dL_ledger_7 (fun H locs hw => ?_)
    rw [xU_up hd1] at hw
    refine lv_goto (tgt := 16) hC.1 hC.2.1 dL_ledger_10 (by decide) ?_
    refine x_const hC dL_ledger_16 ?_
    exact vx_ret (x_iret hC hw dL_ledger_17 (by first | decide | omega) (by first | decide | omega) ⟨0, rfl, _, _, _, rfl, xO_dis hd1, Or.inl ⟨by omega, ho8, ⟨z8, hd_1, by omega, hA8⟩, hG1⟩⟩)
