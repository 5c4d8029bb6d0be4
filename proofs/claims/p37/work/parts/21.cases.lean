/-! the law's cases -/
theorem dv_L_put_s : yL_put.cls ≠ "java/lang/invoke/MethodHandle" ∧ yL_put.cls ≠ "java/lang/invoke/VarHandle" ∧ (parseMethodDescriptor yL_put.desc).map (fun d => d.parameters.length) = some 5 := by decide +kernel
theorem dv_X5_put : yX5_put.cls = RX5 ∧ yX5_put.cls ≠ "java/lang/invoke/MethodHandle" ∧ yX5_put.cls ≠ "java/lang/invoke/VarHandle" ∧ (parseMethodDescriptor yX5_put.desc).map (fun d => d.parameters.length) = some 3 := by decide +kernel
theorem dv_L_putAbsent_s : yL_putAbsent.cls ≠ "java/lang/invoke/MethodHandle" ∧ yL_putAbsent.cls ≠ "java/lang/invoke/VarHandle" ∧ (parseMethodDescriptor yL_putAbsent.desc).map (fun d => d.parameters.length) = some 5 := by decide +kernel
theorem dv_X5_putAbsent : yX5_putAbsent.cls = RX5 ∧ yX5_putAbsent.cls ≠ "java/lang/invoke/MethodHandle" ∧ yX5_putAbsent.cls ≠ "java/lang/invoke/VarHandle" ∧ (parseMethodDescriptor yX5_putAbsent.desc).map (fun d => d.parameters.length) = some 3 := by decide +kernel
theorem dv_L_replace_s : yL_replace.cls ≠ "java/lang/invoke/MethodHandle" ∧ yL_replace.cls ≠ "java/lang/invoke/VarHandle" ∧ (parseMethodDescriptor yL_replace.desc).map (fun d => d.parameters.length) = some 5 := by decide +kernel
theorem dv_X5_replace : yX5_replace.cls = RX5 ∧ yX5_replace.cls ≠ "java/lang/invoke/MethodHandle" ∧ yX5_replace.cls ≠ "java/lang/invoke/VarHandle" ∧ (parseMethodDescriptor yX5_replace.desc).map (fun d => d.parameters.length) = some 3 := by decide +kernel
theorem dv_L_swap_s : yL_swap.cls ≠ "java/lang/invoke/MethodHandle" ∧ yL_swap.cls ≠ "java/lang/invoke/VarHandle" ∧ (parseMethodDescriptor yL_swap.desc).map (fun d => d.parameters.length) = some 6 := by decide +kernel
theorem dv_X5_swap : yX5_swap.cls = RX5 ∧ yX5_swap.cls ≠ "java/lang/invoke/MethodHandle" ∧ yX5_swap.cls ≠ "java/lang/invoke/VarHandle" ∧ (parseMethodDescriptor yX5_swap.desc).map (fun d => d.parameters.length) = some 4 := by decide +kernel
theorem dv_L_strike_s : yL_strike.cls ≠ "java/lang/invoke/MethodHandle" ∧ yL_strike.cls ≠ "java/lang/invoke/VarHandle" ∧ (parseMethodDescriptor yL_strike.desc).map (fun d => d.parameters.length) = some 4 := by decide +kernel
theorem dv_X5_strike : yX5_strike.cls = RX5 ∧ yX5_strike.cls ≠ "java/lang/invoke/MethodHandle" ∧ yX5_strike.cls ≠ "java/lang/invoke/VarHandle" ∧ (parseMethodDescriptor yX5_strike.desc).map (fun d => d.parameters.length) = some 2 := by decide +kernel
theorem dv_L_strikePair_s : yL_strikePair.cls ≠ "java/lang/invoke/MethodHandle" ∧ yL_strikePair.cls ≠ "java/lang/invoke/VarHandle" ∧ (parseMethodDescriptor yL_strikePair.desc).map (fun d => d.parameters.length) = some 5 := by decide +kernel
theorem dv_X5_strikePair : yX5_strikePair.cls = RX5 ∧ yX5_strikePair.cls ≠ "java/lang/invoke/MethodHandle" ∧ yX5_strikePair.cls ≠ "java/lang/invoke/VarHandle" ∧ (parseMethodDescriptor yX5_strikePair.desc).map (fun d => d.parameters.length) = some 3 := by decide +kernel
theorem dv_L_merge_s : yL_merge.cls ≠ "java/lang/invoke/MethodHandle" ∧ yL_merge.cls ≠ "java/lang/invoke/VarHandle" ∧ (parseMethodDescriptor yL_merge.desc).map (fun d => d.parameters.length) = some 5 := by decide +kernel
theorem dv_X5_merge : yX5_merge.cls = RX5 ∧ yX5_merge.cls ≠ "java/lang/invoke/MethodHandle" ∧ yX5_merge.cls ≠ "java/lang/invoke/VarHandle" ∧ (parseMethodDescriptor yX5_merge.desc).map (fun d => d.parameters.length) = some 3 := by decide +kernel
theorem dv_L_grow_s : yL_grow.cls ≠ "java/lang/invoke/MethodHandle" ∧ yL_grow.cls ≠ "java/lang/invoke/VarHandle" ∧ (parseMethodDescriptor yL_grow.desc).map (fun d => d.parameters.length) = some 4 := by decide +kernel
theorem dv_X5_grow : yX5_grow.cls = RX5 ∧ yX5_grow.cls ≠ "java/lang/invoke/MethodHandle" ∧ yX5_grow.cls ≠ "java/lang/invoke/VarHandle" ∧ (parseMethodDescriptor yX5_grow.desc).map (fun d => d.parameters.length) = some 2 := by decide +kernel
theorem dv_L_halve_s : yL_halve.cls ≠ "java/lang/invoke/MethodHandle" ∧ yL_halve.cls ≠ "java/lang/invoke/VarHandle" ∧ (parseMethodDescriptor yL_halve.desc).map (fun d => d.parameters.length) = some 4 := by decide +kernel
theorem dv_X5_halve : yX5_halve.cls = RX5 ∧ yX5_halve.cls ≠ "java/lang/invoke/MethodHandle" ∧ yX5_halve.cls ≠ "java/lang/invoke/VarHandle" ∧ (parseMethodDescriptor yX5_halve.desc).map (fun d => d.parameters.length) = some 2 := by decide +kernel
theorem dv_L_twice_s : yL_twice.cls ≠ "java/lang/invoke/MethodHandle" ∧ yL_twice.cls ≠ "java/lang/invoke/VarHandle" ∧ (parseMethodDescriptor yL_twice.desc).map (fun d => d.parameters.length) = some 4 := by decide +kernel
theorem dv_X5_twice : yX5_twice.cls = RX5 ∧ yX5_twice.cls ≠ "java/lang/invoke/MethodHandle" ∧ yX5_twice.cls ≠ "java/lang/invoke/VarHandle" ∧ (parseMethodDescriptor yX5_twice.desc).map (fun d => d.parameters.length) = some 2 := by decide +kernel
theorem dv_L_poll_s : yL_poll.cls ≠ "java/lang/invoke/MethodHandle" ∧ yL_poll.cls ≠ "java/lang/invoke/VarHandle" ∧ (parseMethodDescriptor yL_poll.desc).map (fun d => d.parameters.length) = some 4 := by decide +kernel
theorem dv_X5_poll : yX5_poll.cls = RX5 ∧ yX5_poll.cls ≠ "java/lang/invoke/MethodHandle" ∧ yX5_poll.cls ≠ "java/lang/invoke/VarHandle" ∧ (parseMethodDescriptor yX5_poll.desc).map (fun d => d.parameters.length) = some 2 := by decide +kernel
theorem dv_L_raise_s : yL_raise.cls ≠ "java/lang/invoke/MethodHandle" ∧ yL_raise.cls ≠ "java/lang/invoke/VarHandle" ∧ (parseMethodDescriptor yL_raise.desc).map (fun d => d.parameters.length) = some 4 := by decide +kernel
theorem dv_X5_raise : yX5_raise.cls = RX5 ∧ yX5_raise.cls ≠ "java/lang/invoke/MethodHandle" ∧ yX5_raise.cls ≠ "java/lang/invoke/VarHandle" ∧ (parseMethodDescriptor yX5_raise.desc).map (fun d => d.parameters.length) = some 2 := by decide +kernel
theorem dv_L_sift_s : yL_sift.cls ≠ "java/lang/invoke/MethodHandle" ∧ yL_sift.cls ≠ "java/lang/invoke/VarHandle" ∧ (parseMethodDescriptor yL_sift.desc).map (fun d => d.parameters.length) = some 4 := by decide +kernel
theorem dv_X5_sift : yX5_sift.cls = RX5 ∧ yX5_sift.cls ≠ "java/lang/invoke/MethodHandle" ∧ yX5_sift.cls ≠ "java/lang/invoke/VarHandle" ∧ (parseMethodDescriptor yX5_sift.desc).map (fun d => d.parameters.length) = some 2 := by decide +kernel
theorem dv_L_strikeValue_s : yL_strikeValue.cls ≠ "java/lang/invoke/MethodHandle" ∧ yL_strikeValue.cls ≠ "java/lang/invoke/VarHandle" ∧ (parseMethodDescriptor yL_strikeValue.desc).map (fun d => d.parameters.length) = some 4 := by decide +kernel
theorem dv_X5_strikeValue : yX5_strikeValue.cls = RX5 ∧ yX5_strikeValue.cls ≠ "java/lang/invoke/MethodHandle" ∧ yX5_strikeValue.cls ≠ "java/lang/invoke/VarHandle" ∧ (parseMethodDescriptor yX5_strikeValue.desc).map (fun d => d.parameters.length) = some 2 := by decide +kernel
theorem dv_L_clear_s : yL_clear.cls ≠ "java/lang/invoke/MethodHandle" ∧ yL_clear.cls ≠ "java/lang/invoke/VarHandle" ∧ (parseMethodDescriptor yL_clear.desc).map (fun d => d.parameters.length) = some 3 := by decide +kernel
theorem dv_X5_clear : yX5_clear.cls = RX5 ∧ yX5_clear.cls ≠ "java/lang/invoke/MethodHandle" ∧ yX5_clear.cls ≠ "java/lang/invoke/VarHandle" ∧ (parseMethodDescriptor yX5_clear.desc).map (fun d => d.parameters.length) = some 1 := by decide +kernel
theorem dv_L_pour_s : yL_pour.cls ≠ "java/lang/invoke/MethodHandle" ∧ yL_pour.cls ≠ "java/lang/invoke/VarHandle" ∧ (parseMethodDescriptor yL_pour.desc).map (fun d => d.parameters.length) = some 4 := by decide +kernel
theorem dv_X5_pour : yX5_pour.cls = RX5 ∧ yX5_pour.cls ≠ "java/lang/invoke/MethodHandle" ∧ yX5_pour.cls ≠ "java/lang/invoke/VarHandle" ∧ (parseMethodDescriptor yX5_pour.desc).map (fun d => d.parameters.length) = some 2 := by decide +kernel
theorem dv_L_copy_s : yL_copy.cls ≠ "java/lang/invoke/MethodHandle" ∧ yL_copy.cls ≠ "java/lang/invoke/VarHandle" ∧ (parseMethodDescriptor yL_copy.desc).map (fun d => d.parameters.length) = some 4 := by decide +kernel
theorem dv_X5_copy : yX5_copy.cls = RX5 ∧ yX5_copy.cls ≠ "java/lang/invoke/MethodHandle" ∧ yX5_copy.cls ≠ "java/lang/invoke/VarHandle" ∧ (parseMethodDescriptor yX5_copy.desc).map (fun d => d.parameters.length) = some 2 := by decide +kernel
theorem dv_L_thin_s : yL_thin.cls ≠ "java/lang/invoke/MethodHandle" ∧ yL_thin.cls ≠ "java/lang/invoke/VarHandle" ∧ (parseMethodDescriptor yL_thin.desc).map (fun d => d.parameters.length) = some 5 := by decide +kernel
theorem dv_X5_thin : yX5_thin.cls = RX5 ∧ yX5_thin.cls ≠ "java/lang/invoke/MethodHandle" ∧ yX5_thin.cls ≠ "java/lang/invoke/VarHandle" ∧ (parseMethodDescriptor yX5_thin.desc).map (fun d => d.parameters.length) = some 3 := by decide +kernel
theorem dv_L_head_s : yL_head.cls ≠ "java/lang/invoke/MethodHandle" ∧ yL_head.cls ≠ "java/lang/invoke/VarHandle" ∧ (parseMethodDescriptor yL_head.desc).map (fun d => d.parameters.length) = some 5 := by decide +kernel
theorem dv_X5_head : yX5_head.cls = RX5 ∧ yX5_head.cls ≠ "java/lang/invoke/MethodHandle" ∧ yX5_head.cls ≠ "java/lang/invoke/VarHandle" ∧ (parseMethodDescriptor yX5_head.desc).map (fun d => d.parameters.length) = some 3 := by decide +kernel
theorem dv_L_tail_s : yL_tail.cls ≠ "java/lang/invoke/MethodHandle" ∧ yL_tail.cls ≠ "java/lang/invoke/VarHandle" ∧ (parseMethodDescriptor yL_tail.desc).map (fun d => d.parameters.length) = some 5 := by decide +kernel
theorem dv_X5_tail : yX5_tail.cls = RX5 ∧ yX5_tail.cls ≠ "java/lang/invoke/MethodHandle" ∧ yX5_tail.cls ≠ "java/lang/invoke/VarHandle" ∧ (parseMethodDescriptor yX5_tail.desc).map (fun d => d.parameters.length) = some 3 := by decide +kernel
theorem dv_L_sub_s : yL_sub.cls ≠ "java/lang/invoke/MethodHandle" ∧ yL_sub.cls ≠ "java/lang/invoke/VarHandle" ∧ (parseMethodDescriptor yL_sub.desc).map (fun d => d.parameters.length) = some 7 := by decide +kernel
theorem dv_X5_sub : yX5_sub.cls = RX5 ∧ yX5_sub.cls ≠ "java/lang/invoke/MethodHandle" ∧ yX5_sub.cls ≠ "java/lang/invoke/VarHandle" ∧ (parseMethodDescriptor yX5_sub.desc).map (fun d => d.parameters.length) = some 5 := by decide +kernel
theorem dv_L_part_s : yL_part.cls ≠ "java/lang/invoke/MethodHandle" ∧ yL_part.cls ≠ "java/lang/invoke/VarHandle" ∧ (parseMethodDescriptor yL_part.desc).map (fun d => d.parameters.length) = some 7 := by decide +kernel
theorem dv_X5_part : yX5_part.cls = RX5 ∧ yX5_part.cls ≠ "java/lang/invoke/MethodHandle" ∧ yX5_part.cls ≠ "java/lang/invoke/VarHandle" ∧ (parseMethodDescriptor yX5_part.desc).map (fun d => d.parameters.length) = some 5 := by decide +kernel
theorem dv_L_shut_s : yL_shut.cls ≠ "java/lang/invoke/MethodHandle" ∧ yL_shut.cls ≠ "java/lang/invoke/VarHandle" ∧ (parseMethodDescriptor yL_shut.desc).map (fun d => d.parameters.length) = some 3 := by decide +kernel
theorem dv_X5_shut : yX5_shut.cls = RX5 ∧ yX5_shut.cls ≠ "java/lang/invoke/MethodHandle" ∧ yX5_shut.cls ≠ "java/lang/invoke/VarHandle" ∧ (parseMethodDescriptor yX5_shut.desc).map (fun d => d.parameters.length) = some 1 := by decide +kernel
theorem dv_L_viewPut_s : yL_viewPut.cls ≠ "java/lang/invoke/MethodHandle" ∧ yL_viewPut.cls ≠ "java/lang/invoke/VarHandle" ∧ (parseMethodDescriptor yL_viewPut.desc).map (fun d => d.parameters.length) = some 5 := by decide +kernel
theorem dv_X5_viewPut : yX5_viewPut.cls = RX5 ∧ yX5_viewPut.cls ≠ "java/lang/invoke/MethodHandle" ∧ yX5_viewPut.cls ≠ "java/lang/invoke/VarHandle" ∧ (parseMethodDescriptor yX5_viewPut.desc).map (fun d => d.parameters.length) = some 3 := by decide +kernel
theorem dv_L_viewStrike_s : yL_viewStrike.cls ≠ "java/lang/invoke/MethodHandle" ∧ yL_viewStrike.cls ≠ "java/lang/invoke/VarHandle" ∧ (parseMethodDescriptor yL_viewStrike.desc).map (fun d => d.parameters.length) = some 4 := by decide +kernel
theorem dv_X5_viewStrike : yX5_viewStrike.cls = RX5 ∧ yX5_viewStrike.cls ≠ "java/lang/invoke/MethodHandle" ∧ yX5_viewStrike.cls ≠ "java/lang/invoke/VarHandle" ∧ (parseMethodDescriptor yX5_viewStrike.desc).map (fun d => d.parameters.length) = some 2 := by decide +kernel
theorem dv_L_viewMerge_s : yL_viewMerge.cls ≠ "java/lang/invoke/MethodHandle" ∧ yL_viewMerge.cls ≠ "java/lang/invoke/VarHandle" ∧ (parseMethodDescriptor yL_viewMerge.desc).map (fun d => d.parameters.length) = some 5 := by decide +kernel
theorem dv_X5_viewMerge : yX5_viewMerge.cls = RX5 ∧ yX5_viewMerge.cls ≠ "java/lang/invoke/MethodHandle" ∧ yX5_viewMerge.cls ≠ "java/lang/invoke/VarHandle" ∧ (parseMethodDescriptor yX5_viewMerge.desc).map (fun d => d.parameters.length) = some 3 := by decide +kernel
theorem dv_L_viewPoll_s : yL_viewPoll.cls ≠ "java/lang/invoke/MethodHandle" ∧ yL_viewPoll.cls ≠ "java/lang/invoke/VarHandle" ∧ (parseMethodDescriptor yL_viewPoll.desc).map (fun d => d.parameters.length) = some 4 := by decide +kernel
theorem dv_X5_viewPoll : yX5_viewPoll.cls = RX5 ∧ yX5_viewPoll.cls ≠ "java/lang/invoke/MethodHandle" ∧ yX5_viewPoll.cls ≠ "java/lang/invoke/VarHandle" ∧ (parseMethodDescriptor yX5_viewPoll.desc).map (fun d => d.parameters.length) = some 2 := by decide +kernel
theorem dv_L_viewClear_s : yL_viewClear.cls ≠ "java/lang/invoke/MethodHandle" ∧ yL_viewClear.cls ≠ "java/lang/invoke/VarHandle" ∧ (parseMethodDescriptor yL_viewClear.desc).map (fun d => d.parameters.length) = some 3 := by decide +kernel
theorem dv_X5_viewClear : yX5_viewClear.cls = RX5 ∧ yX5_viewClear.cls ≠ "java/lang/invoke/MethodHandle" ∧ yX5_viewClear.cls ≠ "java/lang/invoke/VarHandle" ∧ (parseMethodDescriptor yX5_viewClear.desc).map (fun d => d.parameters.length) = some 1 := by decide +kernel
theorem dv_L_walk_s : yL_walk.cls ≠ "java/lang/invoke/MethodHandle" ∧ yL_walk.cls ≠ "java/lang/invoke/VarHandle" ∧ (parseMethodDescriptor yL_walk.desc).map (fun d => d.parameters.length) = some 3 := by decide +kernel
theorem dv_X5_walk : yX5_walk.cls = RX5 ∧ yX5_walk.cls ≠ "java/lang/invoke/MethodHandle" ∧ yX5_walk.cls ≠ "java/lang/invoke/VarHandle" ∧ (parseMethodDescriptor yX5_walk.desc).map (fun d => d.parameters.length) = some 1 := by decide +kernel
theorem dv_L_viewWalk_s : yL_viewWalk.cls ≠ "java/lang/invoke/MethodHandle" ∧ yL_viewWalk.cls ≠ "java/lang/invoke/VarHandle" ∧ (parseMethodDescriptor yL_viewWalk.desc).map (fun d => d.parameters.length) = some 3 := by decide +kernel
theorem dv_X5_viewWalk : yX5_viewWalk.cls = RX5 ∧ yX5_viewWalk.cls ≠ "java/lang/invoke/MethodHandle" ∧ yX5_viewWalk.cls ≠ "java/lang/invoke/VarHandle" ∧ (parseMethodDescriptor yX5_viewWalk.desc).map (fun d => d.parameters.length) = some 1 := by decide +kernel
theorem dv_L_step_s : yL_step.cls ≠ "java/lang/invoke/MethodHandle" ∧ yL_step.cls ≠ "java/lang/invoke/VarHandle" ∧ (parseMethodDescriptor yL_step.desc).map (fun d => d.parameters.length) = some 2 := by decide +kernel
theorem dv_X5_step : yX5_step.cls = RX5 ∧ yX5_step.cls ≠ "java/lang/invoke/MethodHandle" ∧ yX5_step.cls ≠ "java/lang/invoke/VarHandle" ∧ (parseMethodDescriptor yX5_step.desc).map (fun d => d.parameters.length) = some 0 := by decide +kernel
theorem dv_L_write_s : yL_write.cls ≠ "java/lang/invoke/MethodHandle" ∧ yL_write.cls ≠ "java/lang/invoke/VarHandle" ∧ (parseMethodDescriptor yL_write.desc).map (fun d => d.parameters.length) = some 3 := by decide +kernel
theorem dv_X5_write : yX5_write.cls = RX5 ∧ yX5_write.cls ≠ "java/lang/invoke/MethodHandle" ∧ yX5_write.cls ≠ "java/lang/invoke/VarHandle" ∧ (parseMethodDescriptor yX5_write.desc).map (fun d => d.parameters.length) = some 1 := by decide +kernel
theorem dv_L_drop_s : yL_drop.cls ≠ "java/lang/invoke/MethodHandle" ∧ yL_drop.cls ≠ "java/lang/invoke/VarHandle" ∧ (parseMethodDescriptor yL_drop.desc).map (fun d => d.parameters.length) = some 2 := by decide +kernel
theorem dv_X5_drop : yX5_drop.cls = RX5 ∧ yX5_drop.cls ≠ "java/lang/invoke/MethodHandle" ∧ yX5_drop.cls ≠ "java/lang/invoke/VarHandle" ∧ (parseMethodDescriptor yX5_drop.desc).map (fun d => d.parameters.length) = some 0 := by decide +kernel
theorem dv_L_keep_s : yL_keep.cls ≠ "java/lang/invoke/MethodHandle" ∧ yL_keep.cls ≠ "java/lang/invoke/VarHandle" ∧ (parseMethodDescriptor yL_keep.desc).map (fun d => d.parameters.length) = some 4 := by decide +kernel
theorem dv_X5_keep : yX5_keep.cls = RX5 ∧ yX5_keep.cls ≠ "java/lang/invoke/MethodHandle" ∧ yX5_keep.cls ≠ "java/lang/invoke/VarHandle" ∧ (parseMethodDescriptor yX5_keep.desc).map (fun d => d.parameters.length) = some 2 := by decide +kernel
theorem dv_L_brand_s : yL_brand.cls ≠ "java/lang/invoke/MethodHandle" ∧ yL_brand.cls ≠ "java/lang/invoke/VarHandle" ∧ (parseMethodDescriptor yL_brand.desc).map (fun d => d.parameters.length) = some 3 := by decide +kernel
theorem dv_X5_brand : yX5_brand.cls = RX5 ∧ yX5_brand.cls ≠ "java/lang/invoke/MethodHandle" ∧ yX5_brand.cls ≠ "java/lang/invoke/VarHandle" ∧ (parseMethodDescriptor yX5_brand.desc).map (fun d => d.parameters.length) = some 1 := by decide +kernel
theorem dv_X3_knock : yX3_knock.cls = RX3 ∧ yX3_knock.cls ≠ "java/lang/invoke/MethodHandle" ∧ yX3_knock.cls ≠ "java/lang/invoke/VarHandle" ∧ (parseMethodDescriptor yX3_knock.desc).map (fun d => d.parameters.length) = some 0 := by decide +kernel
theorem dv_X5_knock : yX5_knock.cls = RX5 ∧ yX5_knock.cls ≠ "java/lang/invoke/MethodHandle" ∧ yX5_knock.cls ≠ "java/lang/invoke/VarHandle" ∧ (parseMethodDescriptor yX5_knock.desc).map (fun d => d.parameters.length) = some 0 := by decide +kernel
theorem dv_L_get_s : yL_get.cls ≠ "java/lang/invoke/MethodHandle" ∧ yL_get.cls ≠ "java/lang/invoke/VarHandle" ∧ (parseMethodDescriptor yL_get.desc).map (fun d => d.parameters.length) = some 4 := by decide +kernel
theorem dv_X5_get : yX5_get.cls = RX5 ∧ yX5_get.cls ≠ "java/lang/invoke/MethodHandle" ∧ yX5_get.cls ≠ "java/lang/invoke/VarHandle" ∧ (parseMethodDescriptor yX5_get.desc).map (fun d => d.parameters.length) = some 2 := by decide +kernel
theorem dv_L_getOr_s : yL_getOr.cls ≠ "java/lang/invoke/MethodHandle" ∧ yL_getOr.cls ≠ "java/lang/invoke/VarHandle" ∧ (parseMethodDescriptor yL_getOr.desc).map (fun d => d.parameters.length) = some 5 := by decide +kernel
theorem dv_X5_getOr : yX5_getOr.cls = RX5 ∧ yX5_getOr.cls ≠ "java/lang/invoke/MethodHandle" ∧ yX5_getOr.cls ≠ "java/lang/invoke/VarHandle" ∧ (parseMethodDescriptor yX5_getOr.desc).map (fun d => d.parameters.length) = some 3 := by decide +kernel
theorem dv_L_has_s : yL_has.cls ≠ "java/lang/invoke/MethodHandle" ∧ yL_has.cls ≠ "java/lang/invoke/VarHandle" ∧ (parseMethodDescriptor yL_has.desc).map (fun d => d.parameters.length) = some 4 := by decide +kernel
theorem dv_X5_has : yX5_has.cls = RX5 ∧ yX5_has.cls ≠ "java/lang/invoke/MethodHandle" ∧ yX5_has.cls ≠ "java/lang/invoke/VarHandle" ∧ (parseMethodDescriptor yX5_has.desc).map (fun d => d.parameters.length) = some 2 := by decide +kernel
theorem dv_L_hasValue_s : yL_hasValue.cls ≠ "java/lang/invoke/MethodHandle" ∧ yL_hasValue.cls ≠ "java/lang/invoke/VarHandle" ∧ (parseMethodDescriptor yL_hasValue.desc).map (fun d => d.parameters.length) = some 4 := by decide +kernel
theorem dv_X5_hasValue : yX5_hasValue.cls = RX5 ∧ yX5_hasValue.cls ≠ "java/lang/invoke/MethodHandle" ∧ yX5_hasValue.cls ≠ "java/lang/invoke/VarHandle" ∧ (parseMethodDescriptor yX5_hasValue.desc).map (fun d => d.parameters.length) = some 2 := by decide +kernel
theorem dv_L_ofBook_s : yL_ofBook.cls ≠ "java/lang/invoke/MethodHandle" ∧ yL_ofBook.cls ≠ "java/lang/invoke/VarHandle" ∧ (parseMethodDescriptor yL_ofBook.desc).map (fun d => d.parameters.length) = some 4 := by decide +kernel
theorem dv_X5_ofBook : yX5_ofBook.cls = RX5 ∧ yX5_ofBook.cls ≠ "java/lang/invoke/MethodHandle" ∧ yX5_ofBook.cls ≠ "java/lang/invoke/VarHandle" ∧ (parseMethodDescriptor yX5_ofBook.desc).map (fun d => d.parameters.length) = some 2 := by decide +kernel
theorem dv_L_near_s : yL_near.cls ≠ "java/lang/invoke/MethodHandle" ∧ yL_near.cls ≠ "java/lang/invoke/VarHandle" ∧ (parseMethodDescriptor yL_near.desc).map (fun d => d.parameters.length) = some 5 := by decide +kernel
theorem dv_X5_near : yX5_near.cls = RX5 ∧ yX5_near.cls ≠ "java/lang/invoke/MethodHandle" ∧ yX5_near.cls ≠ "java/lang/invoke/VarHandle" ∧ (parseMethodDescriptor yX5_near.desc).map (fun d => d.parameters.length) = some 3 := by decide +kernel
theorem dv_L_place_s : yL_place.cls ≠ "java/lang/invoke/MethodHandle" ∧ yL_place.cls ≠ "java/lang/invoke/VarHandle" ∧ (parseMethodDescriptor yL_place.desc).map (fun d => d.parameters.length) = some 4 := by decide +kernel
theorem dv_X5_place : yX5_place.cls = RX5 ∧ yX5_place.cls ≠ "java/lang/invoke/MethodHandle" ∧ yX5_place.cls ≠ "java/lang/invoke/VarHandle" ∧ (parseMethodDescriptor yX5_place.desc).map (fun d => d.parameters.length) = some 2 := by decide +kernel
theorem dv_L_at_s : yL_at.cls ≠ "java/lang/invoke/MethodHandle" ∧ yL_at.cls ≠ "java/lang/invoke/VarHandle" ∧ (parseMethodDescriptor yL_at.desc).map (fun d => d.parameters.length) = some 4 := by decide +kernel
theorem dv_X5_at : yX5_at.cls = RX5 ∧ yX5_at.cls ≠ "java/lang/invoke/MethodHandle" ∧ yX5_at.cls ≠ "java/lang/invoke/VarHandle" ∧ (parseMethodDescriptor yX5_at.desc).map (fun d => d.parameters.length) = some 2 := by decide +kernel
theorem dv_L_row_s : yL_row.cls ≠ "java/lang/invoke/MethodHandle" ∧ yL_row.cls ≠ "java/lang/invoke/VarHandle" ∧ (parseMethodDescriptor yL_row.desc).map (fun d => d.parameters.length) = some 3 := by decide +kernel
theorem dv_X5_row : yX5_row.cls = RX5 ∧ yX5_row.cls ≠ "java/lang/invoke/MethodHandle" ∧ yX5_row.cls ≠ "java/lang/invoke/VarHandle" ∧ (parseMethodDescriptor yX5_row.desc).map (fun d => d.parameters.length) = some 1 := by decide +kernel
theorem dv_L_same_s : yL_same.cls ≠ "java/lang/invoke/MethodHandle" ∧ yL_same.cls ≠ "java/lang/invoke/VarHandle" ∧ (parseMethodDescriptor yL_same.desc).map (fun d => d.parameters.length) = some 4 := by decide +kernel
theorem dv_X5_same : yX5_same.cls = RX5 ∧ yX5_same.cls ≠ "java/lang/invoke/MethodHandle" ∧ yX5_same.cls ≠ "java/lang/invoke/VarHandle" ∧ (parseMethodDescriptor yX5_same.desc).map (fun d => d.parameters.length) = some 2 := by decide +kernel
theorem dv_L_viewGet_s : yL_viewGet.cls ≠ "java/lang/invoke/MethodHandle" ∧ yL_viewGet.cls ≠ "java/lang/invoke/VarHandle" ∧ (parseMethodDescriptor yL_viewGet.desc).map (fun d => d.parameters.length) = some 4 := by decide +kernel
theorem dv_X5_viewGet : yX5_viewGet.cls = RX5 ∧ yX5_viewGet.cls ≠ "java/lang/invoke/MethodHandle" ∧ yX5_viewGet.cls ≠ "java/lang/invoke/VarHandle" ∧ (parseMethodDescriptor yX5_viewGet.desc).map (fun d => d.parameters.length) = some 2 := by decide +kernel
theorem dv_L_ofView_s : yL_ofView.cls ≠ "java/lang/invoke/MethodHandle" ∧ yL_ofView.cls ≠ "java/lang/invoke/VarHandle" ∧ (parseMethodDescriptor yL_ofView.desc).map (fun d => d.parameters.length) = some 4 := by decide +kernel
theorem dv_X5_ofView : yX5_ofView.cls = RX5 ∧ yX5_ofView.cls ≠ "java/lang/invoke/MethodHandle" ∧ yX5_ofView.cls ≠ "java/lang/invoke/VarHandle" ∧ (parseMethodDescriptor yX5_ofView.desc).map (fun d => d.parameters.length) = some 2 := by decide +kernel
theorem dv_L_viewNear_s : yL_viewNear.cls ≠ "java/lang/invoke/MethodHandle" ∧ yL_viewNear.cls ≠ "java/lang/invoke/VarHandle" ∧ (parseMethodDescriptor yL_viewNear.desc).map (fun d => d.parameters.length) = some 5 := by decide +kernel
theorem dv_X5_viewNear : yX5_viewNear.cls = RX5 ∧ yX5_viewNear.cls ≠ "java/lang/invoke/MethodHandle" ∧ yX5_viewNear.cls ≠ "java/lang/invoke/VarHandle" ∧ (parseMethodDescriptor yX5_viewNear.desc).map (fun d => d.parameters.length) = some 3 := by decide +kernel
theorem dv_L_viewRow_s : yL_viewRow.cls ≠ "java/lang/invoke/MethodHandle" ∧ yL_viewRow.cls ≠ "java/lang/invoke/VarHandle" ∧ (parseMethodDescriptor yL_viewRow.desc).map (fun d => d.parameters.length) = some 3 := by decide +kernel
theorem dv_X5_viewRow : yX5_viewRow.cls = RX5 ∧ yX5_viewRow.cls ≠ "java/lang/invoke/MethodHandle" ∧ yX5_viewRow.cls ≠ "java/lang/invoke/VarHandle" ∧ (parseMethodDescriptor yX5_viewRow.desc).map (fun d => d.parameters.length) = some 1 := by decide +kernel
theorem dv_L_ledger_s : yL_ledger.cls ≠ "java/lang/invoke/MethodHandle" ∧ yL_ledger.cls ≠ "java/lang/invoke/VarHandle" ∧ (parseMethodDescriptor yL_ledger.desc).map (fun d => d.parameters.length) = some 3 := by decide +kernel
theorem dv_X5_ledger : yX5_ledger.cls = RX5 ∧ yX5_ledger.cls ≠ "java/lang/invoke/MethodHandle" ∧ yX5_ledger.cls ≠ "java/lang/invoke/VarHandle" ∧ (parseMethodDescriptor yX5_ledger.desc).map (fun d => d.parameters.length) = some 1 := by decide +kernel
theorem dv_X5_isSound : yX5_isSound.cls = RX5 ∧ yX5_isSound.cls ≠ "java/lang/invoke/MethodHandle" ∧ yX5_isSound.cls ≠ "java/lang/invoke/VarHandle" ∧ (parseMethodDescriptor yX5_isSound.desc).map (fun d => d.parameters.length) = some 0 := by decide +kernel
theorem dv_X3_digest : yX3_digest.cls = RX3 ∧ yX3_digest.cls ≠ "java/lang/invoke/MethodHandle" ∧ yX3_digest.cls ≠ "java/lang/invoke/VarHandle" ∧ (parseMethodDescriptor yX3_digest.desc).map (fun d => d.parameters.length) = some 0 := by decide +kernel
theorem dv_X5_digest : yX5_digest.cls = RX5 ∧ yX5_digest.cls ≠ "java/lang/invoke/MethodHandle" ∧ yX5_digest.cls ≠ "java/lang/invoke/VarHandle" ∧ (parseMethodDescriptor yX5_digest.desc).map (fun d => d.parameters.length) = some 0 := by decide +kernel
set_option maxHeartbeats 8000000 in
set_option maxRecDepth 100000 in
theorem k_0 {p : Program} {l : Launch} {e : Env} {R : Room} {s : State} {m : MethodId} {args : Array Value} {below : List Frame} {meth : Method} {c : Code} {Q : State → Prop} {G : xG} {b L : Nat} {xs : Nat → Int32} {nm : String} (hst : l.stackTraces = false) (hRf : R.frames = 2048) {C9 S9 : Nat} (hRc : R.cells = C9) (hRs : R.slots = S9) (hC9 : 600000 ≤ C9) (hS9 : 7060000 ≤ S9) (hRl : R.locals = 84000) (hC : xB p s m args meth c cL_law 7 "RangeledgerLaw" nm wsL_law (some .boolean) G (xA (fun _ => none) s.heap.size)) (hX : va_X b L xs s s.heap) (hbl : b < s.heap.size) (hL : L ≤ 3072) {h0 a o : Nat} {rf : Int32} {S : Nat → Bool} {M : HM} {H : Heap} {locs : List Loc} {ls : Array Slot} {i : Int} {cu su : Nat} (hw : xD G (xA (fun _ => none) s.heap.size) s M H locs) (hS : LwS G M h0 a o rf S) (hl : lv_has ls 7 [(0, .ref b), (1, .ref h0), (2, .ref a), (3, .ref o), (4, .int (iN (i)))]) (hi : 0 ≤ i ∧ i + 6 ≤ L) (hcu : cu + 1000 ≤ C9) (hsu : su + 15590 ≤ S9) (kk : ∀ (M1 : HM) (H1 : Heap) (locs1 : List Loc) (ls1 : Array Slot) (rf1 : Int32) (S1 : Nat → Bool), xD G (xA (fun _ => none) s.heap.size) s M1 H1 locs1 → LwS G M1 h0 a o rf1 S1 → lv_has ls1 7 [(0, .ref b), (1, .ref h0), (2, .ref a), (3, .ref o), (4, .int (iN (i)))] → mC S1 100 ≤ mC S 100 + 1 → W p l e R s m args below meth c H1 locs1 (cu + 3) (su + (18)) Q (F0 m 2555 ls1 [])) : W p l e R s m args below meth c H locs cu su Q (F0 m 272 ls []) := by
  obtain ⟨A, B, d, sv, hM, hG, hm, hdA, hdB⟩ := hS
  subst hM
  have hbA : ¬ (xA (fun _ => none) s.heap.size) b := fun h9 => h9.elim (fun h8 => h8 rfl) (fun h8 => by omega)
  refine lv_aload_n hC.1 hC.2.1 dL_law_272 rfl (lv_at hl 1 rfl) ?_
  refine lv_aload_n hC.1 hC.2.1 dL_law_273 rfl (lv_at hl 0 rfl) ?_
  refine lv_iload hC.1 hC.2.1 dL_law_274 (lv_at hl 4 rfl) ?_
  refine x_const hC dL_law_276 ?_
  refine x_iadd hC dL_law_277 ?_
  refine x_sld hC hw hX hbl hbA (by omega) (by omega) (by omega) dL_law_278 ?_
  obtain ⟨z_1, hz_1⟩ : ∃ z : Int, z = (xs (i + 1).toNat).toInt := ⟨_, rfl⟩
  rw [← hz_1]
  have hrz_1 : -2147483648 ≤ z_1 ∧ z_1 ≤ 2147483647 := by rw [hz_1]; exact iN_rng _
  refine lv_aload_n hC.1 hC.2.1 dL_law_279 rfl (lv_at hl 0 rfl) ?_
  refine lv_iload hC.1 hC.2.1 dL_law_280 (lv_at hl 4 rfl) ?_
  refine x_const hC dL_law_282 ?_
  refine x_iadd hC dL_law_283 ?_
  refine x_sld hC hw hX hbl hbA (by omega) (by omega) (by omega) dL_law_284 ?_
  obtain ⟨z_2, hz_2⟩ : ∃ z : Int, z = (xs (i + 2).toNat).toInt := ⟨_, rfl⟩
  rw [← hz_2]
  have hrz_2 : -2147483648 ≤ z_2 ∧ z_2 ≤ 2147483647 := by rw [hz_2]; exact iN_rng _
  refine lv_aload_n hC.1 hC.2.1 dL_law_285 rfl (lv_at hl 0 rfl) ?_
  refine lv_iload hC.1 hC.2.1 dL_law_286 (lv_at hl 4 rfl) ?_
  refine x_const hC dL_law_288 ?_
  refine x_iadd hC dL_law_289 ?_
  refine x_sld hC hw hX hbl hbA (by omega) (by omega) (by omega) dL_law_290 ?_
  obtain ⟨z_3, hz_3⟩ : ∃ z : Int, z = (xs (i + 3).toNat).toInt := ⟨_, rfl⟩
  rw [← hz_3]
  have hrz_3 : -2147483648 ≤ z_3 ∧ z_3 ≤ 2147483647 := by rw [hz_3]; exact iN_rng _
  refine lv_aload_n hC.1 hC.2.1 dL_law_291 rfl (lv_at hl 3 rfl) ?_
  refine x_callSW hC hw (lv_size hl) ((c_L_put l G hst hG hdA (p0 := z_1) (by omega) (p1 := z_2) (by omega) (p2 := z_3) (by omega)).frame hdB) gL_law_L_put rfl dv_L_put_s rfl (Nat.le_of_ble_eq_true rfl) (by rw [hRf]; decide) (by rw [hRl]; decide) (by omega) (by omega) dL_law_292 (fun r9 M1 H locs hq hw => ?_)
  obtain ⟨Ck_4, ⟨⟨zk_4, hrk_4⟩, Ak_4, dk_4, svk_4, hG, hCk_4, hdA⟩, hMk_4, hdB⟩ := hq
  subst hrk_4
  subst hCk_4
  subst hMk_4
  show W p l e R s m args below meth c H locs _ _ _ (F0 m 295 ls [.int (iN (zk_4))])
  refine lv_istore (lv' := [(5, .int (iN (zk_4))), (0, .ref b), (1, .ref h0), (2, .ref a), (3, .ref o), (4, .int (iN (i)))]) hC.1 hC.2.1 dL_law_295 hl (by decide) rfl (fun ls hl => ?_)
  refine lv_aload_n hC.1 hC.2.1 dL_law_297 rfl (lv_at hl 3 rfl) ?_
  refine lv_aload_n hC.1 hC.2.1 dL_law_298 rfl (lv_at hl 1 rfl) ?_
  refine lv_iload hC.1 hC.2.1 dL_law_299 (lv_at hl 5 rfl) ?_
  refine x_const hC dL_law_301 ?_
  refine x_iadd hC dL_law_302 ?_
  refine x_sld hC hw hX hbl hbA (by omega) (by omega) (by omega) dL_law_303 ?_
  obtain ⟨z_5, hz_5⟩ : ∃ z : Int, z = (xs (i + 1).toNat).toInt := ⟨_, rfl⟩
  rw [← hz_5]
  have hrz_5 : -2147483648 ≤ z_5 ∧ z_5 ≤ 2147483647 := by rw [hz_5]; exact iN_rng _
  refine lv_aload_n hC.1 hC.2.1 dL_law_304 rfl (lv_at hl 1 rfl) ?_
  refine lv_iload hC.1 hC.2.1 dL_law_305 (lv_at hl 5 rfl) ?_
  refine x_const hC dL_law_307 ?_
  refine x_iadd hC dL_law_308 ?_
  refine x_sld hC hw hX hbl hbA (by omega) (by omega) (by omega) dL_law_309 ?_
  obtain ⟨z_6, hz_6⟩ : ∃ z : Int, z = (xs (i + 2).toNat).toInt := ⟨_, rfl⟩
  rw [← hz_6]
  have hrz_6 : -2147483648 ≤ z_6 ∧ z_6 ≤ 2147483647 := by rw [hz_6]; exact iN_rng _
  refine lv_aload_n hC.1 hC.2.1 dL_law_310 rfl (lv_at hl 1 rfl) ?_
  refine lv_iload hC.1 hC.2.1 dL_law_311 (lv_at hl 5 rfl) ?_
  refine x_const hC dL_law_313 ?_
  refine x_iadd hC dL_law_314 ?_
  refine x_sld hC hw hX hbl hbA (by omega) (by omega) (by omega) dL_law_315 ?_
  obtain ⟨z_7, hz_7⟩ : ∃ z : Int, z = (xs (i + 3).toNat).toInt := ⟨_, rfl⟩
  rw [← hz_7]
  have hrz_7 : -2147483648 ≤ z_7 ∧ z_7 ≤ 2147483647 := by rw [hz_7]; exact iN_rng _
  rw [xU_comm hdB] at hw
  have hm := hm.add (z_6).toNat
  obtain ⟨va, oa, wa, ya, wk, th, br, re, la, ha, kp, kv, qv, qw, fa, fb, fvv, fw, fo, fy, hR⟩ := hm
  refine x_callV hC hw (lv_size hl) ((c_X5_put l G hR (p0 := z_5) (by omega) (p1 := z_6) (by omega) (p2 := z_7) (by omega) (fun _ => by simp [sAdd])).frame hdB.symm) gL_law_X5_put rfl dv_X5_put (xU_l hR.1.1) rfl rfl (Nat.le_of_ble_eq_true rfl) (by rw [hRf]; decide) (by rw [hRl]; decide) (by omega) (by omega) dL_law_316 (fun r9 M1 H locs hq hw => ?_)
  obtain ⟨Bk_8, ⟨zk_8, hrk_8, hzk_8, hm⟩, hMk_8, hdB9⟩ := hq
  subst hrk_8
  subst hMk_8
  have hdB := hdB9.symm
  rw [xU_comm hdB9] at hw
  show W p l e R s m args below meth c H locs _ _ _ (F0 m 319 ls [.int (iN (zk_8))])
  refine lv_istore (lv' := [(6, .int (iN (zk_8))), (5, .int (iN (zk_4))), (0, .ref b), (1, .ref h0), (2, .ref a), (3, .ref o), (4, .int (iN (i)))]) hC.1 hC.2.1 dL_law_319 hl (by decide) rfl (fun ls hl => ?_)
  refine lv_goto (tgt := 2555) hC.1 hC.2.1 dL_law_321 (by decide) ?_
  refine W.widen (k := cu + 3) (n := su + (18)) (by omega) (by omega) ?_
  exact kk _ _ _ _ rf (sAdd S (z_6).toNat) hw ⟨_, _, _, _, rfl, hG, hm, hdA, hdB⟩ (lv_sub hl [2, 3, 4, 5, 6] rfl) (mC_add1 _ _)
set_option maxHeartbeats 8000000 in
set_option maxRecDepth 100000 in
theorem k_1 {p : Program} {l : Launch} {e : Env} {R : Room} {s : State} {m : MethodId} {args : Array Value} {below : List Frame} {meth : Method} {c : Code} {Q : State → Prop} {G : xG} {b L : Nat} {xs : Nat → Int32} {nm : String} (hst : l.stackTraces = false) (hRf : R.frames = 2048) {C9 S9 : Nat} (hRc : R.cells = C9) (hRs : R.slots = S9) (hC9 : 600000 ≤ C9) (hS9 : 7060000 ≤ S9) (hRl : R.locals = 84000) (hC : xB p s m args meth c cL_law 7 "RangeledgerLaw" nm wsL_law (some .boolean) G (xA (fun _ => none) s.heap.size)) (hX : va_X b L xs s s.heap) (hbl : b < s.heap.size) (hL : L ≤ 3072) {h0 a o : Nat} {rf : Int32} {S : Nat → Bool} {M : HM} {H : Heap} {locs : List Loc} {ls : Array Slot} {i : Int} {cu su : Nat} (hw : xD G (xA (fun _ => none) s.heap.size) s M H locs) (hS : LwS G M h0 a o rf S) (hl : lv_has ls 7 [(0, .ref b), (1, .ref h0), (2, .ref a), (3, .ref o), (4, .int (iN (i)))]) (hi : 0 ≤ i ∧ i + 6 ≤ L) (hcu : cu + 1000 ≤ C9) (hsu : su + 15590 ≤ S9) (kk : ∀ (M1 : HM) (H1 : Heap) (locs1 : List Loc) (ls1 : Array Slot) (rf1 : Int32) (S1 : Nat → Bool), xD G (xA (fun _ => none) s.heap.size) s M1 H1 locs1 → LwS G M1 h0 a o rf1 S1 → lv_has ls1 7 [(0, .ref b), (1, .ref h0), (2, .ref a), (3, .ref o), (4, .int (iN (i)))] → mC S1 100 ≤ mC S 100 + 1 → W p l e R s m args below meth c H1 locs1 (cu + 3) (su + (18)) Q (F0 m 2555 ls1 [])) : W p l e R s m args below meth c H locs cu su Q (F0 m 324 ls []) := by
  obtain ⟨A, B, d, sv, hM, hG, hm, hdA, hdB⟩ := hS
  subst hM
  have hbA : ¬ (xA (fun _ => none) s.heap.size) b := fun h9 => h9.elim (fun h8 => h8 rfl) (fun h8 => by omega)
  refine lv_aload_n hC.1 hC.2.1 dL_law_324 rfl (lv_at hl 1 rfl) ?_
  refine lv_aload_n hC.1 hC.2.1 dL_law_325 rfl (lv_at hl 0 rfl) ?_
  refine lv_iload hC.1 hC.2.1 dL_law_326 (lv_at hl 4 rfl) ?_
  refine x_const hC dL_law_328 ?_
  refine x_iadd hC dL_law_329 ?_
  refine x_sld hC hw hX hbl hbA (by omega) (by omega) (by omega) dL_law_330 ?_
  obtain ⟨z_1, hz_1⟩ : ∃ z : Int, z = (xs (i + 1).toNat).toInt := ⟨_, rfl⟩
  rw [← hz_1]
  have hrz_1 : -2147483648 ≤ z_1 ∧ z_1 ≤ 2147483647 := by rw [hz_1]; exact iN_rng _
  refine lv_aload_n hC.1 hC.2.1 dL_law_331 rfl (lv_at hl 0 rfl) ?_
  refine lv_iload hC.1 hC.2.1 dL_law_332 (lv_at hl 4 rfl) ?_
  refine x_const hC dL_law_334 ?_
  refine x_iadd hC dL_law_335 ?_
  refine x_sld hC hw hX hbl hbA (by omega) (by omega) (by omega) dL_law_336 ?_
  obtain ⟨z_2, hz_2⟩ : ∃ z : Int, z = (xs (i + 2).toNat).toInt := ⟨_, rfl⟩
  rw [← hz_2]
  have hrz_2 : -2147483648 ≤ z_2 ∧ z_2 ≤ 2147483647 := by rw [hz_2]; exact iN_rng _
  refine lv_aload_n hC.1 hC.2.1 dL_law_337 rfl (lv_at hl 0 rfl) ?_
  refine lv_iload hC.1 hC.2.1 dL_law_338 (lv_at hl 4 rfl) ?_
  refine x_const hC dL_law_340 ?_
  refine x_iadd hC dL_law_341 ?_
  refine x_sld hC hw hX hbl hbA (by omega) (by omega) (by omega) dL_law_342 ?_
  obtain ⟨z_3, hz_3⟩ : ∃ z : Int, z = (xs (i + 3).toNat).toInt := ⟨_, rfl⟩
  rw [← hz_3]
  have hrz_3 : -2147483648 ≤ z_3 ∧ z_3 ≤ 2147483647 := by rw [hz_3]; exact iN_rng _
  refine lv_aload_n hC.1 hC.2.1 dL_law_343 rfl (lv_at hl 3 rfl) ?_
  refine x_callSW hC hw (lv_size hl) ((c_L_putAbsent l G hst hG hdA (p0 := z_1) (by omega) (p1 := z_2) (by omega) (p2 := z_3) (by omega)).frame hdB) gL_law_L_putAbsent rfl dv_L_putAbsent_s rfl (Nat.le_of_ble_eq_true rfl) (by rw [hRf]; decide) (by rw [hRl]; decide) (by omega) (by omega) dL_law_344 (fun r9 M1 H locs hq hw => ?_)
  obtain ⟨Ck_4, ⟨⟨zk_4, hrk_4⟩, Ak_4, dk_4, svk_4, hG, hCk_4, hdA⟩, hMk_4, hdB⟩ := hq
  subst hrk_4
  subst hCk_4
  subst hMk_4
  show W p l e R s m args below meth c H locs _ _ _ (F0 m 347 ls [.int (iN (zk_4))])
  refine lv_istore (lv' := [(5, .int (iN (zk_4))), (0, .ref b), (1, .ref h0), (2, .ref a), (3, .ref o), (4, .int (iN (i)))]) hC.1 hC.2.1 dL_law_347 hl (by decide) rfl (fun ls hl => ?_)
  refine lv_aload_n hC.1 hC.2.1 dL_law_349 rfl (lv_at hl 3 rfl) ?_
  refine lv_aload_n hC.1 hC.2.1 dL_law_350 rfl (lv_at hl 1 rfl) ?_
  refine lv_iload hC.1 hC.2.1 dL_law_351 (lv_at hl 5 rfl) ?_
  refine x_const hC dL_law_353 ?_
  refine x_iadd hC dL_law_354 ?_
  refine x_sld hC hw hX hbl hbA (by omega) (by omega) (by omega) dL_law_355 ?_
  obtain ⟨z_5, hz_5⟩ : ∃ z : Int, z = (xs (i + 1).toNat).toInt := ⟨_, rfl⟩
  rw [← hz_5]
  have hrz_5 : -2147483648 ≤ z_5 ∧ z_5 ≤ 2147483647 := by rw [hz_5]; exact iN_rng _
  refine lv_aload_n hC.1 hC.2.1 dL_law_356 rfl (lv_at hl 1 rfl) ?_
  refine lv_iload hC.1 hC.2.1 dL_law_357 (lv_at hl 5 rfl) ?_
  refine x_const hC dL_law_359 ?_
  refine x_iadd hC dL_law_360 ?_
  refine x_sld hC hw hX hbl hbA (by omega) (by omega) (by omega) dL_law_361 ?_
  obtain ⟨z_6, hz_6⟩ : ∃ z : Int, z = (xs (i + 2).toNat).toInt := ⟨_, rfl⟩
  rw [← hz_6]
  have hrz_6 : -2147483648 ≤ z_6 ∧ z_6 ≤ 2147483647 := by rw [hz_6]; exact iN_rng _
  refine lv_aload_n hC.1 hC.2.1 dL_law_362 rfl (lv_at hl 1 rfl) ?_
  refine lv_iload hC.1 hC.2.1 dL_law_363 (lv_at hl 5 rfl) ?_
  refine x_const hC dL_law_365 ?_
  refine x_iadd hC dL_law_366 ?_
  refine x_sld hC hw hX hbl hbA (by omega) (by omega) (by omega) dL_law_367 ?_
  obtain ⟨z_7, hz_7⟩ : ∃ z : Int, z = (xs (i + 3).toNat).toInt := ⟨_, rfl⟩
  rw [← hz_7]
  have hrz_7 : -2147483648 ≤ z_7 ∧ z_7 ≤ 2147483647 := by rw [hz_7]; exact iN_rng _
  rw [xU_comm hdB] at hw
  have hm := hm.add (z_6).toNat
  obtain ⟨va, oa, wa, ya, wk, th, br, re, la, ha, kp, kv, qv, qw, fa, fb, fvv, fw, fo, fy, hR⟩ := hm
  refine x_callV hC hw (lv_size hl) ((c_X5_putAbsent l G hR (p0 := z_5) (by omega) (p1 := z_6) (by omega) (p2 := z_7) (by omega) (fun _ => by simp [sAdd])).frame hdB.symm) gL_law_X5_putAbsent rfl dv_X5_putAbsent (xU_l hR.1.1) rfl rfl (Nat.le_of_ble_eq_true rfl) (by rw [hRf]; decide) (by rw [hRl]; decide) (by omega) (by omega) dL_law_368 (fun r9 M1 H locs hq hw => ?_)
  obtain ⟨Bk_8, ⟨zk_8, hrk_8, hzk_8, hm⟩, hMk_8, hdB9⟩ := hq
  subst hrk_8
  subst hMk_8
  have hdB := hdB9.symm
  rw [xU_comm hdB9] at hw
  show W p l e R s m args below meth c H locs _ _ _ (F0 m 371 ls [.int (iN (zk_8))])
  refine lv_istore (lv' := [(6, .int (iN (zk_8))), (5, .int (iN (zk_4))), (0, .ref b), (1, .ref h0), (2, .ref a), (3, .ref o), (4, .int (iN (i)))]) hC.1 hC.2.1 dL_law_371 hl (by decide) rfl (fun ls hl => ?_)
  refine lv_goto (tgt := 2555) hC.1 hC.2.1 dL_law_373 (by decide) ?_
  refine W.widen (k := cu + 3) (n := su + (18)) (by omega) (by omega) ?_
  exact kk _ _ _ _ rf (sAdd S (z_6).toNat) hw ⟨_, _, _, _, rfl, hG, hm, hdA, hdB⟩ (lv_sub hl [2, 3, 4, 5, 6] rfl) (mC_add1 _ _)
set_option maxHeartbeats 8000000 in
set_option maxRecDepth 100000 in
theorem k_2 {p : Program} {l : Launch} {e : Env} {R : Room} {s : State} {m : MethodId} {args : Array Value} {below : List Frame} {meth : Method} {c : Code} {Q : State → Prop} {G : xG} {b L : Nat} {xs : Nat → Int32} {nm : String} (hst : l.stackTraces = false) (hRf : R.frames = 2048) {C9 S9 : Nat} (hRc : R.cells = C9) (hRs : R.slots = S9) (hC9 : 600000 ≤ C9) (hS9 : 7060000 ≤ S9) (hRl : R.locals = 84000) (hC : xB p s m args meth c cL_law 7 "RangeledgerLaw" nm wsL_law (some .boolean) G (xA (fun _ => none) s.heap.size)) (hX : va_X b L xs s s.heap) (hbl : b < s.heap.size) (hL : L ≤ 3072) {h0 a o : Nat} {rf : Int32} {S : Nat → Bool} {M : HM} {H : Heap} {locs : List Loc} {ls : Array Slot} {i : Int} {cu su : Nat} (hw : xD G (xA (fun _ => none) s.heap.size) s M H locs) (hS : LwS G M h0 a o rf S) (hl : lv_has ls 7 [(0, .ref b), (1, .ref h0), (2, .ref a), (3, .ref o), (4, .int (iN (i)))]) (hi : 0 ≤ i ∧ i + 6 ≤ L) (hcu : cu + 1000 ≤ C9) (hsu : su + 15590 ≤ S9) (kk : ∀ (M1 : HM) (H1 : Heap) (locs1 : List Loc) (ls1 : Array Slot) (rf1 : Int32) (S1 : Nat → Bool), xD G (xA (fun _ => none) s.heap.size) s M1 H1 locs1 → LwS G M1 h0 a o rf1 S1 → lv_has ls1 7 [(0, .ref b), (1, .ref h0), (2, .ref a), (3, .ref o), (4, .int (iN (i)))] → mC S1 100 ≤ mC S 100 + 1 → W p l e R s m args below meth c H1 locs1 (cu + 3) (su + (18)) Q (F0 m 2555 ls1 [])) : W p l e R s m args below meth c H locs cu su Q (F0 m 376 ls []) := by
  obtain ⟨A, B, d, sv, hM, hG, hm, hdA, hdB⟩ := hS
  subst hM
  have hbA : ¬ (xA (fun _ => none) s.heap.size) b := fun h9 => h9.elim (fun h8 => h8 rfl) (fun h8 => by omega)
  refine lv_aload_n hC.1 hC.2.1 dL_law_376 rfl (lv_at hl 1 rfl) ?_
  refine lv_aload_n hC.1 hC.2.1 dL_law_377 rfl (lv_at hl 0 rfl) ?_
  refine lv_iload hC.1 hC.2.1 dL_law_378 (lv_at hl 4 rfl) ?_
  refine x_const hC dL_law_380 ?_
  refine x_iadd hC dL_law_381 ?_
  refine x_sld hC hw hX hbl hbA (by omega) (by omega) (by omega) dL_law_382 ?_
  obtain ⟨z_1, hz_1⟩ : ∃ z : Int, z = (xs (i + 1).toNat).toInt := ⟨_, rfl⟩
  rw [← hz_1]
  have hrz_1 : -2147483648 ≤ z_1 ∧ z_1 ≤ 2147483647 := by rw [hz_1]; exact iN_rng _
  refine lv_aload_n hC.1 hC.2.1 dL_law_383 rfl (lv_at hl 0 rfl) ?_
  refine lv_iload hC.1 hC.2.1 dL_law_384 (lv_at hl 4 rfl) ?_
  refine x_const hC dL_law_386 ?_
  refine x_iadd hC dL_law_387 ?_
  refine x_sld hC hw hX hbl hbA (by omega) (by omega) (by omega) dL_law_388 ?_
  obtain ⟨z_2, hz_2⟩ : ∃ z : Int, z = (xs (i + 2).toNat).toInt := ⟨_, rfl⟩
  rw [← hz_2]
  have hrz_2 : -2147483648 ≤ z_2 ∧ z_2 ≤ 2147483647 := by rw [hz_2]; exact iN_rng _
  refine lv_aload_n hC.1 hC.2.1 dL_law_389 rfl (lv_at hl 0 rfl) ?_
  refine lv_iload hC.1 hC.2.1 dL_law_390 (lv_at hl 4 rfl) ?_
  refine x_const hC dL_law_392 ?_
  refine x_iadd hC dL_law_393 ?_
  refine x_sld hC hw hX hbl hbA (by omega) (by omega) (by omega) dL_law_394 ?_
  obtain ⟨z_3, hz_3⟩ : ∃ z : Int, z = (xs (i + 3).toNat).toInt := ⟨_, rfl⟩
  rw [← hz_3]
  have hrz_3 : -2147483648 ≤ z_3 ∧ z_3 ≤ 2147483647 := by rw [hz_3]; exact iN_rng _
  refine lv_aload_n hC.1 hC.2.1 dL_law_395 rfl (lv_at hl 3 rfl) ?_
  refine x_callSW hC hw (lv_size hl) ((c_L_replace l G hst hG hdA (p0 := z_1) (by omega) (p1 := z_2) (by omega) (p2 := z_3) (by omega)).frame hdB) gL_law_L_replace rfl dv_L_replace_s rfl (Nat.le_of_ble_eq_true rfl) (by rw [hRf]; decide) (by rw [hRl]; decide) (by omega) (by omega) dL_law_396 (fun r9 M1 H locs hq hw => ?_)
  obtain ⟨Ck_4, ⟨⟨zk_4, hrk_4⟩, Ak_4, dk_4, svk_4, hG, hCk_4, hdA⟩, hMk_4, hdB⟩ := hq
  subst hrk_4
  subst hCk_4
  subst hMk_4
  show W p l e R s m args below meth c H locs _ _ _ (F0 m 399 ls [.int (iN (zk_4))])
  refine lv_istore (lv' := [(5, .int (iN (zk_4))), (0, .ref b), (1, .ref h0), (2, .ref a), (3, .ref o), (4, .int (iN (i)))]) hC.1 hC.2.1 dL_law_399 hl (by decide) rfl (fun ls hl => ?_)
  refine lv_aload_n hC.1 hC.2.1 dL_law_401 rfl (lv_at hl 3 rfl) ?_
  refine lv_aload_n hC.1 hC.2.1 dL_law_402 rfl (lv_at hl 1 rfl) ?_
  refine lv_iload hC.1 hC.2.1 dL_law_403 (lv_at hl 5 rfl) ?_
  refine x_const hC dL_law_405 ?_
  refine x_iadd hC dL_law_406 ?_
  refine x_sld hC hw hX hbl hbA (by omega) (by omega) (by omega) dL_law_407 ?_
  obtain ⟨z_5, hz_5⟩ : ∃ z : Int, z = (xs (i + 1).toNat).toInt := ⟨_, rfl⟩
  rw [← hz_5]
  have hrz_5 : -2147483648 ≤ z_5 ∧ z_5 ≤ 2147483647 := by rw [hz_5]; exact iN_rng _
  refine lv_aload_n hC.1 hC.2.1 dL_law_408 rfl (lv_at hl 1 rfl) ?_
  refine lv_iload hC.1 hC.2.1 dL_law_409 (lv_at hl 5 rfl) ?_
  refine x_const hC dL_law_411 ?_
  refine x_iadd hC dL_law_412 ?_
  refine x_sld hC hw hX hbl hbA (by omega) (by omega) (by omega) dL_law_413 ?_
  obtain ⟨z_6, hz_6⟩ : ∃ z : Int, z = (xs (i + 2).toNat).toInt := ⟨_, rfl⟩
  rw [← hz_6]
  have hrz_6 : -2147483648 ≤ z_6 ∧ z_6 ≤ 2147483647 := by rw [hz_6]; exact iN_rng _
  refine lv_aload_n hC.1 hC.2.1 dL_law_414 rfl (lv_at hl 1 rfl) ?_
  refine lv_iload hC.1 hC.2.1 dL_law_415 (lv_at hl 5 rfl) ?_
  refine x_const hC dL_law_417 ?_
  refine x_iadd hC dL_law_418 ?_
  refine x_sld hC hw hX hbl hbA (by omega) (by omega) (by omega) dL_law_419 ?_
  obtain ⟨z_7, hz_7⟩ : ∃ z : Int, z = (xs (i + 3).toNat).toInt := ⟨_, rfl⟩
  rw [← hz_7]
  have hrz_7 : -2147483648 ≤ z_7 ∧ z_7 ≤ 2147483647 := by rw [hz_7]; exact iN_rng _
  rw [xU_comm hdB] at hw
  have hm := hm.add (z_6).toNat
  obtain ⟨va, oa, wa, ya, wk, th, br, re, la, ha, kp, kv, qv, qw, fa, fb, fvv, fw, fo, fy, hR⟩ := hm
  refine x_callV hC hw (lv_size hl) ((c_X5_replace l G hR (p0 := z_5) (by omega) (p1 := z_6) (by omega) (p2 := z_7) (by omega) (fun _ => by simp [sAdd])).frame hdB.symm) gL_law_X5_replace rfl dv_X5_replace (xU_l hR.1.1) rfl rfl (Nat.le_of_ble_eq_true rfl) (by rw [hRf]; decide) (by rw [hRl]; decide) (by omega) (by omega) dL_law_420 (fun r9 M1 H locs hq hw => ?_)
  obtain ⟨Bk_8, ⟨zk_8, hrk_8, hzk_8, hm⟩, hMk_8, hdB9⟩ := hq
  subst hrk_8
  subst hMk_8
  have hdB := hdB9.symm
  rw [xU_comm hdB9] at hw
  show W p l e R s m args below meth c H locs _ _ _ (F0 m 423 ls [.int (iN (zk_8))])
  refine lv_istore (lv' := [(6, .int (iN (zk_8))), (5, .int (iN (zk_4))), (0, .ref b), (1, .ref h0), (2, .ref a), (3, .ref o), (4, .int (iN (i)))]) hC.1 hC.2.1 dL_law_423 hl (by decide) rfl (fun ls hl => ?_)
  refine lv_goto (tgt := 2555) hC.1 hC.2.1 dL_law_425 (by decide) ?_
  refine W.widen (k := cu + 3) (n := su + (18)) (by omega) (by omega) ?_
  exact kk _ _ _ _ rf (sAdd S (z_6).toNat) hw ⟨_, _, _, _, rfl, hG, hm, hdA, hdB⟩ (lv_sub hl [2, 3, 4, 5, 6] rfl) (mC_add1 _ _)
set_option maxHeartbeats 8000000 in
set_option maxRecDepth 100000 in
theorem k_3 {p : Program} {l : Launch} {e : Env} {R : Room} {s : State} {m : MethodId} {args : Array Value} {below : List Frame} {meth : Method} {c : Code} {Q : State → Prop} {G : xG} {b L : Nat} {xs : Nat → Int32} {nm : String} (hst : l.stackTraces = false) (hRf : R.frames = 2048) {C9 S9 : Nat} (hRc : R.cells = C9) (hRs : R.slots = S9) (hC9 : 600000 ≤ C9) (hS9 : 7060000 ≤ S9) (hRl : R.locals = 84000) (hC : xB p s m args meth c cL_law 7 "RangeledgerLaw" nm wsL_law (some .boolean) G (xA (fun _ => none) s.heap.size)) (hX : va_X b L xs s s.heap) (hbl : b < s.heap.size) (hL : L ≤ 3072) {h0 a o : Nat} {rf : Int32} {S : Nat → Bool} {M : HM} {H : Heap} {locs : List Loc} {ls : Array Slot} {i : Int} {cu su : Nat} (hw : xD G (xA (fun _ => none) s.heap.size) s M H locs) (hS : LwS G M h0 a o rf S) (hl : lv_has ls 7 [(0, .ref b), (1, .ref h0), (2, .ref a), (3, .ref o), (4, .int (iN (i)))]) (hi : 0 ≤ i ∧ i + 6 ≤ L) (hcu : cu + 1000 ≤ C9) (hsu : su + 15590 ≤ S9) (kk : ∀ (M1 : HM) (H1 : Heap) (locs1 : List Loc) (ls1 : Array Slot) (rf1 : Int32) (S1 : Nat → Bool), xD G (xA (fun _ => none) s.heap.size) s M1 H1 locs1 → LwS G M1 h0 a o rf1 S1 → lv_has ls1 7 [(0, .ref b), (1, .ref h0), (2, .ref a), (3, .ref o), (4, .int (iN (i)))] → mC S1 100 ≤ mC S 100 + 1 → W p l e R s m args below meth c H1 locs1 (cu + 4) (su + (24)) Q (F0 m 2555 ls1 [])) : W p l e R s m args below meth c H locs cu su Q (F0 m 428 ls []) := by
  obtain ⟨A, B, d, sv, hM, hG, hm, hdA, hdB⟩ := hS
  subst hM
  have hbA : ¬ (xA (fun _ => none) s.heap.size) b := fun h9 => h9.elim (fun h8 => h8 rfl) (fun h8 => by omega)
  refine lv_aload_n hC.1 hC.2.1 dL_law_428 rfl (lv_at hl 1 rfl) ?_
  refine lv_aload_n hC.1 hC.2.1 dL_law_429 rfl (lv_at hl 0 rfl) ?_
  refine lv_iload hC.1 hC.2.1 dL_law_430 (lv_at hl 4 rfl) ?_
  refine x_const hC dL_law_432 ?_
  refine x_iadd hC dL_law_433 ?_
  refine x_sld hC hw hX hbl hbA (by omega) (by omega) (by omega) dL_law_434 ?_
  obtain ⟨z_1, hz_1⟩ : ∃ z : Int, z = (xs (i + 1).toNat).toInt := ⟨_, rfl⟩
  rw [← hz_1]
  have hrz_1 : -2147483648 ≤ z_1 ∧ z_1 ≤ 2147483647 := by rw [hz_1]; exact iN_rng _
  refine lv_aload_n hC.1 hC.2.1 dL_law_435 rfl (lv_at hl 0 rfl) ?_
  refine lv_iload hC.1 hC.2.1 dL_law_436 (lv_at hl 4 rfl) ?_
  refine x_const hC dL_law_438 ?_
  refine x_iadd hC dL_law_439 ?_
  refine x_sld hC hw hX hbl hbA (by omega) (by omega) (by omega) dL_law_440 ?_
  obtain ⟨z_2, hz_2⟩ : ∃ z : Int, z = (xs (i + 2).toNat).toInt := ⟨_, rfl⟩
  rw [← hz_2]
  have hrz_2 : -2147483648 ≤ z_2 ∧ z_2 ≤ 2147483647 := by rw [hz_2]; exact iN_rng _
  refine lv_aload_n hC.1 hC.2.1 dL_law_441 rfl (lv_at hl 0 rfl) ?_
  refine lv_iload hC.1 hC.2.1 dL_law_442 (lv_at hl 4 rfl) ?_
  refine x_const hC dL_law_444 ?_
  refine x_iadd hC dL_law_445 ?_
  refine x_sld hC hw hX hbl hbA (by omega) (by omega) (by omega) dL_law_446 ?_
  obtain ⟨z_3, hz_3⟩ : ∃ z : Int, z = (xs (i + 3).toNat).toInt := ⟨_, rfl⟩
  rw [← hz_3]
  have hrz_3 : -2147483648 ≤ z_3 ∧ z_3 ≤ 2147483647 := by rw [hz_3]; exact iN_rng _
  refine lv_aload_n hC.1 hC.2.1 dL_law_447 rfl (lv_at hl 0 rfl) ?_
  refine lv_iload hC.1 hC.2.1 dL_law_448 (lv_at hl 4 rfl) ?_
  refine x_const hC dL_law_450 ?_
  refine x_iadd hC dL_law_451 ?_
  refine x_sld hC hw hX hbl hbA (by omega) (by omega) (by omega) dL_law_452 ?_
  obtain ⟨z_4, hz_4⟩ : ∃ z : Int, z = (xs (i + 4).toNat).toInt := ⟨_, rfl⟩
  rw [← hz_4]
  have hrz_4 : -2147483648 ≤ z_4 ∧ z_4 ≤ 2147483647 := by rw [hz_4]; exact iN_rng _
  refine lv_aload_n hC.1 hC.2.1 dL_law_453 rfl (lv_at hl 3 rfl) ?_
  refine x_callSW hC hw (lv_size hl) ((c_L_swap l G hst hG hdA (p0 := z_1) (by omega) (p1 := z_2) (by omega) (p2 := z_3) (by omega) (p3 := z_4) (by omega)).frame hdB) gL_law_L_swap rfl dv_L_swap_s rfl (Nat.le_of_ble_eq_true rfl) (by rw [hRf]; decide) (by rw [hRl]; decide) (by omega) (by omega) dL_law_454 (fun r9 M1 H locs hq hw => ?_)
  obtain ⟨Ck_5, ⟨⟨zk_5, hrk_5⟩, Ak_5, dk_5, svk_5, hG, hCk_5, hdA⟩, hMk_5, hdB⟩ := hq
  subst hrk_5
  subst hCk_5
  subst hMk_5
  show W p l e R s m args below meth c H locs _ _ _ (F0 m 457 ls [.int (iN (zk_5))])
  refine lv_istore (lv' := [(5, .int (iN (zk_5))), (0, .ref b), (1, .ref h0), (2, .ref a), (3, .ref o), (4, .int (iN (i)))]) hC.1 hC.2.1 dL_law_457 hl (by decide) rfl (fun ls hl => ?_)
  refine lv_aload_n hC.1 hC.2.1 dL_law_459 rfl (lv_at hl 3 rfl) ?_
  refine lv_aload_n hC.1 hC.2.1 dL_law_460 rfl (lv_at hl 1 rfl) ?_
  refine lv_iload hC.1 hC.2.1 dL_law_461 (lv_at hl 5 rfl) ?_
  refine x_const hC dL_law_463 ?_
  refine x_iadd hC dL_law_464 ?_
  refine x_sld hC hw hX hbl hbA (by omega) (by omega) (by omega) dL_law_465 ?_
  obtain ⟨z_6, hz_6⟩ : ∃ z : Int, z = (xs (i + 1).toNat).toInt := ⟨_, rfl⟩
  rw [← hz_6]
  have hrz_6 : -2147483648 ≤ z_6 ∧ z_6 ≤ 2147483647 := by rw [hz_6]; exact iN_rng _
  refine lv_aload_n hC.1 hC.2.1 dL_law_466 rfl (lv_at hl 1 rfl) ?_
  refine lv_iload hC.1 hC.2.1 dL_law_467 (lv_at hl 5 rfl) ?_
  refine x_const hC dL_law_469 ?_
  refine x_iadd hC dL_law_470 ?_
  refine x_sld hC hw hX hbl hbA (by omega) (by omega) (by omega) dL_law_471 ?_
  obtain ⟨z_7, hz_7⟩ : ∃ z : Int, z = (xs (i + 2).toNat).toInt := ⟨_, rfl⟩
  rw [← hz_7]
  have hrz_7 : -2147483648 ≤ z_7 ∧ z_7 ≤ 2147483647 := by rw [hz_7]; exact iN_rng _
  refine lv_aload_n hC.1 hC.2.1 dL_law_472 rfl (lv_at hl 1 rfl) ?_
  refine lv_iload hC.1 hC.2.1 dL_law_473 (lv_at hl 5 rfl) ?_
  refine x_const hC dL_law_475 ?_
  refine x_iadd hC dL_law_476 ?_
  refine x_sld hC hw hX hbl hbA (by omega) (by omega) (by omega) dL_law_477 ?_
  obtain ⟨z_8, hz_8⟩ : ∃ z : Int, z = (xs (i + 3).toNat).toInt := ⟨_, rfl⟩
  rw [← hz_8]
  have hrz_8 : -2147483648 ≤ z_8 ∧ z_8 ≤ 2147483647 := by rw [hz_8]; exact iN_rng _
  refine lv_aload_n hC.1 hC.2.1 dL_law_478 rfl (lv_at hl 1 rfl) ?_
  refine lv_iload hC.1 hC.2.1 dL_law_479 (lv_at hl 5 rfl) ?_
  refine x_const hC dL_law_481 ?_
  refine x_iadd hC dL_law_482 ?_
  refine x_sld hC hw hX hbl hbA (by omega) (by omega) (by omega) dL_law_483 ?_
  obtain ⟨z_9, hz_9⟩ : ∃ z : Int, z = (xs (i + 4).toNat).toInt := ⟨_, rfl⟩
  rw [← hz_9]
  have hrz_9 : -2147483648 ≤ z_9 ∧ z_9 ≤ 2147483647 := by rw [hz_9]; exact iN_rng _
  rw [xU_comm hdB] at hw
  have hm := hm.add (z_7).toNat
  obtain ⟨va, oa, wa, ya, wk, th, br, re, la, ha, kp, kv, qv, qw, fa, fb, fvv, fw, fo, fy, hR⟩ := hm
  refine x_callV hC hw (lv_size hl) ((c_X5_swap l G hR (p0 := z_6) (by omega) (p1 := z_7) (by omega) (p2 := z_8) (by omega) (p3 := z_9) (by omega) (fun _ => by simp [sAdd])).frame hdB.symm) gL_law_X5_swap rfl dv_X5_swap (xU_l hR.1.1) rfl rfl (Nat.le_of_ble_eq_true rfl) (by rw [hRf]; decide) (by rw [hRl]; decide) (by omega) (by omega) dL_law_484 (fun r9 M1 H locs hq hw => ?_)
  obtain ⟨Bk_10, ⟨zk_10, hrk_10, hzk_10, hm⟩, hMk_10, hdB9⟩ := hq
  subst hrk_10
  subst hMk_10
  have hdB := hdB9.symm
  rw [xU_comm hdB9] at hw
  show W p l e R s m args below meth c H locs _ _ _ (F0 m 487 ls [.int (iN (zk_10))])
  refine lv_istore (lv' := [(6, .int (iN (zk_10))), (5, .int (iN (zk_5))), (0, .ref b), (1, .ref h0), (2, .ref a), (3, .ref o), (4, .int (iN (i)))]) hC.1 hC.2.1 dL_law_487 hl (by decide) rfl (fun ls hl => ?_)
  refine lv_goto (tgt := 2555) hC.1 hC.2.1 dL_law_489 (by decide) ?_
  refine W.widen (k := cu + 4) (n := su + (24)) (by omega) (by omega) ?_
  exact kk _ _ _ _ rf (sAdd S (z_7).toNat) hw ⟨_, _, _, _, rfl, hG, hm, hdA, hdB⟩ (lv_sub hl [2, 3, 4, 5, 6] rfl) (mC_add1 _ _)
set_option maxHeartbeats 8000000 in
set_option maxRecDepth 100000 in
theorem k_4 {p : Program} {l : Launch} {e : Env} {R : Room} {s : State} {m : MethodId} {args : Array Value} {below : List Frame} {meth : Method} {c : Code} {Q : State → Prop} {G : xG} {b L : Nat} {xs : Nat → Int32} {nm : String} (hst : l.stackTraces = false) (hRf : R.frames = 2048) {C9 S9 : Nat} (hRc : R.cells = C9) (hRs : R.slots = S9) (hC9 : 600000 ≤ C9) (hS9 : 7060000 ≤ S9) (hRl : R.locals = 84000) (hC : xB p s m args meth c cL_law 7 "RangeledgerLaw" nm wsL_law (some .boolean) G (xA (fun _ => none) s.heap.size)) (hX : va_X b L xs s s.heap) (hbl : b < s.heap.size) (hL : L ≤ 3072) {h0 a o : Nat} {rf : Int32} {S : Nat → Bool} {M : HM} {H : Heap} {locs : List Loc} {ls : Array Slot} {i : Int} {cu su : Nat} (hw : xD G (xA (fun _ => none) s.heap.size) s M H locs) (hS : LwS G M h0 a o rf S) (hl : lv_has ls 7 [(0, .ref b), (1, .ref h0), (2, .ref a), (3, .ref o), (4, .int (iN (i)))]) (hi : 0 ≤ i ∧ i + 6 ≤ L) (hcu : cu + 1000 ≤ C9) (hsu : su + 15590 ≤ S9) (kk : ∀ (M1 : HM) (H1 : Heap) (locs1 : List Loc) (ls1 : Array Slot) (rf1 : Int32) (S1 : Nat → Bool), xD G (xA (fun _ => none) s.heap.size) s M1 H1 locs1 → LwS G M1 h0 a o rf1 S1 → lv_has ls1 7 [(0, .ref b), (1, .ref h0), (2, .ref a), (3, .ref o), (4, .int (iN (i)))] → mC S1 100 ≤ mC S 100 + 0 → W p l e R s m args below meth c H1 locs1 (cu + 2) (su + (12)) Q (F0 m 2555 ls1 [])) : W p l e R s m args below meth c H locs cu su Q (F0 m 492 ls []) := by
  obtain ⟨A, B, d, sv, hM, hG, hm, hdA, hdB⟩ := hS
  subst hM
  have hbA : ¬ (xA (fun _ => none) s.heap.size) b := fun h9 => h9.elim (fun h8 => h8 rfl) (fun h8 => by omega)
  refine lv_aload_n hC.1 hC.2.1 dL_law_492 rfl (lv_at hl 1 rfl) ?_
  refine lv_aload_n hC.1 hC.2.1 dL_law_493 rfl (lv_at hl 0 rfl) ?_
  refine lv_iload hC.1 hC.2.1 dL_law_494 (lv_at hl 4 rfl) ?_
  refine x_const hC dL_law_496 ?_
  refine x_iadd hC dL_law_497 ?_
  refine x_sld hC hw hX hbl hbA (by omega) (by omega) (by omega) dL_law_498 ?_
  obtain ⟨z_1, hz_1⟩ : ∃ z : Int, z = (xs (i + 1).toNat).toInt := ⟨_, rfl⟩
  rw [← hz_1]
  have hrz_1 : -2147483648 ≤ z_1 ∧ z_1 ≤ 2147483647 := by rw [hz_1]; exact iN_rng _
  refine lv_aload_n hC.1 hC.2.1 dL_law_499 rfl (lv_at hl 0 rfl) ?_
  refine lv_iload hC.1 hC.2.1 dL_law_500 (lv_at hl 4 rfl) ?_
  refine x_const hC dL_law_502 ?_
  refine x_iadd hC dL_law_503 ?_
  refine x_sld hC hw hX hbl hbA (by omega) (by omega) (by omega) dL_law_504 ?_
  obtain ⟨z_2, hz_2⟩ : ∃ z : Int, z = (xs (i + 2).toNat).toInt := ⟨_, rfl⟩
  rw [← hz_2]
  have hrz_2 : -2147483648 ≤ z_2 ∧ z_2 ≤ 2147483647 := by rw [hz_2]; exact iN_rng _
  refine lv_aload_n hC.1 hC.2.1 dL_law_505 rfl (lv_at hl 3 rfl) ?_
  refine x_callSW hC hw (lv_size hl) ((c_L_strike l G hst hG hdA (p0 := z_1) (by omega) (p1 := z_2) (by omega)).frame hdB) gL_law_L_strike rfl dv_L_strike_s rfl (Nat.le_of_ble_eq_true rfl) (by rw [hRf]; decide) (by rw [hRl]; decide) (by omega) (by omega) dL_law_506 (fun r9 M1 H locs hq hw => ?_)
  obtain ⟨Ck_3, ⟨⟨zk_3, hrk_3⟩, Ak_3, dk_3, svk_3, hG, hCk_3, hdA⟩, hMk_3, hdB⟩ := hq
  subst hrk_3
  subst hCk_3
  subst hMk_3
  show W p l e R s m args below meth c H locs _ _ _ (F0 m 509 ls [.int (iN (zk_3))])
  refine lv_istore (lv' := [(5, .int (iN (zk_3))), (0, .ref b), (1, .ref h0), (2, .ref a), (3, .ref o), (4, .int (iN (i)))]) hC.1 hC.2.1 dL_law_509 hl (by decide) rfl (fun ls hl => ?_)
  refine lv_aload_n hC.1 hC.2.1 dL_law_511 rfl (lv_at hl 3 rfl) ?_
  refine lv_aload_n hC.1 hC.2.1 dL_law_512 rfl (lv_at hl 1 rfl) ?_
  refine lv_iload hC.1 hC.2.1 dL_law_513 (lv_at hl 5 rfl) ?_
  refine x_const hC dL_law_515 ?_
  refine x_iadd hC dL_law_516 ?_
  refine x_sld hC hw hX hbl hbA (by omega) (by omega) (by omega) dL_law_517 ?_
  obtain ⟨z_4, hz_4⟩ : ∃ z : Int, z = (xs (i + 1).toNat).toInt := ⟨_, rfl⟩
  rw [← hz_4]
  have hrz_4 : -2147483648 ≤ z_4 ∧ z_4 ≤ 2147483647 := by rw [hz_4]; exact iN_rng _
  refine lv_aload_n hC.1 hC.2.1 dL_law_518 rfl (lv_at hl 1 rfl) ?_
  refine lv_iload hC.1 hC.2.1 dL_law_519 (lv_at hl 5 rfl) ?_
  refine x_const hC dL_law_521 ?_
  refine x_iadd hC dL_law_522 ?_
  refine x_sld hC hw hX hbl hbA (by omega) (by omega) (by omega) dL_law_523 ?_
  obtain ⟨z_5, hz_5⟩ : ∃ z : Int, z = (xs (i + 2).toNat).toInt := ⟨_, rfl⟩
  rw [← hz_5]
  have hrz_5 : -2147483648 ≤ z_5 ∧ z_5 ≤ 2147483647 := by rw [hz_5]; exact iN_rng _
  rw [xU_comm hdB] at hw
  obtain ⟨va, oa, wa, ya, wk, th, br, re, la, ha, kp, kv, qv, qw, fa, fb, fvv, fw, fo, fy, hR⟩ := hm
  refine x_callV hC hw (lv_size hl) ((c_X5_strike l G hR (p0 := z_4) (by omega) (p1 := z_5) (by omega)).frame hdB.symm) gL_law_X5_strike rfl dv_X5_strike (xU_l hR.1.1) rfl rfl (Nat.le_of_ble_eq_true rfl) (by rw [hRf]; decide) (by rw [hRl]; decide) (by omega) (by omega) dL_law_524 (fun r9 M1 H locs hq hw => ?_)
  obtain ⟨Bk_6, ⟨zk_6, hrk_6, hzk_6, hm⟩, hMk_6, hdB9⟩ := hq
  subst hrk_6
  subst hMk_6
  have hdB := hdB9.symm
  rw [xU_comm hdB9] at hw
  show W p l e R s m args below meth c H locs _ _ _ (F0 m 527 ls [.int (iN (zk_6))])
  refine lv_istore (lv' := [(6, .int (iN (zk_6))), (5, .int (iN (zk_3))), (0, .ref b), (1, .ref h0), (2, .ref a), (3, .ref o), (4, .int (iN (i)))]) hC.1 hC.2.1 dL_law_527 hl (by decide) rfl (fun ls hl => ?_)
  refine lv_goto (tgt := 2555) hC.1 hC.2.1 dL_law_529 (by decide) ?_
  refine W.widen (k := cu + 2) (n := su + (12)) (by omega) (by omega) ?_
  exact kk _ _ _ _ rf S hw ⟨_, _, _, _, rfl, hG, hm, hdA, hdB⟩ (lv_sub hl [2, 3, 4, 5, 6] rfl) (Nat.le_refl _)
set_option maxHeartbeats 8000000 in
set_option maxRecDepth 100000 in
theorem k_5 {p : Program} {l : Launch} {e : Env} {R : Room} {s : State} {m : MethodId} {args : Array Value} {below : List Frame} {meth : Method} {c : Code} {Q : State → Prop} {G : xG} {b L : Nat} {xs : Nat → Int32} {nm : String} (hst : l.stackTraces = false) (hRf : R.frames = 2048) {C9 S9 : Nat} (hRc : R.cells = C9) (hRs : R.slots = S9) (hC9 : 600000 ≤ C9) (hS9 : 7060000 ≤ S9) (hRl : R.locals = 84000) (hC : xB p s m args meth c cL_law 7 "RangeledgerLaw" nm wsL_law (some .boolean) G (xA (fun _ => none) s.heap.size)) (hX : va_X b L xs s s.heap) (hbl : b < s.heap.size) (hL : L ≤ 3072) {h0 a o : Nat} {rf : Int32} {S : Nat → Bool} {M : HM} {H : Heap} {locs : List Loc} {ls : Array Slot} {i : Int} {cu su : Nat} (hw : xD G (xA (fun _ => none) s.heap.size) s M H locs) (hS : LwS G M h0 a o rf S) (hl : lv_has ls 7 [(0, .ref b), (1, .ref h0), (2, .ref a), (3, .ref o), (4, .int (iN (i)))]) (hi : 0 ≤ i ∧ i + 6 ≤ L) (hcu : cu + 1000 ≤ C9) (hsu : su + 15590 ≤ S9) (kk : ∀ (M1 : HM) (H1 : Heap) (locs1 : List Loc) (ls1 : Array Slot) (rf1 : Int32) (S1 : Nat → Bool), xD G (xA (fun _ => none) s.heap.size) s M1 H1 locs1 → LwS G M1 h0 a o rf1 S1 → lv_has ls1 7 [(0, .ref b), (1, .ref h0), (2, .ref a), (3, .ref o), (4, .int (iN (i)))] → mC S1 100 ≤ mC S 100 + 0 → W p l e R s m args below meth c H1 locs1 (cu + 3) (su + (18)) Q (F0 m 2555 ls1 [])) : W p l e R s m args below meth c H locs cu su Q (F0 m 532 ls []) := by
  obtain ⟨A, B, d, sv, hM, hG, hm, hdA, hdB⟩ := hS
  subst hM
  have hbA : ¬ (xA (fun _ => none) s.heap.size) b := fun h9 => h9.elim (fun h8 => h8 rfl) (fun h8 => by omega)
  refine lv_aload_n hC.1 hC.2.1 dL_law_532 rfl (lv_at hl 1 rfl) ?_
  refine lv_aload_n hC.1 hC.2.1 dL_law_533 rfl (lv_at hl 0 rfl) ?_
  refine lv_iload hC.1 hC.2.1 dL_law_534 (lv_at hl 4 rfl) ?_
  refine x_const hC dL_law_536 ?_
  refine x_iadd hC dL_law_537 ?_
  refine x_sld hC hw hX hbl hbA (by omega) (by omega) (by omega) dL_law_538 ?_
  obtain ⟨z_1, hz_1⟩ : ∃ z : Int, z = (xs (i + 1).toNat).toInt := ⟨_, rfl⟩
  rw [← hz_1]
  have hrz_1 : -2147483648 ≤ z_1 ∧ z_1 ≤ 2147483647 := by rw [hz_1]; exact iN_rng _
  refine lv_aload_n hC.1 hC.2.1 dL_law_539 rfl (lv_at hl 0 rfl) ?_
  refine lv_iload hC.1 hC.2.1 dL_law_540 (lv_at hl 4 rfl) ?_
  refine x_const hC dL_law_542 ?_
  refine x_iadd hC dL_law_543 ?_
  refine x_sld hC hw hX hbl hbA (by omega) (by omega) (by omega) dL_law_544 ?_
  obtain ⟨z_2, hz_2⟩ : ∃ z : Int, z = (xs (i + 2).toNat).toInt := ⟨_, rfl⟩
  rw [← hz_2]
  have hrz_2 : -2147483648 ≤ z_2 ∧ z_2 ≤ 2147483647 := by rw [hz_2]; exact iN_rng _
  refine lv_aload_n hC.1 hC.2.1 dL_law_545 rfl (lv_at hl 0 rfl) ?_
  refine lv_iload hC.1 hC.2.1 dL_law_546 (lv_at hl 4 rfl) ?_
  refine x_const hC dL_law_548 ?_
  refine x_iadd hC dL_law_549 ?_
  refine x_sld hC hw hX hbl hbA (by omega) (by omega) (by omega) dL_law_550 ?_
  obtain ⟨z_3, hz_3⟩ : ∃ z : Int, z = (xs (i + 3).toNat).toInt := ⟨_, rfl⟩
  rw [← hz_3]
  have hrz_3 : -2147483648 ≤ z_3 ∧ z_3 ≤ 2147483647 := by rw [hz_3]; exact iN_rng _
  refine lv_aload_n hC.1 hC.2.1 dL_law_551 rfl (lv_at hl 3 rfl) ?_
  refine x_callSW hC hw (lv_size hl) ((c_L_strikePair l G hst hG hdA (p0 := z_1) (by omega) (p1 := z_2) (by omega) (p2 := z_3) (by omega)).frame hdB) gL_law_L_strikePair rfl dv_L_strikePair_s rfl (Nat.le_of_ble_eq_true rfl) (by rw [hRf]; decide) (by rw [hRl]; decide) (by omega) (by omega) dL_law_552 (fun r9 M1 H locs hq hw => ?_)
  obtain ⟨Ck_4, ⟨⟨zk_4, hrk_4⟩, Ak_4, dk_4, svk_4, hG, hCk_4, hdA⟩, hMk_4, hdB⟩ := hq
  subst hrk_4
  subst hCk_4
  subst hMk_4
  show W p l e R s m args below meth c H locs _ _ _ (F0 m 555 ls [.int (iN (zk_4))])
  refine lv_istore (lv' := [(5, .int (iN (zk_4))), (0, .ref b), (1, .ref h0), (2, .ref a), (3, .ref o), (4, .int (iN (i)))]) hC.1 hC.2.1 dL_law_555 hl (by decide) rfl (fun ls hl => ?_)
  refine lv_aload_n hC.1 hC.2.1 dL_law_557 rfl (lv_at hl 3 rfl) ?_
  refine lv_aload_n hC.1 hC.2.1 dL_law_558 rfl (lv_at hl 1 rfl) ?_
  refine lv_iload hC.1 hC.2.1 dL_law_559 (lv_at hl 5 rfl) ?_
  refine x_const hC dL_law_561 ?_
  refine x_iadd hC dL_law_562 ?_
  refine x_sld hC hw hX hbl hbA (by omega) (by omega) (by omega) dL_law_563 ?_
  obtain ⟨z_5, hz_5⟩ : ∃ z : Int, z = (xs (i + 1).toNat).toInt := ⟨_, rfl⟩
  rw [← hz_5]
  have hrz_5 : -2147483648 ≤ z_5 ∧ z_5 ≤ 2147483647 := by rw [hz_5]; exact iN_rng _
  refine lv_aload_n hC.1 hC.2.1 dL_law_564 rfl (lv_at hl 1 rfl) ?_
  refine lv_iload hC.1 hC.2.1 dL_law_565 (lv_at hl 5 rfl) ?_
  refine x_const hC dL_law_567 ?_
  refine x_iadd hC dL_law_568 ?_
  refine x_sld hC hw hX hbl hbA (by omega) (by omega) (by omega) dL_law_569 ?_
  obtain ⟨z_6, hz_6⟩ : ∃ z : Int, z = (xs (i + 2).toNat).toInt := ⟨_, rfl⟩
  rw [← hz_6]
  have hrz_6 : -2147483648 ≤ z_6 ∧ z_6 ≤ 2147483647 := by rw [hz_6]; exact iN_rng _
  refine lv_aload_n hC.1 hC.2.1 dL_law_570 rfl (lv_at hl 1 rfl) ?_
  refine lv_iload hC.1 hC.2.1 dL_law_571 (lv_at hl 5 rfl) ?_
  refine x_const hC dL_law_573 ?_
  refine x_iadd hC dL_law_574 ?_
  refine x_sld hC hw hX hbl hbA (by omega) (by omega) (by omega) dL_law_575 ?_
  obtain ⟨z_7, hz_7⟩ : ∃ z : Int, z = (xs (i + 3).toNat).toInt := ⟨_, rfl⟩
  rw [← hz_7]
  have hrz_7 : -2147483648 ≤ z_7 ∧ z_7 ≤ 2147483647 := by rw [hz_7]; exact iN_rng _
  rw [xU_comm hdB] at hw
  obtain ⟨va, oa, wa, ya, wk, th, br, re, la, ha, kp, kv, qv, qw, fa, fb, fvv, fw, fo, fy, hR⟩ := hm
  refine x_callV hC hw (lv_size hl) ((c_X5_strikePair l G hR (p0 := z_5) (by omega) (p1 := z_6) (by omega) (p2 := z_7) (by omega)).frame hdB.symm) gL_law_X5_strikePair rfl dv_X5_strikePair (xU_l hR.1.1) rfl rfl (Nat.le_of_ble_eq_true rfl) (by rw [hRf]; decide) (by rw [hRl]; decide) (by omega) (by omega) dL_law_576 (fun r9 M1 H locs hq hw => ?_)
  obtain ⟨Bk_8, ⟨zk_8, hrk_8, hzk_8, hm⟩, hMk_8, hdB9⟩ := hq
  subst hrk_8
  subst hMk_8
  have hdB := hdB9.symm
  rw [xU_comm hdB9] at hw
  show W p l e R s m args below meth c H locs _ _ _ (F0 m 579 ls [.int (iN (zk_8))])
  refine lv_istore (lv' := [(6, .int (iN (zk_8))), (5, .int (iN (zk_4))), (0, .ref b), (1, .ref h0), (2, .ref a), (3, .ref o), (4, .int (iN (i)))]) hC.1 hC.2.1 dL_law_579 hl (by decide) rfl (fun ls hl => ?_)
  refine lv_goto (tgt := 2555) hC.1 hC.2.1 dL_law_581 (by decide) ?_
  refine W.widen (k := cu + 3) (n := su + (18)) (by omega) (by omega) ?_
  exact kk _ _ _ _ rf S hw ⟨_, _, _, _, rfl, hG, hm, hdA, hdB⟩ (lv_sub hl [2, 3, 4, 5, 6] rfl) (Nat.le_refl _)
set_option maxHeartbeats 8000000 in
set_option maxRecDepth 100000 in
theorem k_6 {p : Program} {l : Launch} {e : Env} {R : Room} {s : State} {m : MethodId} {args : Array Value} {below : List Frame} {meth : Method} {c : Code} {Q : State → Prop} {G : xG} {b L : Nat} {xs : Nat → Int32} {nm : String} (hst : l.stackTraces = false) (hRf : R.frames = 2048) {C9 S9 : Nat} (hRc : R.cells = C9) (hRs : R.slots = S9) (hC9 : 600000 ≤ C9) (hS9 : 7060000 ≤ S9) (hRl : R.locals = 84000) (hC : xB p s m args meth c cL_law 7 "RangeledgerLaw" nm wsL_law (some .boolean) G (xA (fun _ => none) s.heap.size)) (hX : va_X b L xs s s.heap) (hbl : b < s.heap.size) (hL : L ≤ 3072) {h0 a o : Nat} {rf : Int32} {S : Nat → Bool} {M : HM} {H : Heap} {locs : List Loc} {ls : Array Slot} {i : Int} {cu su : Nat} (hw : xD G (xA (fun _ => none) s.heap.size) s M H locs) (hS : LwS G M h0 a o rf S) (hl : lv_has ls 7 [(0, .ref b), (1, .ref h0), (2, .ref a), (3, .ref o), (4, .int (iN (i)))]) (hi : 0 ≤ i ∧ i + 6 ≤ L) (hcu : cu + 1000 ≤ C9) (hsu : su + 15590 ≤ S9) (kk : ∀ (M1 : HM) (H1 : Heap) (locs1 : List Loc) (ls1 : Array Slot) (rf1 : Int32) (S1 : Nat → Bool), xD G (xA (fun _ => none) s.heap.size) s M1 H1 locs1 → LwS G M1 h0 a o rf1 S1 → lv_has ls1 7 [(0, .ref b), (1, .ref h0), (2, .ref a), (3, .ref o), (4, .int (iN (i)))] → mC S1 100 ≤ mC S 100 + 1 → W p l e R s m args below meth c H1 locs1 (cu + 3) (su + (18)) Q (F0 m 2555 ls1 [])) : W p l e R s m args below meth c H locs cu su Q (F0 m 584 ls []) := by
  obtain ⟨A, B, d, sv, hM, hG, hm, hdA, hdB⟩ := hS
  subst hM
  have hbA : ¬ (xA (fun _ => none) s.heap.size) b := fun h9 => h9.elim (fun h8 => h8 rfl) (fun h8 => by omega)
  refine lv_aload_n hC.1 hC.2.1 dL_law_584 rfl (lv_at hl 1 rfl) ?_
  refine lv_aload_n hC.1 hC.2.1 dL_law_585 rfl (lv_at hl 0 rfl) ?_
  refine lv_iload hC.1 hC.2.1 dL_law_586 (lv_at hl 4 rfl) ?_
  refine x_const hC dL_law_588 ?_
  refine x_iadd hC dL_law_589 ?_
  refine x_sld hC hw hX hbl hbA (by omega) (by omega) (by omega) dL_law_590 ?_
  obtain ⟨z_1, hz_1⟩ : ∃ z : Int, z = (xs (i + 1).toNat).toInt := ⟨_, rfl⟩
  rw [← hz_1]
  have hrz_1 : -2147483648 ≤ z_1 ∧ z_1 ≤ 2147483647 := by rw [hz_1]; exact iN_rng _
  refine lv_aload_n hC.1 hC.2.1 dL_law_591 rfl (lv_at hl 0 rfl) ?_
  refine lv_iload hC.1 hC.2.1 dL_law_592 (lv_at hl 4 rfl) ?_
  refine x_const hC dL_law_594 ?_
  refine x_iadd hC dL_law_595 ?_
  refine x_sld hC hw hX hbl hbA (by omega) (by omega) (by omega) dL_law_596 ?_
  obtain ⟨z_2, hz_2⟩ : ∃ z : Int, z = (xs (i + 2).toNat).toInt := ⟨_, rfl⟩
  rw [← hz_2]
  have hrz_2 : -2147483648 ≤ z_2 ∧ z_2 ≤ 2147483647 := by rw [hz_2]; exact iN_rng _
  refine lv_aload_n hC.1 hC.2.1 dL_law_597 rfl (lv_at hl 0 rfl) ?_
  refine lv_iload hC.1 hC.2.1 dL_law_598 (lv_at hl 4 rfl) ?_
  refine x_const hC dL_law_600 ?_
  refine x_iadd hC dL_law_601 ?_
  refine x_sld hC hw hX hbl hbA (by omega) (by omega) (by omega) dL_law_602 ?_
  obtain ⟨z_3, hz_3⟩ : ∃ z : Int, z = (xs (i + 3).toNat).toInt := ⟨_, rfl⟩
  rw [← hz_3]
  have hrz_3 : -2147483648 ≤ z_3 ∧ z_3 ≤ 2147483647 := by rw [hz_3]; exact iN_rng _
  refine lv_aload_n hC.1 hC.2.1 dL_law_603 rfl (lv_at hl 3 rfl) ?_
  refine x_callSW hC hw (lv_size hl) ((c_L_merge l G hst hG hdA (p0 := z_1) (by omega) (p1 := z_2) (by omega) (p2 := z_3) (by omega)).frame hdB) gL_law_L_merge rfl dv_L_merge_s rfl (Nat.le_of_ble_eq_true rfl) (by rw [hRf]; decide) (by rw [hRl]; decide) (by omega) (by omega) dL_law_604 (fun r9 M1 H locs hq hw => ?_)
  obtain ⟨Ck_4, ⟨⟨zk_4, hrk_4⟩, Ak_4, dk_4, svk_4, hG, hCk_4, hdA⟩, hMk_4, hdB⟩ := hq
  subst hrk_4
  subst hCk_4
  subst hMk_4
  show W p l e R s m args below meth c H locs _ _ _ (F0 m 607 ls [.int (iN (zk_4))])
  refine lv_istore (lv' := [(5, .int (iN (zk_4))), (0, .ref b), (1, .ref h0), (2, .ref a), (3, .ref o), (4, .int (iN (i)))]) hC.1 hC.2.1 dL_law_607 hl (by decide) rfl (fun ls hl => ?_)
  refine lv_aload_n hC.1 hC.2.1 dL_law_609 rfl (lv_at hl 3 rfl) ?_
  refine lv_aload_n hC.1 hC.2.1 dL_law_610 rfl (lv_at hl 1 rfl) ?_
  refine lv_iload hC.1 hC.2.1 dL_law_611 (lv_at hl 5 rfl) ?_
  refine x_const hC dL_law_613 ?_
  refine x_iadd hC dL_law_614 ?_
  refine x_sld hC hw hX hbl hbA (by omega) (by omega) (by omega) dL_law_615 ?_
  obtain ⟨z_5, hz_5⟩ : ∃ z : Int, z = (xs (i + 1).toNat).toInt := ⟨_, rfl⟩
  rw [← hz_5]
  have hrz_5 : -2147483648 ≤ z_5 ∧ z_5 ≤ 2147483647 := by rw [hz_5]; exact iN_rng _
  refine lv_aload_n hC.1 hC.2.1 dL_law_616 rfl (lv_at hl 1 rfl) ?_
  refine lv_iload hC.1 hC.2.1 dL_law_617 (lv_at hl 5 rfl) ?_
  refine x_const hC dL_law_619 ?_
  refine x_iadd hC dL_law_620 ?_
  refine x_sld hC hw hX hbl hbA (by omega) (by omega) (by omega) dL_law_621 ?_
  obtain ⟨z_6, hz_6⟩ : ∃ z : Int, z = (xs (i + 2).toNat).toInt := ⟨_, rfl⟩
  rw [← hz_6]
  have hrz_6 : -2147483648 ≤ z_6 ∧ z_6 ≤ 2147483647 := by rw [hz_6]; exact iN_rng _
  refine lv_aload_n hC.1 hC.2.1 dL_law_622 rfl (lv_at hl 1 rfl) ?_
  refine lv_iload hC.1 hC.2.1 dL_law_623 (lv_at hl 5 rfl) ?_
  refine x_const hC dL_law_625 ?_
  refine x_iadd hC dL_law_626 ?_
  refine x_sld hC hw hX hbl hbA (by omega) (by omega) (by omega) dL_law_627 ?_
  obtain ⟨z_7, hz_7⟩ : ∃ z : Int, z = (xs (i + 3).toNat).toInt := ⟨_, rfl⟩
  rw [← hz_7]
  have hrz_7 : -2147483648 ≤ z_7 ∧ z_7 ≤ 2147483647 := by rw [hz_7]; exact iN_rng _
  rw [xU_comm hdB] at hw
  have hm := hm.add (z_6).toNat
  obtain ⟨va, oa, wa, ya, wk, th, br, re, la, ha, kp, kv, qv, qw, fa, fb, fvv, fw, fo, fy, hR⟩ := hm
  refine x_callV hC hw (lv_size hl) ((c_X5_merge l G hR (p0 := z_5) (by omega) (p1 := z_6) (by omega) (p2 := z_7) (by omega) (fun _ => by simp [sAdd])).frame hdB.symm) gL_law_X5_merge rfl dv_X5_merge (xU_l hR.1.1) rfl rfl (Nat.le_of_ble_eq_true rfl) (by rw [hRf]; decide) (by rw [hRl]; decide) (by omega) (by omega) dL_law_628 (fun r9 M1 H locs hq hw => ?_)
  obtain ⟨Bk_8, ⟨zk_8, hrk_8, hzk_8, hm⟩, hMk_8, hdB9⟩ := hq
  subst hrk_8
  subst hMk_8
  have hdB := hdB9.symm
  rw [xU_comm hdB9] at hw
  show W p l e R s m args below meth c H locs _ _ _ (F0 m 631 ls [.int (iN (zk_8))])
  refine lv_istore (lv' := [(6, .int (iN (zk_8))), (5, .int (iN (zk_4))), (0, .ref b), (1, .ref h0), (2, .ref a), (3, .ref o), (4, .int (iN (i)))]) hC.1 hC.2.1 dL_law_631 hl (by decide) rfl (fun ls hl => ?_)
  refine lv_goto (tgt := 2555) hC.1 hC.2.1 dL_law_633 (by decide) ?_
  refine W.widen (k := cu + 3) (n := su + (18)) (by omega) (by omega) ?_
  exact kk _ _ _ _ rf (sAdd S (z_6).toNat) hw ⟨_, _, _, _, rfl, hG, hm, hdA, hdB⟩ (lv_sub hl [2, 3, 4, 5, 6] rfl) (mC_add1 _ _)
set_option maxHeartbeats 8000000 in
set_option maxRecDepth 100000 in
theorem k_7 {p : Program} {l : Launch} {e : Env} {R : Room} {s : State} {m : MethodId} {args : Array Value} {below : List Frame} {meth : Method} {c : Code} {Q : State → Prop} {G : xG} {b L : Nat} {xs : Nat → Int32} {nm : String} (hst : l.stackTraces = false) (hRf : R.frames = 2048) {C9 S9 : Nat} (hRc : R.cells = C9) (hRs : R.slots = S9) (hC9 : 600000 ≤ C9) (hS9 : 7060000 ≤ S9) (hRl : R.locals = 84000) (hC : xB p s m args meth c cL_law 7 "RangeledgerLaw" nm wsL_law (some .boolean) G (xA (fun _ => none) s.heap.size)) (hX : va_X b L xs s s.heap) (hbl : b < s.heap.size) (hL : L ≤ 3072) {h0 a o : Nat} {rf : Int32} {S : Nat → Bool} {M : HM} {H : Heap} {locs : List Loc} {ls : Array Slot} {i : Int} {cu su : Nat} (hw : xD G (xA (fun _ => none) s.heap.size) s M H locs) (hS : LwS G M h0 a o rf S) (hl : lv_has ls 7 [(0, .ref b), (1, .ref h0), (2, .ref a), (3, .ref o), (4, .int (iN (i)))]) (hi : 0 ≤ i ∧ i + 6 ≤ L) (hcu : cu + 1000 ≤ C9) (hsu : su + 15590 ≤ S9) (kk : ∀ (M1 : HM) (H1 : Heap) (locs1 : List Loc) (ls1 : Array Slot) (rf1 : Int32) (S1 : Nat → Bool), xD G (xA (fun _ => none) s.heap.size) s M1 H1 locs1 → LwS G M1 h0 a o rf1 S1 → lv_has ls1 7 [(0, .ref b), (1, .ref h0), (2, .ref a), (3, .ref o), (4, .int (iN (i)))] → mC S1 100 ≤ mC S 100 + 1 → W p l e R s m args below meth c H1 locs1 (cu + 2) (su + (12)) Q (F0 m 2555 ls1 [])) : W p l e R s m args below meth c H locs cu su Q (F0 m 636 ls []) := by
  obtain ⟨A, B, d, sv, hM, hG, hm, hdA, hdB⟩ := hS
  subst hM
  have hbA : ¬ (xA (fun _ => none) s.heap.size) b := fun h9 => h9.elim (fun h8 => h8 rfl) (fun h8 => by omega)
  refine lv_aload_n hC.1 hC.2.1 dL_law_636 rfl (lv_at hl 1 rfl) ?_
  refine lv_aload_n hC.1 hC.2.1 dL_law_637 rfl (lv_at hl 0 rfl) ?_
  refine lv_iload hC.1 hC.2.1 dL_law_638 (lv_at hl 4 rfl) ?_
  refine x_const hC dL_law_640 ?_
  refine x_iadd hC dL_law_641 ?_
  refine x_sld hC hw hX hbl hbA (by omega) (by omega) (by omega) dL_law_642 ?_
  obtain ⟨z_1, hz_1⟩ : ∃ z : Int, z = (xs (i + 1).toNat).toInt := ⟨_, rfl⟩
  rw [← hz_1]
  have hrz_1 : -2147483648 ≤ z_1 ∧ z_1 ≤ 2147483647 := by rw [hz_1]; exact iN_rng _
  refine lv_aload_n hC.1 hC.2.1 dL_law_643 rfl (lv_at hl 0 rfl) ?_
  refine lv_iload hC.1 hC.2.1 dL_law_644 (lv_at hl 4 rfl) ?_
  refine x_const hC dL_law_646 ?_
  refine x_iadd hC dL_law_647 ?_
  refine x_sld hC hw hX hbl hbA (by omega) (by omega) (by omega) dL_law_648 ?_
  obtain ⟨z_2, hz_2⟩ : ∃ z : Int, z = (xs (i + 2).toNat).toInt := ⟨_, rfl⟩
  rw [← hz_2]
  have hrz_2 : -2147483648 ≤ z_2 ∧ z_2 ≤ 2147483647 := by rw [hz_2]; exact iN_rng _
  refine lv_aload_n hC.1 hC.2.1 dL_law_649 rfl (lv_at hl 3 rfl) ?_
  refine x_callSW hC hw (lv_size hl) ((c_L_grow l G hst hG hdA (p0 := z_1) (by omega) (p1 := z_2) (by omega)).frame hdB) gL_law_L_grow rfl dv_L_grow_s rfl (Nat.le_of_ble_eq_true rfl) (by rw [hRf]; decide) (by rw [hRl]; decide) (by omega) (by omega) dL_law_650 (fun r9 M1 H locs hq hw => ?_)
  obtain ⟨Ck_3, ⟨⟨zk_3, hrk_3⟩, Ak_3, dk_3, svk_3, hG, hCk_3, hdA⟩, hMk_3, hdB⟩ := hq
  subst hrk_3
  subst hCk_3
  subst hMk_3
  show W p l e R s m args below meth c H locs _ _ _ (F0 m 653 ls [.int (iN (zk_3))])
  refine lv_istore (lv' := [(5, .int (iN (zk_3))), (0, .ref b), (1, .ref h0), (2, .ref a), (3, .ref o), (4, .int (iN (i)))]) hC.1 hC.2.1 dL_law_653 hl (by decide) rfl (fun ls hl => ?_)
  refine lv_aload_n hC.1 hC.2.1 dL_law_655 rfl (lv_at hl 3 rfl) ?_
  refine lv_aload_n hC.1 hC.2.1 dL_law_656 rfl (lv_at hl 1 rfl) ?_
  refine lv_iload hC.1 hC.2.1 dL_law_657 (lv_at hl 5 rfl) ?_
  refine x_const hC dL_law_659 ?_
  refine x_iadd hC dL_law_660 ?_
  refine x_sld hC hw hX hbl hbA (by omega) (by omega) (by omega) dL_law_661 ?_
  obtain ⟨z_4, hz_4⟩ : ∃ z : Int, z = (xs (i + 1).toNat).toInt := ⟨_, rfl⟩
  rw [← hz_4]
  have hrz_4 : -2147483648 ≤ z_4 ∧ z_4 ≤ 2147483647 := by rw [hz_4]; exact iN_rng _
  refine lv_aload_n hC.1 hC.2.1 dL_law_662 rfl (lv_at hl 1 rfl) ?_
  refine lv_iload hC.1 hC.2.1 dL_law_663 (lv_at hl 5 rfl) ?_
  refine x_const hC dL_law_665 ?_
  refine x_iadd hC dL_law_666 ?_
  refine x_sld hC hw hX hbl hbA (by omega) (by omega) (by omega) dL_law_667 ?_
  obtain ⟨z_5, hz_5⟩ : ∃ z : Int, z = (xs (i + 2).toNat).toInt := ⟨_, rfl⟩
  rw [← hz_5]
  have hrz_5 : -2147483648 ≤ z_5 ∧ z_5 ≤ 2147483647 := by rw [hz_5]; exact iN_rng _
  rw [xU_comm hdB] at hw
  have hm := hm.add (z_5).toNat
  obtain ⟨va, oa, wa, ya, wk, th, br, re, la, ha, kp, kv, qv, qw, fa, fb, fvv, fw, fo, fy, hR⟩ := hm
  refine x_callV hC hw (lv_size hl) ((c_X5_grow l G hR (p0 := z_4) (by omega) (p1 := z_5) (by omega) (fun _ => by simp [sAdd])).frame hdB.symm) gL_law_X5_grow rfl dv_X5_grow (xU_l hR.1.1) rfl rfl (Nat.le_of_ble_eq_true rfl) (by rw [hRf]; decide) (by rw [hRl]; decide) (by omega) (by omega) dL_law_668 (fun r9 M1 H locs hq hw => ?_)
  obtain ⟨Bk_6, ⟨zk_6, hrk_6, hzk_6, hm⟩, hMk_6, hdB9⟩ := hq
  subst hrk_6
  subst hMk_6
  have hdB := hdB9.symm
  rw [xU_comm hdB9] at hw
  show W p l e R s m args below meth c H locs _ _ _ (F0 m 671 ls [.int (iN (zk_6))])
  refine lv_istore (lv' := [(6, .int (iN (zk_6))), (5, .int (iN (zk_3))), (0, .ref b), (1, .ref h0), (2, .ref a), (3, .ref o), (4, .int (iN (i)))]) hC.1 hC.2.1 dL_law_671 hl (by decide) rfl (fun ls hl => ?_)
  refine lv_goto (tgt := 2555) hC.1 hC.2.1 dL_law_673 (by decide) ?_
  refine W.widen (k := cu + 2) (n := su + (12)) (by omega) (by omega) ?_
  exact kk _ _ _ _ rf (sAdd S (z_5).toNat) hw ⟨_, _, _, _, rfl, hG, hm, hdA, hdB⟩ (lv_sub hl [2, 3, 4, 5, 6] rfl) (mC_add1 _ _)
set_option maxHeartbeats 8000000 in
set_option maxRecDepth 100000 in
theorem k_8 {p : Program} {l : Launch} {e : Env} {R : Room} {s : State} {m : MethodId} {args : Array Value} {below : List Frame} {meth : Method} {c : Code} {Q : State → Prop} {G : xG} {b L : Nat} {xs : Nat → Int32} {nm : String} (hst : l.stackTraces = false) (hRf : R.frames = 2048) {C9 S9 : Nat} (hRc : R.cells = C9) (hRs : R.slots = S9) (hC9 : 600000 ≤ C9) (hS9 : 7060000 ≤ S9) (hRl : R.locals = 84000) (hC : xB p s m args meth c cL_law 7 "RangeledgerLaw" nm wsL_law (some .boolean) G (xA (fun _ => none) s.heap.size)) (hX : va_X b L xs s s.heap) (hbl : b < s.heap.size) (hL : L ≤ 3072) {h0 a o : Nat} {rf : Int32} {S : Nat → Bool} {M : HM} {H : Heap} {locs : List Loc} {ls : Array Slot} {i : Int} {cu su : Nat} (hw : xD G (xA (fun _ => none) s.heap.size) s M H locs) (hS : LwS G M h0 a o rf S) (hl : lv_has ls 7 [(0, .ref b), (1, .ref h0), (2, .ref a), (3, .ref o), (4, .int (iN (i)))]) (hi : 0 ≤ i ∧ i + 6 ≤ L) (hcu : cu + 1000 ≤ C9) (hsu : su + 15590 ≤ S9) (kk : ∀ (M1 : HM) (H1 : Heap) (locs1 : List Loc) (ls1 : Array Slot) (rf1 : Int32) (S1 : Nat → Bool), xD G (xA (fun _ => none) s.heap.size) s M1 H1 locs1 → LwS G M1 h0 a o rf1 S1 → lv_has ls1 7 [(0, .ref b), (1, .ref h0), (2, .ref a), (3, .ref o), (4, .int (iN (i)))] → mC S1 100 ≤ mC S 100 + 0 → W p l e R s m args below meth c H1 locs1 (cu + 2) (su + (12)) Q (F0 m 2555 ls1 [])) : W p l e R s m args below meth c H locs cu su Q (F0 m 676 ls []) := by
  obtain ⟨A, B, d, sv, hM, hG, hm, hdA, hdB⟩ := hS
  subst hM
  have hbA : ¬ (xA (fun _ => none) s.heap.size) b := fun h9 => h9.elim (fun h8 => h8 rfl) (fun h8 => by omega)
  refine lv_aload_n hC.1 hC.2.1 dL_law_676 rfl (lv_at hl 1 rfl) ?_
  refine lv_aload_n hC.1 hC.2.1 dL_law_677 rfl (lv_at hl 0 rfl) ?_
  refine lv_iload hC.1 hC.2.1 dL_law_678 (lv_at hl 4 rfl) ?_
  refine x_const hC dL_law_680 ?_
  refine x_iadd hC dL_law_681 ?_
  refine x_sld hC hw hX hbl hbA (by omega) (by omega) (by omega) dL_law_682 ?_
  obtain ⟨z_1, hz_1⟩ : ∃ z : Int, z = (xs (i + 1).toNat).toInt := ⟨_, rfl⟩
  rw [← hz_1]
  have hrz_1 : -2147483648 ≤ z_1 ∧ z_1 ≤ 2147483647 := by rw [hz_1]; exact iN_rng _
  refine lv_aload_n hC.1 hC.2.1 dL_law_683 rfl (lv_at hl 0 rfl) ?_
  refine lv_iload hC.1 hC.2.1 dL_law_684 (lv_at hl 4 rfl) ?_
  refine x_const hC dL_law_686 ?_
  refine x_iadd hC dL_law_687 ?_
  refine x_sld hC hw hX hbl hbA (by omega) (by omega) (by omega) dL_law_688 ?_
  obtain ⟨z_2, hz_2⟩ : ∃ z : Int, z = (xs (i + 2).toNat).toInt := ⟨_, rfl⟩
  rw [← hz_2]
  have hrz_2 : -2147483648 ≤ z_2 ∧ z_2 ≤ 2147483647 := by rw [hz_2]; exact iN_rng _
  refine lv_aload_n hC.1 hC.2.1 dL_law_689 rfl (lv_at hl 3 rfl) ?_
  refine x_callSW hC hw (lv_size hl) ((c_L_halve l G hst hG hdA (p0 := z_1) (by omega) (p1 := z_2) (by omega)).frame hdB) gL_law_L_halve rfl dv_L_halve_s rfl (Nat.le_of_ble_eq_true rfl) (by rw [hRf]; decide) (by rw [hRl]; decide) (by omega) (by omega) dL_law_690 (fun r9 M1 H locs hq hw => ?_)
  obtain ⟨Ck_3, ⟨⟨zk_3, hrk_3⟩, Ak_3, dk_3, svk_3, hG, hCk_3, hdA⟩, hMk_3, hdB⟩ := hq
  subst hrk_3
  subst hCk_3
  subst hMk_3
  show W p l e R s m args below meth c H locs _ _ _ (F0 m 693 ls [.int (iN (zk_3))])
  refine lv_istore (lv' := [(5, .int (iN (zk_3))), (0, .ref b), (1, .ref h0), (2, .ref a), (3, .ref o), (4, .int (iN (i)))]) hC.1 hC.2.1 dL_law_693 hl (by decide) rfl (fun ls hl => ?_)
  refine lv_aload_n hC.1 hC.2.1 dL_law_695 rfl (lv_at hl 3 rfl) ?_
  refine lv_aload_n hC.1 hC.2.1 dL_law_696 rfl (lv_at hl 1 rfl) ?_
  refine lv_iload hC.1 hC.2.1 dL_law_697 (lv_at hl 5 rfl) ?_
  refine x_const hC dL_law_699 ?_
  refine x_iadd hC dL_law_700 ?_
  refine x_sld hC hw hX hbl hbA (by omega) (by omega) (by omega) dL_law_701 ?_
  obtain ⟨z_4, hz_4⟩ : ∃ z : Int, z = (xs (i + 1).toNat).toInt := ⟨_, rfl⟩
  rw [← hz_4]
  have hrz_4 : -2147483648 ≤ z_4 ∧ z_4 ≤ 2147483647 := by rw [hz_4]; exact iN_rng _
  refine lv_aload_n hC.1 hC.2.1 dL_law_702 rfl (lv_at hl 1 rfl) ?_
  refine lv_iload hC.1 hC.2.1 dL_law_703 (lv_at hl 5 rfl) ?_
  refine x_const hC dL_law_705 ?_
  refine x_iadd hC dL_law_706 ?_
  refine x_sld hC hw hX hbl hbA (by omega) (by omega) (by omega) dL_law_707 ?_
  obtain ⟨z_5, hz_5⟩ : ∃ z : Int, z = (xs (i + 2).toNat).toInt := ⟨_, rfl⟩
  rw [← hz_5]
  have hrz_5 : -2147483648 ≤ z_5 ∧ z_5 ≤ 2147483647 := by rw [hz_5]; exact iN_rng _
  rw [xU_comm hdB] at hw
  obtain ⟨va, oa, wa, ya, wk, th, br, re, la, ha, kp, kv, qv, qw, fa, fb, fvv, fw, fo, fy, hR⟩ := hm
  refine x_callV hC hw (lv_size hl) ((c_X5_halve l G hR (p0 := z_4) (by omega) (p1 := z_5) (by omega)).frame hdB.symm) gL_law_X5_halve rfl dv_X5_halve (xU_l hR.1.1) rfl rfl (Nat.le_of_ble_eq_true rfl) (by rw [hRf]; decide) (by rw [hRl]; decide) (by omega) (by omega) dL_law_708 (fun r9 M1 H locs hq hw => ?_)
  obtain ⟨Bk_6, ⟨zk_6, hrk_6, hzk_6, hm⟩, hMk_6, hdB9⟩ := hq
  subst hrk_6
  subst hMk_6
  have hdB := hdB9.symm
  rw [xU_comm hdB9] at hw
  show W p l e R s m args below meth c H locs _ _ _ (F0 m 711 ls [.int (iN (zk_6))])
  refine lv_istore (lv' := [(6, .int (iN (zk_6))), (5, .int (iN (zk_3))), (0, .ref b), (1, .ref h0), (2, .ref a), (3, .ref o), (4, .int (iN (i)))]) hC.1 hC.2.1 dL_law_711 hl (by decide) rfl (fun ls hl => ?_)
  refine lv_goto (tgt := 2555) hC.1 hC.2.1 dL_law_713 (by decide) ?_
  refine W.widen (k := cu + 2) (n := su + (12)) (by omega) (by omega) ?_
  exact kk _ _ _ _ rf S hw ⟨_, _, _, _, rfl, hG, hm, hdA, hdB⟩ (lv_sub hl [2, 3, 4, 5, 6] rfl) (Nat.le_refl _)
set_option maxHeartbeats 8000000 in
set_option maxRecDepth 100000 in
theorem k_9 {p : Program} {l : Launch} {e : Env} {R : Room} {s : State} {m : MethodId} {args : Array Value} {below : List Frame} {meth : Method} {c : Code} {Q : State → Prop} {G : xG} {b L : Nat} {xs : Nat → Int32} {nm : String} (hst : l.stackTraces = false) (hRf : R.frames = 2048) {C9 S9 : Nat} (hRc : R.cells = C9) (hRs : R.slots = S9) (hC9 : 600000 ≤ C9) (hS9 : 7060000 ≤ S9) (hRl : R.locals = 84000) (hC : xB p s m args meth c cL_law 7 "RangeledgerLaw" nm wsL_law (some .boolean) G (xA (fun _ => none) s.heap.size)) (hX : va_X b L xs s s.heap) (hbl : b < s.heap.size) (hL : L ≤ 3072) {h0 a o : Nat} {rf : Int32} {S : Nat → Bool} {M : HM} {H : Heap} {locs : List Loc} {ls : Array Slot} {i : Int} {cu su : Nat} (hw : xD G (xA (fun _ => none) s.heap.size) s M H locs) (hS : LwS G M h0 a o rf S) (hl : lv_has ls 7 [(0, .ref b), (1, .ref h0), (2, .ref a), (3, .ref o), (4, .int (iN (i)))]) (hi : 0 ≤ i ∧ i + 6 ≤ L) (hcu : cu + 1000 ≤ C9) (hsu : su + 15590 ≤ S9) (kk : ∀ (M1 : HM) (H1 : Heap) (locs1 : List Loc) (ls1 : Array Slot) (rf1 : Int32) (S1 : Nat → Bool), xD G (xA (fun _ => none) s.heap.size) s M1 H1 locs1 → LwS G M1 h0 a o rf1 S1 → lv_has ls1 7 [(0, .ref b), (1, .ref h0), (2, .ref a), (3, .ref o), (4, .int (iN (i)))] → mC S1 100 ≤ mC S 100 + 1 → W p l e R s m args below meth c H1 locs1 (cu + 2) (su + (12)) Q (F0 m 2555 ls1 [])) : W p l e R s m args below meth c H locs cu su Q (F0 m 716 ls []) := by
  obtain ⟨A, B, d, sv, hM, hG, hm, hdA, hdB⟩ := hS
  subst hM
  have hbA : ¬ (xA (fun _ => none) s.heap.size) b := fun h9 => h9.elim (fun h8 => h8 rfl) (fun h8 => by omega)
  refine lv_aload_n hC.1 hC.2.1 dL_law_716 rfl (lv_at hl 1 rfl) ?_
  refine lv_aload_n hC.1 hC.2.1 dL_law_717 rfl (lv_at hl 0 rfl) ?_
  refine lv_iload hC.1 hC.2.1 dL_law_718 (lv_at hl 4 rfl) ?_
  refine x_const hC dL_law_720 ?_
  refine x_iadd hC dL_law_721 ?_
  refine x_sld hC hw hX hbl hbA (by omega) (by omega) (by omega) dL_law_722 ?_
  obtain ⟨z_1, hz_1⟩ : ∃ z : Int, z = (xs (i + 1).toNat).toInt := ⟨_, rfl⟩
  rw [← hz_1]
  have hrz_1 : -2147483648 ≤ z_1 ∧ z_1 ≤ 2147483647 := by rw [hz_1]; exact iN_rng _
  refine lv_aload_n hC.1 hC.2.1 dL_law_723 rfl (lv_at hl 0 rfl) ?_
  refine lv_iload hC.1 hC.2.1 dL_law_724 (lv_at hl 4 rfl) ?_
  refine x_const hC dL_law_726 ?_
  refine x_iadd hC dL_law_727 ?_
  refine x_sld hC hw hX hbl hbA (by omega) (by omega) (by omega) dL_law_728 ?_
  obtain ⟨z_2, hz_2⟩ : ∃ z : Int, z = (xs (i + 2).toNat).toInt := ⟨_, rfl⟩
  rw [← hz_2]
  have hrz_2 : -2147483648 ≤ z_2 ∧ z_2 ≤ 2147483647 := by rw [hz_2]; exact iN_rng _
  refine lv_aload_n hC.1 hC.2.1 dL_law_729 rfl (lv_at hl 3 rfl) ?_
  refine x_callSW hC hw (lv_size hl) ((c_L_twice l G hst hG hdA (p0 := z_1) (by omega) (p1 := z_2) (by omega)).frame hdB) gL_law_L_twice rfl dv_L_twice_s rfl (Nat.le_of_ble_eq_true rfl) (by rw [hRf]; decide) (by rw [hRl]; decide) (by omega) (by omega) dL_law_730 (fun r9 M1 H locs hq hw => ?_)
  obtain ⟨Ck_3, ⟨⟨zk_3, hrk_3⟩, Ak_3, dk_3, svk_3, hG, hCk_3, hdA⟩, hMk_3, hdB⟩ := hq
  subst hrk_3
  subst hCk_3
  subst hMk_3
  show W p l e R s m args below meth c H locs _ _ _ (F0 m 733 ls [.int (iN (zk_3))])
  refine lv_istore (lv' := [(5, .int (iN (zk_3))), (0, .ref b), (1, .ref h0), (2, .ref a), (3, .ref o), (4, .int (iN (i)))]) hC.1 hC.2.1 dL_law_733 hl (by decide) rfl (fun ls hl => ?_)
  refine lv_aload_n hC.1 hC.2.1 dL_law_735 rfl (lv_at hl 3 rfl) ?_
  refine lv_aload_n hC.1 hC.2.1 dL_law_736 rfl (lv_at hl 1 rfl) ?_
  refine lv_iload hC.1 hC.2.1 dL_law_737 (lv_at hl 5 rfl) ?_
  refine x_const hC dL_law_739 ?_
  refine x_iadd hC dL_law_740 ?_
  refine x_sld hC hw hX hbl hbA (by omega) (by omega) (by omega) dL_law_741 ?_
  obtain ⟨z_4, hz_4⟩ : ∃ z : Int, z = (xs (i + 1).toNat).toInt := ⟨_, rfl⟩
  rw [← hz_4]
  have hrz_4 : -2147483648 ≤ z_4 ∧ z_4 ≤ 2147483647 := by rw [hz_4]; exact iN_rng _
  refine lv_aload_n hC.1 hC.2.1 dL_law_742 rfl (lv_at hl 1 rfl) ?_
  refine lv_iload hC.1 hC.2.1 dL_law_743 (lv_at hl 5 rfl) ?_
  refine x_const hC dL_law_745 ?_
  refine x_iadd hC dL_law_746 ?_
  refine x_sld hC hw hX hbl hbA (by omega) (by omega) (by omega) dL_law_747 ?_
  obtain ⟨z_5, hz_5⟩ : ∃ z : Int, z = (xs (i + 2).toNat).toInt := ⟨_, rfl⟩
  rw [← hz_5]
  have hrz_5 : -2147483648 ≤ z_5 ∧ z_5 ≤ 2147483647 := by rw [hz_5]; exact iN_rng _
  rw [xU_comm hdB] at hw
  have hm := hm.add (z_5).toNat
  obtain ⟨va, oa, wa, ya, wk, th, br, re, la, ha, kp, kv, qv, qw, fa, fb, fvv, fw, fo, fy, hR⟩ := hm
  refine x_callV hC hw (lv_size hl) ((c_X5_twice l G hR (p0 := z_4) (by omega) (p1 := z_5) (by omega) (fun _ => by simp [sAdd])).frame hdB.symm) gL_law_X5_twice rfl dv_X5_twice (xU_l hR.1.1) rfl rfl (Nat.le_of_ble_eq_true rfl) (by rw [hRf]; decide) (by rw [hRl]; decide) (by omega) (by omega) dL_law_748 (fun r9 M1 H locs hq hw => ?_)
  obtain ⟨Bk_6, ⟨zk_6, hrk_6, hzk_6, hm⟩, hMk_6, hdB9⟩ := hq
  subst hrk_6
  subst hMk_6
  have hdB := hdB9.symm
  rw [xU_comm hdB9] at hw
  show W p l e R s m args below meth c H locs _ _ _ (F0 m 751 ls [.int (iN (zk_6))])
  refine lv_istore (lv' := [(6, .int (iN (zk_6))), (5, .int (iN (zk_3))), (0, .ref b), (1, .ref h0), (2, .ref a), (3, .ref o), (4, .int (iN (i)))]) hC.1 hC.2.1 dL_law_751 hl (by decide) rfl (fun ls hl => ?_)
  refine lv_goto (tgt := 2555) hC.1 hC.2.1 dL_law_753 (by decide) ?_
  refine W.widen (k := cu + 2) (n := su + (12)) (by omega) (by omega) ?_
  exact kk _ _ _ _ rf (sAdd S (z_5).toNat) hw ⟨_, _, _, _, rfl, hG, hm, hdA, hdB⟩ (lv_sub hl [2, 3, 4, 5, 6] rfl) (mC_add1 _ _)
set_option maxHeartbeats 8000000 in
set_option maxRecDepth 100000 in
theorem k_10 {p : Program} {l : Launch} {e : Env} {R : Room} {s : State} {m : MethodId} {args : Array Value} {below : List Frame} {meth : Method} {c : Code} {Q : State → Prop} {G : xG} {b L : Nat} {xs : Nat → Int32} {nm : String} (hst : l.stackTraces = false) (hRf : R.frames = 2048) {C9 S9 : Nat} (hRc : R.cells = C9) (hRs : R.slots = S9) (hC9 : 600000 ≤ C9) (hS9 : 7060000 ≤ S9) (hRl : R.locals = 84000) (hC : xB p s m args meth c cL_law 7 "RangeledgerLaw" nm wsL_law (some .boolean) G (xA (fun _ => none) s.heap.size)) (hX : va_X b L xs s s.heap) (hbl : b < s.heap.size) (hL : L ≤ 3072) {h0 a o : Nat} {rf : Int32} {S : Nat → Bool} {M : HM} {H : Heap} {locs : List Loc} {ls : Array Slot} {i : Int} {cu su : Nat} (hw : xD G (xA (fun _ => none) s.heap.size) s M H locs) (hS : LwS G M h0 a o rf S) (hl : lv_has ls 7 [(0, .ref b), (1, .ref h0), (2, .ref a), (3, .ref o), (4, .int (iN (i)))]) (hi : 0 ≤ i ∧ i + 6 ≤ L) (hcu : cu + 1000 ≤ C9) (hsu : su + 15590 ≤ S9) (kk : ∀ (M1 : HM) (H1 : Heap) (locs1 : List Loc) (ls1 : Array Slot) (rf1 : Int32) (S1 : Nat → Bool), xD G (xA (fun _ => none) s.heap.size) s M1 H1 locs1 → LwS G M1 h0 a o rf1 S1 → lv_has ls1 7 [(0, .ref b), (1, .ref h0), (2, .ref a), (3, .ref o), (4, .int (iN (i)))] → mC S1 100 ≤ mC S 100 + 0 → W p l e R s m args below meth c H1 locs1 (cu + 2) (su + (11)) Q (F0 m 2555 ls1 [])) : W p l e R s m args below meth c H locs cu su Q (F0 m 756 ls []) := by
  obtain ⟨A, B, d, sv, hM, hG, hm, hdA, hdB⟩ := hS
  subst hM
  have hbA : ¬ (xA (fun _ => none) s.heap.size) b := fun h9 => h9.elim (fun h8 => h8 rfl) (fun h8 => by omega)
  refine lv_aload_n hC.1 hC.2.1 dL_law_756 rfl (lv_at hl 1 rfl) ?_
  refine lv_aload_n hC.1 hC.2.1 dL_law_757 rfl (lv_at hl 0 rfl) ?_
  refine lv_iload hC.1 hC.2.1 dL_law_758 (lv_at hl 4 rfl) ?_
  refine x_const hC dL_law_760 ?_
  refine x_iadd hC dL_law_761 ?_
  refine x_sld hC hw hX hbl hbA (by omega) (by omega) (by omega) dL_law_762 ?_
  obtain ⟨z_1, hz_1⟩ : ∃ z : Int, z = (xs (i + 1).toNat).toInt := ⟨_, rfl⟩
  rw [← hz_1]
  have hrz_1 : -2147483648 ≤ z_1 ∧ z_1 ≤ 2147483647 := by rw [hz_1]; exact iN_rng _
  refine lv_aload_n hC.1 hC.2.1 dL_law_763 rfl (lv_at hl 0 rfl) ?_
  refine lv_iload hC.1 hC.2.1 dL_law_764 (lv_at hl 4 rfl) ?_
  refine x_const hC dL_law_766 ?_
  refine x_iadd hC dL_law_767 ?_
  refine x_sld hC hw hX hbl hbA (by omega) (by omega) (by omega) dL_law_768 ?_
  obtain ⟨z_2, hz_2⟩ : ∃ z : Int, z = (xs (i + 2).toNat).toInt := ⟨_, rfl⟩
  rw [← hz_2]
  have hrz_2 : -2147483648 ≤ z_2 ∧ z_2 ≤ 2147483647 := by rw [hz_2]; exact iN_rng _
  refine x_if_eq (tgt := 776) hC ⟨by omega, by omega⟩ dL_law_769 (by decide) (fun c_3 => ?_) (fun c_3 => ?_)
  · refine x_const hC dL_law_776 ?_
    refine lv_aload_n hC.1 hC.2.1 dL_law_777 rfl (lv_at hl 3 rfl) ?_
    refine x_callSW hC hw (lv_size hl) ((c_L_poll l G hst hG hdA (p0 := z_1) (by omega) (p1 := 0) (by omega) (by omega)).frame hdB) gL_law_L_poll rfl dv_L_poll_s rfl (Nat.le_of_ble_eq_true rfl) (by rw [hRf]; decide) (by rw [hRl]; decide) (by omega) (by omega) dL_law_778 (fun r9 M1 H locs hq hw => ?_)
    obtain ⟨Ck_4, ⟨⟨zk_4, hrk_4⟩, Ak_4, dk_4, svk_4, hG, hCk_4, hdA⟩, hMk_4, hdB⟩ := hq
    subst hrk_4
    subst hCk_4
    subst hMk_4
    show W p l e R s m args below meth c H locs _ _ _ (F0 m 781 ls [.int (iN (zk_4))])
    refine lv_istore (lv' := [(5, .int (iN (zk_4))), (0, .ref b), (1, .ref h0), (2, .ref a), (3, .ref o), (4, .int (iN (i)))]) hC.1 hC.2.1 dL_law_781 hl (by decide) rfl (fun ls hl => ?_)
    refine lv_aload_n hC.1 hC.2.1 dL_law_783 rfl (lv_at hl 3 rfl) ?_
    refine lv_aload_n hC.1 hC.2.1 dL_law_784 rfl (lv_at hl 1 rfl) ?_
    refine lv_iload hC.1 hC.2.1 dL_law_785 (lv_at hl 5 rfl) ?_
    refine x_const hC dL_law_787 ?_
    refine x_iadd hC dL_law_788 ?_
    refine x_sld hC hw hX hbl hbA (by omega) (by omega) (by omega) dL_law_789 ?_
    obtain ⟨z_5, hz_5⟩ : ∃ z : Int, z = (xs (i + 1).toNat).toInt := ⟨_, rfl⟩
    rw [← hz_5]
    have hrz_5 : -2147483648 ≤ z_5 ∧ z_5 ≤ 2147483647 := by rw [hz_5]; exact iN_rng _
    refine lv_aload_n hC.1 hC.2.1 dL_law_790 rfl (lv_at hl 1 rfl) ?_
    refine lv_iload hC.1 hC.2.1 dL_law_791 (lv_at hl 5 rfl) ?_
    refine x_const hC dL_law_793 ?_
    refine x_iadd hC dL_law_794 ?_
    refine x_sld hC hw hX hbl hbA (by omega) (by omega) (by omega) dL_law_795 ?_
    obtain ⟨z_6, hz_6⟩ : ∃ z : Int, z = (xs (i + 2).toNat).toInt := ⟨_, rfl⟩
    rw [← hz_6]
    have hrz_6 : -2147483648 ≤ z_6 ∧ z_6 ≤ 2147483647 := by rw [hz_6]; exact iN_rng _
    refine x_if_eq (tgt := 803) hC ⟨by omega, by omega⟩ dL_law_796 (by decide) (fun c_7 => ?_) (fun c_7 => ?_)
    · refine x_const hC dL_law_803 ?_
      rw [xU_comm hdB] at hw
      obtain ⟨va, oa, wa, ya, wk, th, br, re, la, ha, kp, kv, qv, qw, fa, fb, fvv, fw, fo, fy, hR⟩ := hm
      refine x_callV hC hw (lv_size hl) ((c_X5_poll l G hR (p0 := z_5) (by omega) (p1 := 0) (by omega)).frame hdB.symm) gL_law_X5_poll rfl dv_X5_poll (xU_l hR.1.1) rfl rfl (Nat.le_of_ble_eq_true rfl) (by rw [hRf]; decide) (by rw [hRl]; decide) (by omega) (by omega) dL_law_804 (fun r9 M1 H locs hq hw => ?_)
      obtain ⟨Bk_8, ⟨zk_8, hrk_8, hzk_8, hm⟩, hMk_8, hdB9⟩ := hq
      subst hrk_8
      subst hMk_8
      have hdB := hdB9.symm
      rw [xU_comm hdB9] at hw
      show W p l e R s m args below meth c H locs _ _ _ (F0 m 807 ls [.int (iN (zk_8))])
      refine lv_istore (lv' := [(6, .int (iN (zk_8))), (5, .int (iN (zk_4))), (0, .ref b), (1, .ref h0), (2, .ref a), (3, .ref o), (4, .int (iN (i)))]) hC.1 hC.2.1 dL_law_807 hl (by decide) rfl (fun ls hl => ?_)
      refine lv_goto (tgt := 2555) hC.1 hC.2.1 dL_law_809 (by decide) ?_
      refine W.widen (k := cu + 2) (n := su + (11)) (by omega) (by omega) ?_
      exact kk _ _ _ _ rf S hw ⟨_, _, _, _, rfl, hG, hm, hdA, hdB⟩ (lv_sub hl [2, 3, 4, 5, 6] rfl) (Nat.le_refl _)
    · refine x_const hC dL_law_799 ?_
      refine lv_goto (tgt := 804) hC.1 hC.2.1 dL_law_800 (by decide) ?_
      rw [xU_comm hdB] at hw
      obtain ⟨va, oa, wa, ya, wk, th, br, re, la, ha, kp, kv, qv, qw, fa, fb, fvv, fw, fo, fy, hR⟩ := hm
      refine x_callV hC hw (lv_size hl) ((c_X5_poll l G hR (p0 := z_5) (by omega) (p1 := 1) (by omega)).frame hdB.symm) gL_law_X5_poll rfl dv_X5_poll (xU_l hR.1.1) rfl rfl (Nat.le_of_ble_eq_true rfl) (by rw [hRf]; decide) (by rw [hRl]; decide) (by omega) (by omega) dL_law_804 (fun r9 M1 H locs hq hw => ?_)
      obtain ⟨Bk_9, ⟨zk_9, hrk_9, hzk_9, hm⟩, hMk_9, hdB9⟩ := hq
      subst hrk_9
      subst hMk_9
      have hdB := hdB9.symm
      rw [xU_comm hdB9] at hw
      show W p l e R s m args below meth c H locs _ _ _ (F0 m 807 ls [.int (iN (zk_9))])
      refine lv_istore (lv' := [(6, .int (iN (zk_9))), (5, .int (iN (zk_4))), (0, .ref b), (1, .ref h0), (2, .ref a), (3, .ref o), (4, .int (iN (i)))]) hC.1 hC.2.1 dL_law_807 hl (by decide) rfl (fun ls hl => ?_)
      refine lv_goto (tgt := 2555) hC.1 hC.2.1 dL_law_809 (by decide) ?_
      refine W.widen (k := cu + 2) (n := su + (11)) (by omega) (by omega) ?_
      exact kk _ _ _ _ rf S hw ⟨_, _, _, _, rfl, hG, hm, hdA, hdB⟩ (lv_sub hl [2, 3, 4, 5, 6] rfl) (Nat.le_refl _)
  · refine x_const hC dL_law_772 ?_
    refine lv_goto (tgt := 777) hC.1 hC.2.1 dL_law_773 (by decide) ?_
    refine lv_aload_n hC.1 hC.2.1 dL_law_777 rfl (lv_at hl 3 rfl) ?_
    refine x_callSW hC hw (lv_size hl) ((c_L_poll l G hst hG hdA (p0 := z_1) (by omega) (p1 := 1) (by omega) (by omega)).frame hdB) gL_law_L_poll rfl dv_L_poll_s rfl (Nat.le_of_ble_eq_true rfl) (by rw [hRf]; decide) (by rw [hRl]; decide) (by omega) (by omega) dL_law_778 (fun r9 M1 H locs hq hw => ?_)
    obtain ⟨Ck_10, ⟨⟨zk_10, hrk_10⟩, Ak_10, dk_10, svk_10, hG, hCk_10, hdA⟩, hMk_10, hdB⟩ := hq
    subst hrk_10
    subst hCk_10
    subst hMk_10
    show W p l e R s m args below meth c H locs _ _ _ (F0 m 781 ls [.int (iN (zk_10))])
    refine lv_istore (lv' := [(5, .int (iN (zk_10))), (0, .ref b), (1, .ref h0), (2, .ref a), (3, .ref o), (4, .int (iN (i)))]) hC.1 hC.2.1 dL_law_781 hl (by decide) rfl (fun ls hl => ?_)
    refine lv_aload_n hC.1 hC.2.1 dL_law_783 rfl (lv_at hl 3 rfl) ?_
    refine lv_aload_n hC.1 hC.2.1 dL_law_784 rfl (lv_at hl 1 rfl) ?_
    refine lv_iload hC.1 hC.2.1 dL_law_785 (lv_at hl 5 rfl) ?_
    refine x_const hC dL_law_787 ?_
    refine x_iadd hC dL_law_788 ?_
    refine x_sld hC hw hX hbl hbA (by omega) (by omega) (by omega) dL_law_789 ?_
    obtain ⟨z_11, hz_11⟩ : ∃ z : Int, z = (xs (i + 1).toNat).toInt := ⟨_, rfl⟩
    rw [← hz_11]
    have hrz_11 : -2147483648 ≤ z_11 ∧ z_11 ≤ 2147483647 := by rw [hz_11]; exact iN_rng _
    refine lv_aload_n hC.1 hC.2.1 dL_law_790 rfl (lv_at hl 1 rfl) ?_
    refine lv_iload hC.1 hC.2.1 dL_law_791 (lv_at hl 5 rfl) ?_
    refine x_const hC dL_law_793 ?_
    refine x_iadd hC dL_law_794 ?_
    refine x_sld hC hw hX hbl hbA (by omega) (by omega) (by omega) dL_law_795 ?_
    obtain ⟨z_12, hz_12⟩ : ∃ z : Int, z = (xs (i + 2).toNat).toInt := ⟨_, rfl⟩
    rw [← hz_12]
    have hrz_12 : -2147483648 ≤ z_12 ∧ z_12 ≤ 2147483647 := by rw [hz_12]; exact iN_rng _
    refine x_if_eq (tgt := 803) hC ⟨by omega, by omega⟩ dL_law_796 (by decide) (fun c_13 => ?_) (fun c_13 => ?_)
    · refine x_const hC dL_law_803 ?_
      rw [xU_comm hdB] at hw
      obtain ⟨va, oa, wa, ya, wk, th, br, re, la, ha, kp, kv, qv, qw, fa, fb, fvv, fw, fo, fy, hR⟩ := hm
      refine x_callV hC hw (lv_size hl) ((c_X5_poll l G hR (p0 := z_11) (by omega) (p1 := 0) (by omega)).frame hdB.symm) gL_law_X5_poll rfl dv_X5_poll (xU_l hR.1.1) rfl rfl (Nat.le_of_ble_eq_true rfl) (by rw [hRf]; decide) (by rw [hRl]; decide) (by omega) (by omega) dL_law_804 (fun r9 M1 H locs hq hw => ?_)
      obtain ⟨Bk_14, ⟨zk_14, hrk_14, hzk_14, hm⟩, hMk_14, hdB9⟩ := hq
      subst hrk_14
      subst hMk_14
      have hdB := hdB9.symm
      rw [xU_comm hdB9] at hw
      show W p l e R s m args below meth c H locs _ _ _ (F0 m 807 ls [.int (iN (zk_14))])
      refine lv_istore (lv' := [(6, .int (iN (zk_14))), (5, .int (iN (zk_10))), (0, .ref b), (1, .ref h0), (2, .ref a), (3, .ref o), (4, .int (iN (i)))]) hC.1 hC.2.1 dL_law_807 hl (by decide) rfl (fun ls hl => ?_)
      refine lv_goto (tgt := 2555) hC.1 hC.2.1 dL_law_809 (by decide) ?_
      refine W.widen (k := cu + 2) (n := su + (11)) (by omega) (by omega) ?_
      exact kk _ _ _ _ rf S hw ⟨_, _, _, _, rfl, hG, hm, hdA, hdB⟩ (lv_sub hl [2, 3, 4, 5, 6] rfl) (Nat.le_refl _)
    · refine x_const hC dL_law_799 ?_
      refine lv_goto (tgt := 804) hC.1 hC.2.1 dL_law_800 (by decide) ?_
      rw [xU_comm hdB] at hw
      obtain ⟨va, oa, wa, ya, wk, th, br, re, la, ha, kp, kv, qv, qw, fa, fb, fvv, fw, fo, fy, hR⟩ := hm
      refine x_callV hC hw (lv_size hl) ((c_X5_poll l G hR (p0 := z_11) (by omega) (p1 := 1) (by omega)).frame hdB.symm) gL_law_X5_poll rfl dv_X5_poll (xU_l hR.1.1) rfl rfl (Nat.le_of_ble_eq_true rfl) (by rw [hRf]; decide) (by rw [hRl]; decide) (by omega) (by omega) dL_law_804 (fun r9 M1 H locs hq hw => ?_)
      obtain ⟨Bk_15, ⟨zk_15, hrk_15, hzk_15, hm⟩, hMk_15, hdB9⟩ := hq
      subst hrk_15
      subst hMk_15
      have hdB := hdB9.symm
      rw [xU_comm hdB9] at hw
      show W p l e R s m args below meth c H locs _ _ _ (F0 m 807 ls [.int (iN (zk_15))])
      refine lv_istore (lv' := [(6, .int (iN (zk_15))), (5, .int (iN (zk_10))), (0, .ref b), (1, .ref h0), (2, .ref a), (3, .ref o), (4, .int (iN (i)))]) hC.1 hC.2.1 dL_law_807 hl (by decide) rfl (fun ls hl => ?_)
      refine lv_goto (tgt := 2555) hC.1 hC.2.1 dL_law_809 (by decide) ?_
      refine W.widen (k := cu + 2) (n := su + (11)) (by omega) (by omega) ?_
      exact kk _ _ _ _ rf S hw ⟨_, _, _, _, rfl, hG, hm, hdA, hdB⟩ (lv_sub hl [2, 3, 4, 5, 6] rfl) (Nat.le_refl _)
set_option maxHeartbeats 8000000 in
set_option maxRecDepth 100000 in
theorem k_11 {p : Program} {l : Launch} {e : Env} {R : Room} {s : State} {m : MethodId} {args : Array Value} {below : List Frame} {meth : Method} {c : Code} {Q : State → Prop} {G : xG} {b L : Nat} {xs : Nat → Int32} {nm : String} (hst : l.stackTraces = false) (hRf : R.frames = 2048) {C9 S9 : Nat} (hRc : R.cells = C9) (hRs : R.slots = S9) (hC9 : 600000 ≤ C9) (hS9 : 7060000 ≤ S9) (hRl : R.locals = 84000) (hC : xB p s m args meth c cL_law 7 "RangeledgerLaw" nm wsL_law (some .boolean) G (xA (fun _ => none) s.heap.size)) (hX : va_X b L xs s s.heap) (hbl : b < s.heap.size) (hL : L ≤ 3072) {h0 a o : Nat} {rf : Int32} {S : Nat → Bool} {M : HM} {H : Heap} {locs : List Loc} {ls : Array Slot} {i : Int} {cu su : Nat} (hw : xD G (xA (fun _ => none) s.heap.size) s M H locs) (hS : LwS G M h0 a o rf S) (hl : lv_has ls 7 [(0, .ref b), (1, .ref h0), (2, .ref a), (3, .ref o), (4, .int (iN (i)))]) (hi : 0 ≤ i ∧ i + 6 ≤ L) (hcu : cu + 1000 ≤ C9) (hsu : su + 15590 ≤ S9) (kk : ∀ (M1 : HM) (H1 : Heap) (locs1 : List Loc) (ls1 : Array Slot) (rf1 : Int32) (S1 : Nat → Bool), xD G (xA (fun _ => none) s.heap.size) s M1 H1 locs1 → LwS G M1 h0 a o rf1 S1 → lv_has ls1 7 [(0, .ref b), (1, .ref h0), (2, .ref a), (3, .ref o), (4, .int (iN (i)))] → mC S1 100 ≤ mC S 100 + 0 → W p l e R s m args below meth c H1 locs1 (cu + 2) (su + (12)) Q (F0 m 2555 ls1 [])) : W p l e R s m args below meth c H locs cu su Q (F0 m 812 ls []) := by
  obtain ⟨A, B, d, sv, hM, hG, hm, hdA, hdB⟩ := hS
  subst hM
  have hbA : ¬ (xA (fun _ => none) s.heap.size) b := fun h9 => h9.elim (fun h8 => h8 rfl) (fun h8 => by omega)
  refine lv_aload_n hC.1 hC.2.1 dL_law_812 rfl (lv_at hl 1 rfl) ?_
  refine lv_aload_n hC.1 hC.2.1 dL_law_813 rfl (lv_at hl 0 rfl) ?_
  refine lv_iload hC.1 hC.2.1 dL_law_814 (lv_at hl 4 rfl) ?_
  refine x_const hC dL_law_816 ?_
  refine x_iadd hC dL_law_817 ?_
  refine x_sld hC hw hX hbl hbA (by omega) (by omega) (by omega) dL_law_818 ?_
  obtain ⟨z_1, hz_1⟩ : ∃ z : Int, z = (xs (i + 1).toNat).toInt := ⟨_, rfl⟩
  rw [← hz_1]
  have hrz_1 : -2147483648 ≤ z_1 ∧ z_1 ≤ 2147483647 := by rw [hz_1]; exact iN_rng _
  refine lv_aload_n hC.1 hC.2.1 dL_law_819 rfl (lv_at hl 0 rfl) ?_
  refine lv_iload hC.1 hC.2.1 dL_law_820 (lv_at hl 4 rfl) ?_
  refine x_const hC dL_law_822 ?_
  refine x_iadd hC dL_law_823 ?_
  refine x_sld hC hw hX hbl hbA (by omega) (by omega) (by omega) dL_law_824 ?_
  obtain ⟨z_2, hz_2⟩ : ∃ z : Int, z = (xs (i + 2).toNat).toInt := ⟨_, rfl⟩
  rw [← hz_2]
  have hrz_2 : -2147483648 ≤ z_2 ∧ z_2 ≤ 2147483647 := by rw [hz_2]; exact iN_rng _
  refine lv_aload_n hC.1 hC.2.1 dL_law_825 rfl (lv_at hl 3 rfl) ?_
  refine x_callSW hC hw (lv_size hl) ((c_L_raise l G hst hG hdA (p0 := z_1) (by omega) (p1 := z_2) (by omega)).frame hdB) gL_law_L_raise rfl dv_L_raise_s rfl (Nat.le_of_ble_eq_true rfl) (by rw [hRf]; decide) (by rw [hRl]; decide) (by omega) (by omega) dL_law_826 (fun r9 M1 H locs hq hw => ?_)
  obtain ⟨Ck_3, ⟨⟨zk_3, hrk_3⟩, Ak_3, dk_3, svk_3, hG, hCk_3, hdA⟩, hMk_3, hdB⟩ := hq
  subst hrk_3
  subst hCk_3
  subst hMk_3
  show W p l e R s m args below meth c H locs _ _ _ (F0 m 829 ls [.int (iN (zk_3))])
  refine lv_istore (lv' := [(5, .int (iN (zk_3))), (0, .ref b), (1, .ref h0), (2, .ref a), (3, .ref o), (4, .int (iN (i)))]) hC.1 hC.2.1 dL_law_829 hl (by decide) rfl (fun ls hl => ?_)
  refine lv_aload_n hC.1 hC.2.1 dL_law_831 rfl (lv_at hl 3 rfl) ?_
  refine lv_aload_n hC.1 hC.2.1 dL_law_832 rfl (lv_at hl 1 rfl) ?_
  refine lv_iload hC.1 hC.2.1 dL_law_833 (lv_at hl 5 rfl) ?_
  refine x_const hC dL_law_835 ?_
  refine x_iadd hC dL_law_836 ?_
  refine x_sld hC hw hX hbl hbA (by omega) (by omega) (by omega) dL_law_837 ?_
  obtain ⟨z_4, hz_4⟩ : ∃ z : Int, z = (xs (i + 1).toNat).toInt := ⟨_, rfl⟩
  rw [← hz_4]
  have hrz_4 : -2147483648 ≤ z_4 ∧ z_4 ≤ 2147483647 := by rw [hz_4]; exact iN_rng _
  refine lv_aload_n hC.1 hC.2.1 dL_law_838 rfl (lv_at hl 1 rfl) ?_
  refine lv_iload hC.1 hC.2.1 dL_law_839 (lv_at hl 5 rfl) ?_
  refine x_const hC dL_law_841 ?_
  refine x_iadd hC dL_law_842 ?_
  refine x_sld hC hw hX hbl hbA (by omega) (by omega) (by omega) dL_law_843 ?_
  obtain ⟨z_5, hz_5⟩ : ∃ z : Int, z = (xs (i + 2).toNat).toInt := ⟨_, rfl⟩
  rw [← hz_5]
  have hrz_5 : -2147483648 ≤ z_5 ∧ z_5 ≤ 2147483647 := by rw [hz_5]; exact iN_rng _
  rw [xU_comm hdB] at hw
  obtain ⟨va, oa, wa, ya, wk, th, br, re, la, ha, kp, kv, qv, qw, fa, fb, fvv, fw, fo, fy, hR⟩ := hm
  refine x_callV hC hw (lv_size hl) ((c_X5_raise l G hR (p0 := z_4) (by omega) (p1 := z_5) (by omega)).frame hdB.symm) gL_law_X5_raise rfl dv_X5_raise (xU_l hR.1.1) rfl rfl (Nat.le_of_ble_eq_true rfl) (by rw [hRf]; decide) (by rw [hRl]; decide) (by omega) (by omega) dL_law_844 (fun r9 M1 H locs hq hw => ?_)
  obtain ⟨Bk_6, ⟨zk_6, hrk_6, hzk_6, hm⟩, hMk_6, hdB9⟩ := hq
  subst hrk_6
  subst hMk_6
  have hdB := hdB9.symm
  rw [xU_comm hdB9] at hw
  show W p l e R s m args below meth c H locs _ _ _ (F0 m 847 ls [.int (iN (zk_6))])
  refine lv_istore (lv' := [(6, .int (iN (zk_6))), (5, .int (iN (zk_3))), (0, .ref b), (1, .ref h0), (2, .ref a), (3, .ref o), (4, .int (iN (i)))]) hC.1 hC.2.1 dL_law_847 hl (by decide) rfl (fun ls hl => ?_)
  refine lv_goto (tgt := 2555) hC.1 hC.2.1 dL_law_849 (by decide) ?_
  refine W.widen (k := cu + 2) (n := su + (12)) (by omega) (by omega) ?_
  exact kk _ _ _ _ rf S hw ⟨_, _, _, _, rfl, hG, hm, hdA, hdB⟩ (lv_sub hl [2, 3, 4, 5, 6] rfl) (Nat.le_refl _)
set_option maxHeartbeats 8000000 in
set_option maxRecDepth 100000 in
theorem k_12 {p : Program} {l : Launch} {e : Env} {R : Room} {s : State} {m : MethodId} {args : Array Value} {below : List Frame} {meth : Method} {c : Code} {Q : State → Prop} {G : xG} {b L : Nat} {xs : Nat → Int32} {nm : String} (hst : l.stackTraces = false) (hRf : R.frames = 2048) {C9 S9 : Nat} (hRc : R.cells = C9) (hRs : R.slots = S9) (hC9 : 600000 ≤ C9) (hS9 : 7060000 ≤ S9) (hRl : R.locals = 84000) (hC : xB p s m args meth c cL_law 7 "RangeledgerLaw" nm wsL_law (some .boolean) G (xA (fun _ => none) s.heap.size)) (hX : va_X b L xs s s.heap) (hbl : b < s.heap.size) (hL : L ≤ 3072) {h0 a o : Nat} {rf : Int32} {S : Nat → Bool} {M : HM} {H : Heap} {locs : List Loc} {ls : Array Slot} {i : Int} {cu su : Nat} (hw : xD G (xA (fun _ => none) s.heap.size) s M H locs) (hS : LwS G M h0 a o rf S) (hl : lv_has ls 7 [(0, .ref b), (1, .ref h0), (2, .ref a), (3, .ref o), (4, .int (iN (i)))]) (hi : 0 ≤ i ∧ i + 6 ≤ L) (hcu : cu + 1000 ≤ C9) (hsu : su + 15590 ≤ S9) (kk : ∀ (M1 : HM) (H1 : Heap) (locs1 : List Loc) (ls1 : Array Slot) (rf1 : Int32) (S1 : Nat → Bool), xD G (xA (fun _ => none) s.heap.size) s M1 H1 locs1 → LwS G M1 h0 a o rf1 S1 → lv_has ls1 7 [(0, .ref b), (1, .ref h0), (2, .ref a), (3, .ref o), (4, .int (iN (i)))] → mC S1 100 ≤ mC S 100 + 0 → W p l e R s m args below meth c H1 locs1 (cu + 2) (su + (12)) Q (F0 m 2555 ls1 [])) : W p l e R s m args below meth c H locs cu su Q (F0 m 852 ls []) := by
  obtain ⟨A, B, d, sv, hM, hG, hm, hdA, hdB⟩ := hS
  subst hM
  have hbA : ¬ (xA (fun _ => none) s.heap.size) b := fun h9 => h9.elim (fun h8 => h8 rfl) (fun h8 => by omega)
  refine lv_aload_n hC.1 hC.2.1 dL_law_852 rfl (lv_at hl 1 rfl) ?_
  refine lv_aload_n hC.1 hC.2.1 dL_law_853 rfl (lv_at hl 0 rfl) ?_
  refine lv_iload hC.1 hC.2.1 dL_law_854 (lv_at hl 4 rfl) ?_
  refine x_const hC dL_law_856 ?_
  refine x_iadd hC dL_law_857 ?_
  refine x_sld hC hw hX hbl hbA (by omega) (by omega) (by omega) dL_law_858 ?_
  obtain ⟨z_1, hz_1⟩ : ∃ z : Int, z = (xs (i + 1).toNat).toInt := ⟨_, rfl⟩
  rw [← hz_1]
  have hrz_1 : -2147483648 ≤ z_1 ∧ z_1 ≤ 2147483647 := by rw [hz_1]; exact iN_rng _
  refine lv_aload_n hC.1 hC.2.1 dL_law_859 rfl (lv_at hl 0 rfl) ?_
  refine lv_iload hC.1 hC.2.1 dL_law_860 (lv_at hl 4 rfl) ?_
  refine x_const hC dL_law_862 ?_
  refine x_iadd hC dL_law_863 ?_
  refine x_sld hC hw hX hbl hbA (by omega) (by omega) (by omega) dL_law_864 ?_
  obtain ⟨z_2, hz_2⟩ : ∃ z : Int, z = (xs (i + 2).toNat).toInt := ⟨_, rfl⟩
  rw [← hz_2]
  have hrz_2 : -2147483648 ≤ z_2 ∧ z_2 ≤ 2147483647 := by rw [hz_2]; exact iN_rng _
  refine lv_aload_n hC.1 hC.2.1 dL_law_865 rfl (lv_at hl 3 rfl) ?_
  refine x_callSW hC hw (lv_size hl) ((c_L_sift l G hst hG hdA (p0 := z_1) (by omega) (p1 := z_2) (by omega)).frame hdB) gL_law_L_sift rfl dv_L_sift_s rfl (Nat.le_of_ble_eq_true rfl) (by rw [hRf]; decide) (by rw [hRl]; decide) (by omega) (by omega) dL_law_866 (fun r9 M1 H locs hq hw => ?_)
  obtain ⟨Ck_3, ⟨⟨zk_3, hrk_3⟩, Ak_3, dk_3, svk_3, hG, hCk_3, hdA⟩, hMk_3, hdB⟩ := hq
  subst hrk_3
  subst hCk_3
  subst hMk_3
  show W p l e R s m args below meth c H locs _ _ _ (F0 m 869 ls [.int (iN (zk_3))])
  refine lv_istore (lv' := [(5, .int (iN (zk_3))), (0, .ref b), (1, .ref h0), (2, .ref a), (3, .ref o), (4, .int (iN (i)))]) hC.1 hC.2.1 dL_law_869 hl (by decide) rfl (fun ls hl => ?_)
  refine lv_aload_n hC.1 hC.2.1 dL_law_871 rfl (lv_at hl 3 rfl) ?_
  refine lv_aload_n hC.1 hC.2.1 dL_law_872 rfl (lv_at hl 1 rfl) ?_
  refine lv_iload hC.1 hC.2.1 dL_law_873 (lv_at hl 5 rfl) ?_
  refine x_const hC dL_law_875 ?_
  refine x_iadd hC dL_law_876 ?_
  refine x_sld hC hw hX hbl hbA (by omega) (by omega) (by omega) dL_law_877 ?_
  obtain ⟨z_4, hz_4⟩ : ∃ z : Int, z = (xs (i + 1).toNat).toInt := ⟨_, rfl⟩
  rw [← hz_4]
  have hrz_4 : -2147483648 ≤ z_4 ∧ z_4 ≤ 2147483647 := by rw [hz_4]; exact iN_rng _
  refine lv_aload_n hC.1 hC.2.1 dL_law_878 rfl (lv_at hl 1 rfl) ?_
  refine lv_iload hC.1 hC.2.1 dL_law_879 (lv_at hl 5 rfl) ?_
  refine x_const hC dL_law_881 ?_
  refine x_iadd hC dL_law_882 ?_
  refine x_sld hC hw hX hbl hbA (by omega) (by omega) (by omega) dL_law_883 ?_
  obtain ⟨z_5, hz_5⟩ : ∃ z : Int, z = (xs (i + 2).toNat).toInt := ⟨_, rfl⟩
  rw [← hz_5]
  have hrz_5 : -2147483648 ≤ z_5 ∧ z_5 ≤ 2147483647 := by rw [hz_5]; exact iN_rng _
  rw [xU_comm hdB] at hw
  obtain ⟨va, oa, wa, ya, wk, th, br, re, la, ha, kp, kv, qv, qw, fa, fb, fvv, fw, fo, fy, hR⟩ := hm
  refine x_callV hC hw (lv_size hl) ((c_X5_sift l G hR (p0 := z_4) (by omega) (p1 := z_5) (by omega)).frame hdB.symm) gL_law_X5_sift rfl dv_X5_sift (xU_l hR.1.1) rfl rfl (Nat.le_of_ble_eq_true rfl) (by rw [hRf]; decide) (by rw [hRl]; decide) (by omega) (by omega) dL_law_884 (fun r9 M1 H locs hq hw => ?_)
  obtain ⟨Bk_6, ⟨zk_6, hrk_6, hzk_6, hm⟩, hMk_6, hdB9⟩ := hq
  subst hrk_6
  subst hMk_6
  have hdB := hdB9.symm
  rw [xU_comm hdB9] at hw
  show W p l e R s m args below meth c H locs _ _ _ (F0 m 887 ls [.int (iN (zk_6))])
  refine lv_istore (lv' := [(6, .int (iN (zk_6))), (5, .int (iN (zk_3))), (0, .ref b), (1, .ref h0), (2, .ref a), (3, .ref o), (4, .int (iN (i)))]) hC.1 hC.2.1 dL_law_887 hl (by decide) rfl (fun ls hl => ?_)
  refine lv_goto (tgt := 2555) hC.1 hC.2.1 dL_law_889 (by decide) ?_
  refine W.widen (k := cu + 2) (n := su + (12)) (by omega) (by omega) ?_
  exact kk _ _ _ _ rf S hw ⟨_, _, _, _, rfl, hG, hm, hdA, hdB⟩ (lv_sub hl [2, 3, 4, 5, 6] rfl) (Nat.le_refl _)
set_option maxHeartbeats 8000000 in
set_option maxRecDepth 100000 in
theorem k_13 {p : Program} {l : Launch} {e : Env} {R : Room} {s : State} {m : MethodId} {args : Array Value} {below : List Frame} {meth : Method} {c : Code} {Q : State → Prop} {G : xG} {b L : Nat} {xs : Nat → Int32} {nm : String} (hst : l.stackTraces = false) (hRf : R.frames = 2048) {C9 S9 : Nat} (hRc : R.cells = C9) (hRs : R.slots = S9) (hC9 : 600000 ≤ C9) (hS9 : 7060000 ≤ S9) (hRl : R.locals = 84000) (hC : xB p s m args meth c cL_law 7 "RangeledgerLaw" nm wsL_law (some .boolean) G (xA (fun _ => none) s.heap.size)) (hX : va_X b L xs s s.heap) (hbl : b < s.heap.size) (hL : L ≤ 3072) {h0 a o : Nat} {rf : Int32} {S : Nat → Bool} {M : HM} {H : Heap} {locs : List Loc} {ls : Array Slot} {i : Int} {cu su : Nat} (hw : xD G (xA (fun _ => none) s.heap.size) s M H locs) (hS : LwS G M h0 a o rf S) (hl : lv_has ls 7 [(0, .ref b), (1, .ref h0), (2, .ref a), (3, .ref o), (4, .int (iN (i)))]) (hi : 0 ≤ i ∧ i + 6 ≤ L) (hcu : cu + 1000 ≤ C9) (hsu : su + 15590 ≤ S9) (kk : ∀ (M1 : HM) (H1 : Heap) (locs1 : List Loc) (ls1 : Array Slot) (rf1 : Int32) (S1 : Nat → Bool), xD G (xA (fun _ => none) s.heap.size) s M1 H1 locs1 → LwS G M1 h0 a o rf1 S1 → lv_has ls1 7 [(0, .ref b), (1, .ref h0), (2, .ref a), (3, .ref o), (4, .int (iN (i)))] → mC S1 100 ≤ mC S 100 + 0 → W p l e R s m args below meth c H1 locs1 (cu + 3) (su + (18)) Q (F0 m 2555 ls1 [])) : W p l e R s m args below meth c H locs cu su Q (F0 m 892 ls []) := by
  obtain ⟨A, B, d, sv, hM, hG, hm, hdA, hdB⟩ := hS
  subst hM
  have hbA : ¬ (xA (fun _ => none) s.heap.size) b := fun h9 => h9.elim (fun h8 => h8 rfl) (fun h8 => by omega)
  refine lv_aload_n hC.1 hC.2.1 dL_law_892 rfl (lv_at hl 1 rfl) ?_
  refine lv_aload_n hC.1 hC.2.1 dL_law_893 rfl (lv_at hl 0 rfl) ?_
  refine lv_iload hC.1 hC.2.1 dL_law_894 (lv_at hl 4 rfl) ?_
  refine x_const hC dL_law_896 ?_
  refine x_iadd hC dL_law_897 ?_
  refine x_sld hC hw hX hbl hbA (by omega) (by omega) (by omega) dL_law_898 ?_
  obtain ⟨z_1, hz_1⟩ : ∃ z : Int, z = (xs (i + 1).toNat).toInt := ⟨_, rfl⟩
  rw [← hz_1]
  have hrz_1 : -2147483648 ≤ z_1 ∧ z_1 ≤ 2147483647 := by rw [hz_1]; exact iN_rng _
  refine lv_aload_n hC.1 hC.2.1 dL_law_899 rfl (lv_at hl 0 rfl) ?_
  refine lv_iload hC.1 hC.2.1 dL_law_900 (lv_at hl 4 rfl) ?_
  refine x_const hC dL_law_902 ?_
  refine x_iadd hC dL_law_903 ?_
  refine x_sld hC hw hX hbl hbA (by omega) (by omega) (by omega) dL_law_904 ?_
  obtain ⟨z_2, hz_2⟩ : ∃ z : Int, z = (xs (i + 2).toNat).toInt := ⟨_, rfl⟩
  rw [← hz_2]
  have hrz_2 : -2147483648 ≤ z_2 ∧ z_2 ≤ 2147483647 := by rw [hz_2]; exact iN_rng _
  refine lv_aload_n hC.1 hC.2.1 dL_law_905 rfl (lv_at hl 3 rfl) ?_
  refine x_callSW hC hw (lv_size hl) ((c_L_strikeValue l G hst hG hdA (p0 := z_1) (by omega) (p1 := z_2) (by omega)).frame hdB) gL_law_L_strikeValue rfl dv_L_strikeValue_s rfl (Nat.le_of_ble_eq_true rfl) (by rw [hRf]; decide) (by rw [hRl]; decide) (by omega) (by omega) dL_law_906 (fun r9 M1 H locs hq hw => ?_)
  obtain ⟨Ck_3, ⟨⟨zk_3, hrk_3⟩, Ak_3, dk_3, svk_3, hG, hCk_3, hdA⟩, hMk_3, hdB⟩ := hq
  subst hrk_3
  subst hCk_3
  subst hMk_3
  show W p l e R s m args below meth c H locs _ _ _ (F0 m 909 ls [.int (iN (zk_3))])
  refine lv_istore (lv' := [(5, .int (iN (zk_3))), (0, .ref b), (1, .ref h0), (2, .ref a), (3, .ref o), (4, .int (iN (i)))]) hC.1 hC.2.1 dL_law_909 hl (by decide) rfl (fun ls hl => ?_)
  refine lv_aload_n hC.1 hC.2.1 dL_law_911 rfl (lv_at hl 3 rfl) ?_
  refine lv_aload_n hC.1 hC.2.1 dL_law_912 rfl (lv_at hl 1 rfl) ?_
  refine lv_iload hC.1 hC.2.1 dL_law_913 (lv_at hl 5 rfl) ?_
  refine x_const hC dL_law_915 ?_
  refine x_iadd hC dL_law_916 ?_
  refine x_sld hC hw hX hbl hbA (by omega) (by omega) (by omega) dL_law_917 ?_
  obtain ⟨z_4, hz_4⟩ : ∃ z : Int, z = (xs (i + 1).toNat).toInt := ⟨_, rfl⟩
  rw [← hz_4]
  have hrz_4 : -2147483648 ≤ z_4 ∧ z_4 ≤ 2147483647 := by rw [hz_4]; exact iN_rng _
  refine lv_aload_n hC.1 hC.2.1 dL_law_918 rfl (lv_at hl 1 rfl) ?_
  refine lv_iload hC.1 hC.2.1 dL_law_919 (lv_at hl 5 rfl) ?_
  refine x_const hC dL_law_921 ?_
  refine x_iadd hC dL_law_922 ?_
  refine x_sld hC hw hX hbl hbA (by omega) (by omega) (by omega) dL_law_923 ?_
  obtain ⟨z_5, hz_5⟩ : ∃ z : Int, z = (xs (i + 2).toNat).toInt := ⟨_, rfl⟩
  rw [← hz_5]
  have hrz_5 : -2147483648 ≤ z_5 ∧ z_5 ≤ 2147483647 := by rw [hz_5]; exact iN_rng _
  rw [xU_comm hdB] at hw
  obtain ⟨va, oa, wa, ya, wk, th, br, re, la, ha, kp, kv, qv, qw, fa, fb, fvv, fw, fo, fy, hR⟩ := hm
  refine x_callV hC hw (lv_size hl) ((c_X5_strikeValue l G hR (p0 := z_4) (by omega) (p1 := z_5) (by omega)).frame hdB.symm) gL_law_X5_strikeValue rfl dv_X5_strikeValue (xU_l hR.1.1) rfl rfl (Nat.le_of_ble_eq_true rfl) (by rw [hRf]; decide) (by rw [hRl]; decide) (by omega) (by omega) dL_law_924 (fun r9 M1 H locs hq hw => ?_)
  obtain ⟨Bk_6, ⟨zk_6, hrk_6, hzk_6, hm⟩, hMk_6, hdB9⟩ := hq
  subst hrk_6
  subst hMk_6
  have hdB := hdB9.symm
  rw [xU_comm hdB9] at hw
  show W p l e R s m args below meth c H locs _ _ _ (F0 m 927 ls [.int (iN (zk_6))])
  refine lv_istore (lv' := [(6, .int (iN (zk_6))), (5, .int (iN (zk_3))), (0, .ref b), (1, .ref h0), (2, .ref a), (3, .ref o), (4, .int (iN (i)))]) hC.1 hC.2.1 dL_law_927 hl (by decide) rfl (fun ls hl => ?_)
  refine lv_goto (tgt := 2555) hC.1 hC.2.1 dL_law_929 (by decide) ?_
  refine W.widen (k := cu + 3) (n := su + (18)) (by omega) (by omega) ?_
  exact kk _ _ _ _ rf S hw ⟨_, _, _, _, rfl, hG, hm, hdA, hdB⟩ (lv_sub hl [2, 3, 4, 5, 6] rfl) (Nat.le_refl _)
set_option maxHeartbeats 8000000 in
set_option maxRecDepth 100000 in
theorem k_14 {p : Program} {l : Launch} {e : Env} {R : Room} {s : State} {m : MethodId} {args : Array Value} {below : List Frame} {meth : Method} {c : Code} {Q : State → Prop} {G : xG} {b L : Nat} {xs : Nat → Int32} {nm : String} (hst : l.stackTraces = false) (hRf : R.frames = 2048) {C9 S9 : Nat} (hRc : R.cells = C9) (hRs : R.slots = S9) (hC9 : 600000 ≤ C9) (hS9 : 7060000 ≤ S9) (hRl : R.locals = 84000) (hC : xB p s m args meth c cL_law 7 "RangeledgerLaw" nm wsL_law (some .boolean) G (xA (fun _ => none) s.heap.size)) (hX : va_X b L xs s s.heap) (hbl : b < s.heap.size) (hL : L ≤ 3072) {h0 a o : Nat} {rf : Int32} {S : Nat → Bool} {M : HM} {H : Heap} {locs : List Loc} {ls : Array Slot} {i : Int} {cu su : Nat} (hw : xD G (xA (fun _ => none) s.heap.size) s M H locs) (hS : LwS G M h0 a o rf S) (hl : lv_has ls 7 [(0, .ref b), (1, .ref h0), (2, .ref a), (3, .ref o), (4, .int (iN (i)))]) (hi : 0 ≤ i ∧ i + 6 ≤ L) (hcu : cu + 1000 ≤ C9) (hsu : su + 15590 ≤ S9) (kk : ∀ (M1 : HM) (H1 : Heap) (locs1 : List Loc) (ls1 : Array Slot) (rf1 : Int32) (S1 : Nat → Bool), xD G (xA (fun _ => none) s.heap.size) s M1 H1 locs1 → LwS G M1 h0 a o rf1 S1 → lv_has ls1 7 [(0, .ref b), (1, .ref h0), (2, .ref a), (3, .ref o), (4, .int (iN (i)))] → mC S1 100 ≤ mC S 100 + 0 → W p l e R s m args below meth c H1 locs1 (cu + 2) (su + (11)) Q (F0 m 2555 ls1 [])) : W p l e R s m args below meth c H locs cu su Q (F0 m 932 ls []) := by
  obtain ⟨A, B, d, sv, hM, hG, hm, hdA, hdB⟩ := hS
  subst hM
  have hbA : ¬ (xA (fun _ => none) s.heap.size) b := fun h9 => h9.elim (fun h8 => h8 rfl) (fun h8 => by omega)
  refine lv_aload_n hC.1 hC.2.1 dL_law_932 rfl (lv_at hl 1 rfl) ?_
  refine lv_aload_n hC.1 hC.2.1 dL_law_933 rfl (lv_at hl 0 rfl) ?_
  refine lv_iload hC.1 hC.2.1 dL_law_934 (lv_at hl 4 rfl) ?_
  refine x_const hC dL_law_936 ?_
  refine x_iadd hC dL_law_937 ?_
  refine x_sld hC hw hX hbl hbA (by omega) (by omega) (by omega) dL_law_938 ?_
  obtain ⟨z_1, hz_1⟩ : ∃ z : Int, z = (xs (i + 1).toNat).toInt := ⟨_, rfl⟩
  rw [← hz_1]
  have hrz_1 : -2147483648 ≤ z_1 ∧ z_1 ≤ 2147483647 := by rw [hz_1]; exact iN_rng _
  refine lv_aload_n hC.1 hC.2.1 dL_law_939 rfl (lv_at hl 3 rfl) ?_
  refine x_callSW hC hw (lv_size hl) ((c_L_clear l G hst hG hdA (p0 := z_1) (by omega)).frame hdB) gL_law_L_clear rfl dv_L_clear_s rfl (Nat.le_of_ble_eq_true rfl) (by rw [hRf]; decide) (by rw [hRl]; decide) (by omega) (by omega) dL_law_940 (fun r9 M1 H locs hq hw => ?_)
  obtain ⟨Ck_2, ⟨⟨zk_2, hrk_2⟩, Ak_2, dk_2, svk_2, hG, hCk_2, hdA⟩, hMk_2, hdB⟩ := hq
  subst hrk_2
  subst hCk_2
  subst hMk_2
  show W p l e R s m args below meth c H locs _ _ _ (F0 m 943 ls [.int (iN (zk_2))])
  refine lv_istore (lv' := [(5, .int (iN (zk_2))), (0, .ref b), (1, .ref h0), (2, .ref a), (3, .ref o), (4, .int (iN (i)))]) hC.1 hC.2.1 dL_law_943 hl (by decide) rfl (fun ls hl => ?_)
  refine lv_aload_n hC.1 hC.2.1 dL_law_945 rfl (lv_at hl 3 rfl) ?_
  refine lv_aload_n hC.1 hC.2.1 dL_law_946 rfl (lv_at hl 1 rfl) ?_
  refine lv_iload hC.1 hC.2.1 dL_law_947 (lv_at hl 5 rfl) ?_
  refine x_const hC dL_law_949 ?_
  refine x_iadd hC dL_law_950 ?_
  refine x_sld hC hw hX hbl hbA (by omega) (by omega) (by omega) dL_law_951 ?_
  obtain ⟨z_3, hz_3⟩ : ∃ z : Int, z = (xs (i + 1).toNat).toInt := ⟨_, rfl⟩
  rw [← hz_3]
  have hrz_3 : -2147483648 ≤ z_3 ∧ z_3 ≤ 2147483647 := by rw [hz_3]; exact iN_rng _
  rw [xU_comm hdB] at hw
  obtain ⟨va, oa, wa, ya, wk, th, br, re, la, ha, kp, kv, qv, qw, fa, fb, fvv, fw, fo, fy, hR⟩ := hm
  refine x_callV hC hw (lv_size hl) ((c_X5_clear l G hR (p0 := z_3) (by omega)).frame hdB.symm) gL_law_X5_clear rfl dv_X5_clear (xU_l hR.1.1) rfl rfl (Nat.le_of_ble_eq_true rfl) (by rw [hRf]; decide) (by rw [hRl]; decide) (by omega) (by omega) dL_law_952 (fun r9 M1 H locs hq hw => ?_)
  obtain ⟨Bk_4, ⟨zk_4, hrk_4, hzk_4, hm⟩, hMk_4, hdB9⟩ := hq
  subst hrk_4
  subst hMk_4
  have hdB := hdB9.symm
  rw [xU_comm hdB9] at hw
  show W p l e R s m args below meth c H locs _ _ _ (F0 m 955 ls [.int (iN (zk_4))])
  refine lv_istore (lv' := [(6, .int (iN (zk_4))), (5, .int (iN (zk_2))), (0, .ref b), (1, .ref h0), (2, .ref a), (3, .ref o), (4, .int (iN (i)))]) hC.1 hC.2.1 dL_law_955 hl (by decide) rfl (fun ls hl => ?_)
  refine lv_goto (tgt := 2555) hC.1 hC.2.1 dL_law_957 (by decide) ?_
  refine W.widen (k := cu + 2) (n := su + (11)) (by omega) (by omega) ?_
  exact kk _ _ _ _ rf S hw ⟨_, _, _, _, rfl, hG, hm, hdA, hdB⟩ (lv_sub hl [2, 3, 4, 5, 6] rfl) (Nat.le_refl _)
set_option maxHeartbeats 8000000 in
set_option maxRecDepth 100000 in
theorem k_15 {p : Program} {l : Launch} {e : Env} {R : Room} {s : State} {m : MethodId} {args : Array Value} {below : List Frame} {meth : Method} {c : Code} {Q : State → Prop} {G : xG} {b L : Nat} {xs : Nat → Int32} {nm : String} (hst : l.stackTraces = false) (hRf : R.frames = 2048) {C9 S9 : Nat} (hRc : R.cells = C9) (hRs : R.slots = S9) (hC9 : 600000 ≤ C9) (hS9 : 7060000 ≤ S9) (hRl : R.locals = 84000) (hC : xB p s m args meth c cL_law 7 "RangeledgerLaw" nm wsL_law (some .boolean) G (xA (fun _ => none) s.heap.size)) (hX : va_X b L xs s s.heap) (hbl : b < s.heap.size) (hL : L ≤ 3072) {h0 a o : Nat} {rf : Int32} {S : Nat → Bool} {M : HM} {H : Heap} {locs : List Loc} {ls : Array Slot} {i : Int} {cu su : Nat} (hw : xD G (xA (fun _ => none) s.heap.size) s M H locs) (hS : LwS G M h0 a o rf S) (hl : lv_has ls 7 [(0, .ref b), (1, .ref h0), (2, .ref a), (3, .ref o), (4, .int (iN (i)))]) (hi : 0 ≤ i ∧ i + 6 ≤ L) (hcu : cu + 1000 ≤ C9) (hsu : su + 15590 ≤ S9) (kk : ∀ (M1 : HM) (H1 : Heap) (locs1 : List Loc) (ls1 : Array Slot) (rf1 : Int32) (S1 : Nat → Bool), xD G (xA (fun _ => none) s.heap.size) s M1 H1 locs1 → LwS G M1 h0 a o rf1 S1 → lv_has ls1 7 [(0, .ref b), (1, .ref h0), (2, .ref a), (3, .ref o), (4, .int (iN (i)))] → mC S1 100 ≤ mC S 100 + 0 → W p l e R s m args below meth c H1 locs1 (cu + 4) (su + (23)) Q (F0 m 2555 ls1 [])) : W p l e R s m args below meth c H locs cu su Q (F0 m 960 ls []) := by
  obtain ⟨A, B, d, sv, hM, hG, hm, hdA, hdB⟩ := hS
  subst hM
  have hbA : ¬ (xA (fun _ => none) s.heap.size) b := fun h9 => h9.elim (fun h8 => h8 rfl) (fun h8 => by omega)
  refine lv_aload_n hC.1 hC.2.1 dL_law_960 rfl (lv_at hl 1 rfl) ?_
  refine lv_aload_n hC.1 hC.2.1 dL_law_961 rfl (lv_at hl 0 rfl) ?_
  refine lv_iload hC.1 hC.2.1 dL_law_962 (lv_at hl 4 rfl) ?_
  refine x_const hC dL_law_964 ?_
  refine x_iadd hC dL_law_965 ?_
  refine x_sld hC hw hX hbl hbA (by omega) (by omega) (by omega) dL_law_966 ?_
  obtain ⟨z_1, hz_1⟩ : ∃ z : Int, z = (xs (i + 1).toNat).toInt := ⟨_, rfl⟩
  rw [← hz_1]
  have hrz_1 : -2147483648 ≤ z_1 ∧ z_1 ≤ 2147483647 := by rw [hz_1]; exact iN_rng _
  refine lv_aload_n hC.1 hC.2.1 dL_law_967 rfl (lv_at hl 0 rfl) ?_
  refine lv_iload hC.1 hC.2.1 dL_law_968 (lv_at hl 4 rfl) ?_
  refine x_const hC dL_law_970 ?_
  refine x_iadd hC dL_law_971 ?_
  refine x_sld hC hw hX hbl hbA (by omega) (by omega) (by omega) dL_law_972 ?_
  obtain ⟨z_2, hz_2⟩ : ∃ z : Int, z = (xs (i + 2).toNat).toInt := ⟨_, rfl⟩
  rw [← hz_2]
  have hrz_2 : -2147483648 ≤ z_2 ∧ z_2 ≤ 2147483647 := by rw [hz_2]; exact iN_rng _
  refine lv_aload_n hC.1 hC.2.1 dL_law_973 rfl (lv_at hl 3 rfl) ?_
  refine x_callSW hC hw (lv_size hl) ((c_L_pour l G hst hG hdA (p0 := z_1) (by omega) (p1 := z_2) (by omega)).frame hdB) gL_law_L_pour rfl dv_L_pour_s rfl (Nat.le_of_ble_eq_true rfl) (by rw [hRf]; decide) (by rw [hRl]; decide) (by omega) (by omega) dL_law_974 (fun r9 M1 H locs hq hw => ?_)
  obtain ⟨Ck_3, ⟨⟨zk_3, hrk_3⟩, Ak_3, dk_3, svk_3, hG, hCk_3, hdA⟩, hMk_3, hdB⟩ := hq
  subst hrk_3
  subst hCk_3
  subst hMk_3
  show W p l e R s m args below meth c H locs _ _ _ (F0 m 977 ls [.int (iN (zk_3))])
  refine lv_istore (lv' := [(5, .int (iN (zk_3))), (0, .ref b), (1, .ref h0), (2, .ref a), (3, .ref o), (4, .int (iN (i)))]) hC.1 hC.2.1 dL_law_977 hl (by decide) rfl (fun ls hl => ?_)
  refine lv_aload_n hC.1 hC.2.1 dL_law_979 rfl (lv_at hl 3 rfl) ?_
  refine lv_aload_n hC.1 hC.2.1 dL_law_980 rfl (lv_at hl 1 rfl) ?_
  refine lv_iload hC.1 hC.2.1 dL_law_981 (lv_at hl 5 rfl) ?_
  refine x_const hC dL_law_983 ?_
  refine x_iadd hC dL_law_984 ?_
  refine x_sld hC hw hX hbl hbA (by omega) (by omega) (by omega) dL_law_985 ?_
  obtain ⟨z_4, hz_4⟩ : ∃ z : Int, z = (xs (i + 1).toNat).toInt := ⟨_, rfl⟩
  rw [← hz_4]
  have hrz_4 : -2147483648 ≤ z_4 ∧ z_4 ≤ 2147483647 := by rw [hz_4]; exact iN_rng _
  refine lv_aload_n hC.1 hC.2.1 dL_law_986 rfl (lv_at hl 1 rfl) ?_
  refine lv_iload hC.1 hC.2.1 dL_law_987 (lv_at hl 5 rfl) ?_
  refine x_const hC dL_law_989 ?_
  refine x_iadd hC dL_law_990 ?_
  refine x_sld hC hw hX hbl hbA (by omega) (by omega) (by omega) dL_law_991 ?_
  obtain ⟨z_5, hz_5⟩ : ∃ z : Int, z = (xs (i + 2).toNat).toInt := ⟨_, rfl⟩
  rw [← hz_5]
  have hrz_5 : -2147483648 ≤ z_5 ∧ z_5 ≤ 2147483647 := by rw [hz_5]; exact iN_rng _
  rw [xU_comm hdB] at hw
  obtain ⟨va, oa, wa, ya, wk, th, br, re, la, ha, kp, kv, qv, qw, fa, fb, fvv, fw, fo, fy, hR⟩ := hm
  refine x_callV hC hw (lv_size hl) ((c_X5_pour l G hR (p0 := z_4) (by omega) (p1 := z_5) (by omega)).frame hdB.symm) gL_law_X5_pour rfl dv_X5_pour (xU_l hR.1.1) rfl rfl (Nat.le_of_ble_eq_true rfl) (by rw [hRf]; decide) (by rw [hRl]; decide) (by omega) (by omega) dL_law_992 (fun r9 M1 H locs hq hw => ?_)
  obtain ⟨Bk_6, ⟨zk_6, hrk_6, hzk_6, hm⟩, hMk_6, hdB9⟩ := hq
  subst hrk_6
  subst hMk_6
  have hdB := hdB9.symm
  rw [xU_comm hdB9] at hw
  show W p l e R s m args below meth c H locs _ _ _ (F0 m 995 ls [.int (iN (zk_6))])
  refine lv_istore (lv' := [(6, .int (iN (zk_6))), (5, .int (iN (zk_3))), (0, .ref b), (1, .ref h0), (2, .ref a), (3, .ref o), (4, .int (iN (i)))]) hC.1 hC.2.1 dL_law_995 hl (by decide) rfl (fun ls hl => ?_)
  refine lv_goto (tgt := 2555) hC.1 hC.2.1 dL_law_997 (by decide) ?_
  refine W.widen (k := cu + 4) (n := su + (23)) (by omega) (by omega) ?_
  exact kk _ _ _ _ rf S hw ⟨_, _, _, _, rfl, hG, hm, hdA, hdB⟩ (lv_sub hl [2, 3, 4, 5, 6] rfl) (Nat.le_refl _)
set_option maxHeartbeats 8000000 in
set_option maxRecDepth 100000 in
theorem k_16 {p : Program} {l : Launch} {e : Env} {R : Room} {s : State} {m : MethodId} {args : Array Value} {below : List Frame} {meth : Method} {c : Code} {Q : State → Prop} {G : xG} {b L : Nat} {xs : Nat → Int32} {nm : String} (hst : l.stackTraces = false) (hRf : R.frames = 2048) {C9 S9 : Nat} (hRc : R.cells = C9) (hRs : R.slots = S9) (hC9 : 600000 ≤ C9) (hS9 : 7060000 ≤ S9) (hRl : R.locals = 84000) (hC : xB p s m args meth c cL_law 7 "RangeledgerLaw" nm wsL_law (some .boolean) G (xA (fun _ => none) s.heap.size)) (hX : va_X b L xs s s.heap) (hbl : b < s.heap.size) (hL : L ≤ 3072) {h0 a o : Nat} {rf : Int32} {S : Nat → Bool} {M : HM} {H : Heap} {locs : List Loc} {ls : Array Slot} {i : Int} {cu su : Nat} (hw : xD G (xA (fun _ => none) s.heap.size) s M H locs) (hS : LwS G M h0 a o rf S) (hl : lv_has ls 7 [(0, .ref b), (1, .ref h0), (2, .ref a), (3, .ref o), (4, .int (iN (i)))]) (hi : 0 ≤ i ∧ i + 6 ≤ L) (hcu : cu + 1000 ≤ C9) (hsu : su + 15590 ≤ S9) (kk : ∀ (M1 : HM) (H1 : Heap) (locs1 : List Loc) (ls1 : Array Slot) (rf1 : Int32) (S1 : Nat → Bool), xD G (xA (fun _ => none) s.heap.size) s M1 H1 locs1 → LwS G M1 h0 a o rf1 S1 → lv_has ls1 7 [(0, .ref b), (1, .ref h0), (2, .ref a), (3, .ref o), (4, .int (iN (i)))] → mC S1 100 ≤ mC S 100 + 0 → W p l e R s m args below meth c H1 locs1 (cu + 3) (su + (18)) Q (F0 m 2555 ls1 [])) : W p l e R s m args below meth c H locs cu su Q (F0 m 1000 ls []) := by
  obtain ⟨A, B, d, sv, hM, hG, hm, hdA, hdB⟩ := hS
  subst hM
  have hbA : ¬ (xA (fun _ => none) s.heap.size) b := fun h9 => h9.elim (fun h8 => h8 rfl) (fun h8 => by omega)
  refine lv_aload_n hC.1 hC.2.1 dL_law_1000 rfl (lv_at hl 1 rfl) ?_
  refine lv_aload_n hC.1 hC.2.1 dL_law_1001 rfl (lv_at hl 0 rfl) ?_
  refine lv_iload hC.1 hC.2.1 dL_law_1002 (lv_at hl 4 rfl) ?_
  refine x_const hC dL_law_1004 ?_
  refine x_iadd hC dL_law_1005 ?_
  refine x_sld hC hw hX hbl hbA (by omega) (by omega) (by omega) dL_law_1006 ?_
  obtain ⟨z_1, hz_1⟩ : ∃ z : Int, z = (xs (i + 1).toNat).toInt := ⟨_, rfl⟩
  rw [← hz_1]
  have hrz_1 : -2147483648 ≤ z_1 ∧ z_1 ≤ 2147483647 := by rw [hz_1]; exact iN_rng _
  refine lv_aload_n hC.1 hC.2.1 dL_law_1007 rfl (lv_at hl 0 rfl) ?_
  refine lv_iload hC.1 hC.2.1 dL_law_1008 (lv_at hl 4 rfl) ?_
  refine x_const hC dL_law_1010 ?_
  refine x_iadd hC dL_law_1011 ?_
  refine x_sld hC hw hX hbl hbA (by omega) (by omega) (by omega) dL_law_1012 ?_
  obtain ⟨z_2, hz_2⟩ : ∃ z : Int, z = (xs (i + 2).toNat).toInt := ⟨_, rfl⟩
  rw [← hz_2]
  have hrz_2 : -2147483648 ≤ z_2 ∧ z_2 ≤ 2147483647 := by rw [hz_2]; exact iN_rng _
  refine lv_aload_n hC.1 hC.2.1 dL_law_1013 rfl (lv_at hl 3 rfl) ?_
  refine x_callSW hC hw (lv_size hl) ((c_L_copy l G hst hG hdA (p0 := z_1) (by omega) (p1 := z_2) (by omega)).frame hdB) gL_law_L_copy rfl dv_L_copy_s rfl (Nat.le_of_ble_eq_true rfl) (by rw [hRf]; decide) (by rw [hRl]; decide) (by omega) (by omega) dL_law_1014 (fun r9 M1 H locs hq hw => ?_)
  obtain ⟨Ck_3, ⟨⟨zk_3, hrk_3⟩, Ak_3, dk_3, svk_3, hG, hCk_3, hdA⟩, hMk_3, hdB⟩ := hq
  subst hrk_3
  subst hCk_3
  subst hMk_3
  show W p l e R s m args below meth c H locs _ _ _ (F0 m 1017 ls [.int (iN (zk_3))])
  refine lv_istore (lv' := [(5, .int (iN (zk_3))), (0, .ref b), (1, .ref h0), (2, .ref a), (3, .ref o), (4, .int (iN (i)))]) hC.1 hC.2.1 dL_law_1017 hl (by decide) rfl (fun ls hl => ?_)
  refine lv_aload_n hC.1 hC.2.1 dL_law_1019 rfl (lv_at hl 3 rfl) ?_
  refine lv_aload_n hC.1 hC.2.1 dL_law_1020 rfl (lv_at hl 1 rfl) ?_
  refine lv_iload hC.1 hC.2.1 dL_law_1021 (lv_at hl 5 rfl) ?_
  refine x_const hC dL_law_1023 ?_
  refine x_iadd hC dL_law_1024 ?_
  refine x_sld hC hw hX hbl hbA (by omega) (by omega) (by omega) dL_law_1025 ?_
  obtain ⟨z_4, hz_4⟩ : ∃ z : Int, z = (xs (i + 1).toNat).toInt := ⟨_, rfl⟩
  rw [← hz_4]
  have hrz_4 : -2147483648 ≤ z_4 ∧ z_4 ≤ 2147483647 := by rw [hz_4]; exact iN_rng _
  refine lv_aload_n hC.1 hC.2.1 dL_law_1026 rfl (lv_at hl 1 rfl) ?_
  refine lv_iload hC.1 hC.2.1 dL_law_1027 (lv_at hl 5 rfl) ?_
  refine x_const hC dL_law_1029 ?_
  refine x_iadd hC dL_law_1030 ?_
  refine x_sld hC hw hX hbl hbA (by omega) (by omega) (by omega) dL_law_1031 ?_
  obtain ⟨z_5, hz_5⟩ : ∃ z : Int, z = (xs (i + 2).toNat).toInt := ⟨_, rfl⟩
  rw [← hz_5]
  have hrz_5 : -2147483648 ≤ z_5 ∧ z_5 ≤ 2147483647 := by rw [hz_5]; exact iN_rng _
  rw [xU_comm hdB] at hw
  obtain ⟨va, oa, wa, ya, wk, th, br, re, la, ha, kp, kv, qv, qw, fa, fb, fvv, fw, fo, fy, hR⟩ := hm
  refine x_callV hC hw (lv_size hl) ((c_X5_copy l G hR (p0 := z_4) (by omega) (p1 := z_5) (by omega)).frame hdB.symm) gL_law_X5_copy rfl dv_X5_copy (xU_l hR.1.1) rfl rfl (Nat.le_of_ble_eq_true rfl) (by rw [hRf]; decide) (by rw [hRl]; decide) (by omega) (by omega) dL_law_1032 (fun r9 M1 H locs hq hw => ?_)
  obtain ⟨Bk_6, ⟨zk_6, hrk_6, hzk_6, hm⟩, hMk_6, hdB9⟩ := hq
  subst hrk_6
  subst hMk_6
  have hdB := hdB9.symm
  rw [xU_comm hdB9] at hw
  show W p l e R s m args below meth c H locs _ _ _ (F0 m 1035 ls [.int (iN (zk_6))])
  refine lv_istore (lv' := [(6, .int (iN (zk_6))), (5, .int (iN (zk_3))), (0, .ref b), (1, .ref h0), (2, .ref a), (3, .ref o), (4, .int (iN (i)))]) hC.1 hC.2.1 dL_law_1035 hl (by decide) rfl (fun ls hl => ?_)
  refine lv_goto (tgt := 2555) hC.1 hC.2.1 dL_law_1037 (by decide) ?_
  refine W.widen (k := cu + 3) (n := su + (18)) (by omega) (by omega) ?_
  exact kk _ _ _ _ rf S hw ⟨_, _, _, _, rfl, hG, hm, hdA, hdB⟩ (lv_sub hl [2, 3, 4, 5, 6] rfl) (Nat.le_refl _)
set_option maxHeartbeats 8000000 in
set_option maxRecDepth 100000 in
theorem k_17 {p : Program} {l : Launch} {e : Env} {R : Room} {s : State} {m : MethodId} {args : Array Value} {below : List Frame} {meth : Method} {c : Code} {Q : State → Prop} {G : xG} {b L : Nat} {xs : Nat → Int32} {nm : String} (hst : l.stackTraces = false) (hRf : R.frames = 2048) {C9 S9 : Nat} (hRc : R.cells = C9) (hRs : R.slots = S9) (hC9 : 600000 ≤ C9) (hS9 : 7060000 ≤ S9) (hRl : R.locals = 84000) (hC : xB p s m args meth c cL_law 7 "RangeledgerLaw" nm wsL_law (some .boolean) G (xA (fun _ => none) s.heap.size)) (hX : va_X b L xs s s.heap) (hbl : b < s.heap.size) (hL : L ≤ 3072) {h0 a o : Nat} {rf : Int32} {S : Nat → Bool} {M : HM} {H : Heap} {locs : List Loc} {ls : Array Slot} {i : Int} {cu su : Nat} (hw : xD G (xA (fun _ => none) s.heap.size) s M H locs) (hS : LwS G M h0 a o rf S) (hl : lv_has ls 7 [(0, .ref b), (1, .ref h0), (2, .ref a), (3, .ref o), (4, .int (iN (i)))]) (hi : 0 ≤ i ∧ i + 6 ≤ L) (hcu : cu + 1000 ≤ C9) (hsu : su + 15590 ≤ S9) (kk : ∀ (M1 : HM) (H1 : Heap) (locs1 : List Loc) (ls1 : Array Slot) (rf1 : Int32) (S1 : Nat → Bool), xD G (xA (fun _ => none) s.heap.size) s M1 H1 locs1 → LwS G M1 h0 a o rf1 S1 → lv_has ls1 7 [(0, .ref b), (1, .ref h0), (2, .ref a), (3, .ref o), (4, .int (iN (i)))] → mC S1 100 ≤ mC S 100 + 0 → W p l e R s m args below meth c H1 locs1 (cu + 3) (su + (18)) Q (F0 m 2555 ls1 [])) : W p l e R s m args below meth c H locs cu su Q (F0 m 1040 ls []) := by
  obtain ⟨A, B, d, sv, hM, hG, hm, hdA, hdB⟩ := hS
  subst hM
  have hbA : ¬ (xA (fun _ => none) s.heap.size) b := fun h9 => h9.elim (fun h8 => h8 rfl) (fun h8 => by omega)
  refine lv_aload_n hC.1 hC.2.1 dL_law_1040 rfl (lv_at hl 1 rfl) ?_
  refine lv_aload_n hC.1 hC.2.1 dL_law_1041 rfl (lv_at hl 0 rfl) ?_
  refine lv_iload hC.1 hC.2.1 dL_law_1042 (lv_at hl 4 rfl) ?_
  refine x_const hC dL_law_1044 ?_
  refine x_iadd hC dL_law_1045 ?_
  refine x_sld hC hw hX hbl hbA (by omega) (by omega) (by omega) dL_law_1046 ?_
  obtain ⟨z_1, hz_1⟩ : ∃ z : Int, z = (xs (i + 1).toNat).toInt := ⟨_, rfl⟩
  rw [← hz_1]
  have hrz_1 : -2147483648 ≤ z_1 ∧ z_1 ≤ 2147483647 := by rw [hz_1]; exact iN_rng _
  refine lv_aload_n hC.1 hC.2.1 dL_law_1047 rfl (lv_at hl 0 rfl) ?_
  refine lv_iload hC.1 hC.2.1 dL_law_1048 (lv_at hl 4 rfl) ?_
  refine x_const hC dL_law_1050 ?_
  refine x_iadd hC dL_law_1051 ?_
  refine x_sld hC hw hX hbl hbA (by omega) (by omega) (by omega) dL_law_1052 ?_
  obtain ⟨z_2, hz_2⟩ : ∃ z : Int, z = (xs (i + 2).toNat).toInt := ⟨_, rfl⟩
  rw [← hz_2]
  have hrz_2 : -2147483648 ≤ z_2 ∧ z_2 ≤ 2147483647 := by rw [hz_2]; exact iN_rng _
  refine lv_aload_n hC.1 hC.2.1 dL_law_1053 rfl (lv_at hl 0 rfl) ?_
  refine lv_iload hC.1 hC.2.1 dL_law_1054 (lv_at hl 4 rfl) ?_
  refine x_const hC dL_law_1056 ?_
  refine x_iadd hC dL_law_1057 ?_
  refine x_sld hC hw hX hbl hbA (by omega) (by omega) (by omega) dL_law_1058 ?_
  obtain ⟨z_3, hz_3⟩ : ∃ z : Int, z = (xs (i + 3).toNat).toInt := ⟨_, rfl⟩
  rw [← hz_3]
  have hrz_3 : -2147483648 ≤ z_3 ∧ z_3 ≤ 2147483647 := by rw [hz_3]; exact iN_rng _
  refine x_if_eq (tgt := 1066) hC ⟨by omega, by omega⟩ dL_law_1059 (by decide) (fun c_4 => ?_) (fun c_4 => ?_)
  · refine x_const hC dL_law_1066 ?_
    refine lv_aload_n hC.1 hC.2.1 dL_law_1067 rfl (lv_at hl 3 rfl) ?_
    refine x_callSW hC hw (lv_size hl) ((c_L_thin l G hst hG hdA (p0 := z_1) (by omega) (p1 := z_2) (by omega) (p2 := 0) (by omega) (by omega)).frame hdB) gL_law_L_thin rfl dv_L_thin_s rfl (Nat.le_of_ble_eq_true rfl) (by rw [hRf]; decide) (by rw [hRl]; decide) (by omega) (by omega) dL_law_1068 (fun r9 M1 H locs hq hw => ?_)
    obtain ⟨Ck_5, ⟨⟨zk_5, hrk_5⟩, Ak_5, dk_5, svk_5, hG, hCk_5, hdA⟩, hMk_5, hdB⟩ := hq
    subst hrk_5
    subst hCk_5
    subst hMk_5
    show W p l e R s m args below meth c H locs _ _ _ (F0 m 1071 ls [.int (iN (zk_5))])
    refine lv_istore (lv' := [(5, .int (iN (zk_5))), (0, .ref b), (1, .ref h0), (2, .ref a), (3, .ref o), (4, .int (iN (i)))]) hC.1 hC.2.1 dL_law_1071 hl (by decide) rfl (fun ls hl => ?_)
    refine lv_aload_n hC.1 hC.2.1 dL_law_1073 rfl (lv_at hl 3 rfl) ?_
    refine lv_aload_n hC.1 hC.2.1 dL_law_1074 rfl (lv_at hl 1 rfl) ?_
    refine lv_iload hC.1 hC.2.1 dL_law_1075 (lv_at hl 5 rfl) ?_
    refine x_const hC dL_law_1077 ?_
    refine x_iadd hC dL_law_1078 ?_
    refine x_sld hC hw hX hbl hbA (by omega) (by omega) (by omega) dL_law_1079 ?_
    obtain ⟨z_6, hz_6⟩ : ∃ z : Int, z = (xs (i + 1).toNat).toInt := ⟨_, rfl⟩
    rw [← hz_6]
    have hrz_6 : -2147483648 ≤ z_6 ∧ z_6 ≤ 2147483647 := by rw [hz_6]; exact iN_rng _
    refine lv_aload_n hC.1 hC.2.1 dL_law_1080 rfl (lv_at hl 1 rfl) ?_
    refine lv_iload hC.1 hC.2.1 dL_law_1081 (lv_at hl 5 rfl) ?_
    refine x_const hC dL_law_1083 ?_
    refine x_iadd hC dL_law_1084 ?_
    refine x_sld hC hw hX hbl hbA (by omega) (by omega) (by omega) dL_law_1085 ?_
    obtain ⟨z_7, hz_7⟩ : ∃ z : Int, z = (xs (i + 2).toNat).toInt := ⟨_, rfl⟩
    rw [← hz_7]
    have hrz_7 : -2147483648 ≤ z_7 ∧ z_7 ≤ 2147483647 := by rw [hz_7]; exact iN_rng _
    refine lv_aload_n hC.1 hC.2.1 dL_law_1086 rfl (lv_at hl 1 rfl) ?_
    refine lv_iload hC.1 hC.2.1 dL_law_1087 (lv_at hl 5 rfl) ?_
    refine x_const hC dL_law_1089 ?_
    refine x_iadd hC dL_law_1090 ?_
    refine x_sld hC hw hX hbl hbA (by omega) (by omega) (by omega) dL_law_1091 ?_
    obtain ⟨z_8, hz_8⟩ : ∃ z : Int, z = (xs (i + 3).toNat).toInt := ⟨_, rfl⟩
    rw [← hz_8]
    have hrz_8 : -2147483648 ≤ z_8 ∧ z_8 ≤ 2147483647 := by rw [hz_8]; exact iN_rng _
    refine x_if_eq (tgt := 1099) hC ⟨by omega, by omega⟩ dL_law_1092 (by decide) (fun c_9 => ?_) (fun c_9 => ?_)
    · refine x_const hC dL_law_1099 ?_
      rw [xU_comm hdB] at hw
      obtain ⟨va, oa, wa, ya, wk, th, br, re, la, ha, kp, kv, qv, qw, fa, fb, fvv, fw, fo, fy, hR⟩ := hm
      refine x_callV hC hw (lv_size hl) ((c_X5_thin l G hR (p0 := z_6) (by omega) (p1 := z_7) (by omega) (p2 := 0) (by omega)).frame hdB.symm) gL_law_X5_thin rfl dv_X5_thin (xU_l hR.1.1) rfl rfl (Nat.le_of_ble_eq_true rfl) (by rw [hRf]; decide) (by rw [hRl]; decide) (by omega) (by omega) dL_law_1100 (fun r9 M1 H locs hq hw => ?_)
      obtain ⟨Bk_10, ⟨zk_10, hrk_10, hzk_10, hm⟩, hMk_10, hdB9⟩ := hq
      subst hrk_10
      subst hMk_10
      have hdB := hdB9.symm
      rw [xU_comm hdB9] at hw
      show W p l e R s m args below meth c H locs _ _ _ (F0 m 1103 ls [.int (iN (zk_10))])
      refine lv_istore (lv' := [(6, .int (iN (zk_10))), (5, .int (iN (zk_5))), (0, .ref b), (1, .ref h0), (2, .ref a), (3, .ref o), (4, .int (iN (i)))]) hC.1 hC.2.1 dL_law_1103 hl (by decide) rfl (fun ls hl => ?_)
      refine lv_goto (tgt := 2555) hC.1 hC.2.1 dL_law_1105 (by decide) ?_
      refine W.widen (k := cu + 3) (n := su + (18)) (by omega) (by omega) ?_
      exact kk _ _ _ _ rf S hw ⟨_, _, _, _, rfl, hG, hm, hdA, hdB⟩ (lv_sub hl [2, 3, 4, 5, 6] rfl) (Nat.le_refl _)
    · refine x_const hC dL_law_1095 ?_
      refine lv_goto (tgt := 1100) hC.1 hC.2.1 dL_law_1096 (by decide) ?_
      rw [xU_comm hdB] at hw
      obtain ⟨va, oa, wa, ya, wk, th, br, re, la, ha, kp, kv, qv, qw, fa, fb, fvv, fw, fo, fy, hR⟩ := hm
      refine x_callV hC hw (lv_size hl) ((c_X5_thin l G hR (p0 := z_6) (by omega) (p1 := z_7) (by omega) (p2 := 1) (by omega)).frame hdB.symm) gL_law_X5_thin rfl dv_X5_thin (xU_l hR.1.1) rfl rfl (Nat.le_of_ble_eq_true rfl) (by rw [hRf]; decide) (by rw [hRl]; decide) (by omega) (by omega) dL_law_1100 (fun r9 M1 H locs hq hw => ?_)
      obtain ⟨Bk_11, ⟨zk_11, hrk_11, hzk_11, hm⟩, hMk_11, hdB9⟩ := hq
      subst hrk_11
      subst hMk_11
      have hdB := hdB9.symm
      rw [xU_comm hdB9] at hw
      show W p l e R s m args below meth c H locs _ _ _ (F0 m 1103 ls [.int (iN (zk_11))])
      refine lv_istore (lv' := [(6, .int (iN (zk_11))), (5, .int (iN (zk_5))), (0, .ref b), (1, .ref h0), (2, .ref a), (3, .ref o), (4, .int (iN (i)))]) hC.1 hC.2.1 dL_law_1103 hl (by decide) rfl (fun ls hl => ?_)
      refine lv_goto (tgt := 2555) hC.1 hC.2.1 dL_law_1105 (by decide) ?_
      refine W.widen (k := cu + 3) (n := su + (18)) (by omega) (by omega) ?_
      exact kk _ _ _ _ rf S hw ⟨_, _, _, _, rfl, hG, hm, hdA, hdB⟩ (lv_sub hl [2, 3, 4, 5, 6] rfl) (Nat.le_refl _)
  · refine x_const hC dL_law_1062 ?_
    refine lv_goto (tgt := 1067) hC.1 hC.2.1 dL_law_1063 (by decide) ?_
    refine lv_aload_n hC.1 hC.2.1 dL_law_1067 rfl (lv_at hl 3 rfl) ?_
    refine x_callSW hC hw (lv_size hl) ((c_L_thin l G hst hG hdA (p0 := z_1) (by omega) (p1 := z_2) (by omega) (p2 := 1) (by omega) (by omega)).frame hdB) gL_law_L_thin rfl dv_L_thin_s rfl (Nat.le_of_ble_eq_true rfl) (by rw [hRf]; decide) (by rw [hRl]; decide) (by omega) (by omega) dL_law_1068 (fun r9 M1 H locs hq hw => ?_)
    obtain ⟨Ck_12, ⟨⟨zk_12, hrk_12⟩, Ak_12, dk_12, svk_12, hG, hCk_12, hdA⟩, hMk_12, hdB⟩ := hq
    subst hrk_12
    subst hCk_12
    subst hMk_12
    show W p l e R s m args below meth c H locs _ _ _ (F0 m 1071 ls [.int (iN (zk_12))])
    refine lv_istore (lv' := [(5, .int (iN (zk_12))), (0, .ref b), (1, .ref h0), (2, .ref a), (3, .ref o), (4, .int (iN (i)))]) hC.1 hC.2.1 dL_law_1071 hl (by decide) rfl (fun ls hl => ?_)
    refine lv_aload_n hC.1 hC.2.1 dL_law_1073 rfl (lv_at hl 3 rfl) ?_
    refine lv_aload_n hC.1 hC.2.1 dL_law_1074 rfl (lv_at hl 1 rfl) ?_
    refine lv_iload hC.1 hC.2.1 dL_law_1075 (lv_at hl 5 rfl) ?_
    refine x_const hC dL_law_1077 ?_
    refine x_iadd hC dL_law_1078 ?_
    refine x_sld hC hw hX hbl hbA (by omega) (by omega) (by omega) dL_law_1079 ?_
    obtain ⟨z_13, hz_13⟩ : ∃ z : Int, z = (xs (i + 1).toNat).toInt := ⟨_, rfl⟩
    rw [← hz_13]
    have hrz_13 : -2147483648 ≤ z_13 ∧ z_13 ≤ 2147483647 := by rw [hz_13]; exact iN_rng _
    refine lv_aload_n hC.1 hC.2.1 dL_law_1080 rfl (lv_at hl 1 rfl) ?_
    refine lv_iload hC.1 hC.2.1 dL_law_1081 (lv_at hl 5 rfl) ?_
    refine x_const hC dL_law_1083 ?_
    refine x_iadd hC dL_law_1084 ?_
    refine x_sld hC hw hX hbl hbA (by omega) (by omega) (by omega) dL_law_1085 ?_
    obtain ⟨z_14, hz_14⟩ : ∃ z : Int, z = (xs (i + 2).toNat).toInt := ⟨_, rfl⟩
    rw [← hz_14]
    have hrz_14 : -2147483648 ≤ z_14 ∧ z_14 ≤ 2147483647 := by rw [hz_14]; exact iN_rng _
    refine lv_aload_n hC.1 hC.2.1 dL_law_1086 rfl (lv_at hl 1 rfl) ?_
    refine lv_iload hC.1 hC.2.1 dL_law_1087 (lv_at hl 5 rfl) ?_
    refine x_const hC dL_law_1089 ?_
    refine x_iadd hC dL_law_1090 ?_
    refine x_sld hC hw hX hbl hbA (by omega) (by omega) (by omega) dL_law_1091 ?_
    obtain ⟨z_15, hz_15⟩ : ∃ z : Int, z = (xs (i + 3).toNat).toInt := ⟨_, rfl⟩
    rw [← hz_15]
    have hrz_15 : -2147483648 ≤ z_15 ∧ z_15 ≤ 2147483647 := by rw [hz_15]; exact iN_rng _
    refine x_if_eq (tgt := 1099) hC ⟨by omega, by omega⟩ dL_law_1092 (by decide) (fun c_16 => ?_) (fun c_16 => ?_)
    · refine x_const hC dL_law_1099 ?_
      rw [xU_comm hdB] at hw
      obtain ⟨va, oa, wa, ya, wk, th, br, re, la, ha, kp, kv, qv, qw, fa, fb, fvv, fw, fo, fy, hR⟩ := hm
      refine x_callV hC hw (lv_size hl) ((c_X5_thin l G hR (p0 := z_13) (by omega) (p1 := z_14) (by omega) (p2 := 0) (by omega)).frame hdB.symm) gL_law_X5_thin rfl dv_X5_thin (xU_l hR.1.1) rfl rfl (Nat.le_of_ble_eq_true rfl) (by rw [hRf]; decide) (by rw [hRl]; decide) (by omega) (by omega) dL_law_1100 (fun r9 M1 H locs hq hw => ?_)
      obtain ⟨Bk_17, ⟨zk_17, hrk_17, hzk_17, hm⟩, hMk_17, hdB9⟩ := hq
      subst hrk_17
      subst hMk_17
      have hdB := hdB9.symm
      rw [xU_comm hdB9] at hw
      show W p l e R s m args below meth c H locs _ _ _ (F0 m 1103 ls [.int (iN (zk_17))])
      refine lv_istore (lv' := [(6, .int (iN (zk_17))), (5, .int (iN (zk_12))), (0, .ref b), (1, .ref h0), (2, .ref a), (3, .ref o), (4, .int (iN (i)))]) hC.1 hC.2.1 dL_law_1103 hl (by decide) rfl (fun ls hl => ?_)
      refine lv_goto (tgt := 2555) hC.1 hC.2.1 dL_law_1105 (by decide) ?_
      refine W.widen (k := cu + 3) (n := su + (18)) (by omega) (by omega) ?_
      exact kk _ _ _ _ rf S hw ⟨_, _, _, _, rfl, hG, hm, hdA, hdB⟩ (lv_sub hl [2, 3, 4, 5, 6] rfl) (Nat.le_refl _)
    · refine x_const hC dL_law_1095 ?_
      refine lv_goto (tgt := 1100) hC.1 hC.2.1 dL_law_1096 (by decide) ?_
      rw [xU_comm hdB] at hw
      obtain ⟨va, oa, wa, ya, wk, th, br, re, la, ha, kp, kv, qv, qw, fa, fb, fvv, fw, fo, fy, hR⟩ := hm
      refine x_callV hC hw (lv_size hl) ((c_X5_thin l G hR (p0 := z_13) (by omega) (p1 := z_14) (by omega) (p2 := 1) (by omega)).frame hdB.symm) gL_law_X5_thin rfl dv_X5_thin (xU_l hR.1.1) rfl rfl (Nat.le_of_ble_eq_true rfl) (by rw [hRf]; decide) (by rw [hRl]; decide) (by omega) (by omega) dL_law_1100 (fun r9 M1 H locs hq hw => ?_)
      obtain ⟨Bk_18, ⟨zk_18, hrk_18, hzk_18, hm⟩, hMk_18, hdB9⟩ := hq
      subst hrk_18
      subst hMk_18
      have hdB := hdB9.symm
      rw [xU_comm hdB9] at hw
      show W p l e R s m args below meth c H locs _ _ _ (F0 m 1103 ls [.int (iN (zk_18))])
      refine lv_istore (lv' := [(6, .int (iN (zk_18))), (5, .int (iN (zk_12))), (0, .ref b), (1, .ref h0), (2, .ref a), (3, .ref o), (4, .int (iN (i)))]) hC.1 hC.2.1 dL_law_1103 hl (by decide) rfl (fun ls hl => ?_)
      refine lv_goto (tgt := 2555) hC.1 hC.2.1 dL_law_1105 (by decide) ?_
      refine W.widen (k := cu + 3) (n := su + (18)) (by omega) (by omega) ?_
      exact kk _ _ _ _ rf S hw ⟨_, _, _, _, rfl, hG, hm, hdA, hdB⟩ (lv_sub hl [2, 3, 4, 5, 6] rfl) (Nat.le_refl _)
set_option maxHeartbeats 8000000 in
set_option maxRecDepth 100000 in
theorem k_18 {p : Program} {l : Launch} {e : Env} {R : Room} {s : State} {m : MethodId} {args : Array Value} {below : List Frame} {meth : Method} {c : Code} {Q : State → Prop} {G : xG} {b L : Nat} {xs : Nat → Int32} {nm : String} (hst : l.stackTraces = false) (hRf : R.frames = 2048) {C9 S9 : Nat} (hRc : R.cells = C9) (hRs : R.slots = S9) (hC9 : 600000 ≤ C9) (hS9 : 7060000 ≤ S9) (hRl : R.locals = 84000) (hC : xB p s m args meth c cL_law 7 "RangeledgerLaw" nm wsL_law (some .boolean) G (xA (fun _ => none) s.heap.size)) (hX : va_X b L xs s s.heap) (hbl : b < s.heap.size) (hL : L ≤ 3072) {h0 a o : Nat} {rf : Int32} {S : Nat → Bool} {M : HM} {H : Heap} {locs : List Loc} {ls : Array Slot} {i : Int} {cu su : Nat} (hw : xD G (xA (fun _ => none) s.heap.size) s M H locs) (hS : LwS G M h0 a o rf S) (hl : lv_has ls 7 [(0, .ref b), (1, .ref h0), (2, .ref a), (3, .ref o), (4, .int (iN (i)))]) (hi : 0 ≤ i ∧ i + 6 ≤ L) (hcu : cu + 1000 ≤ C9) (hsu : su + 15590 ≤ S9) (kk : ∀ (M1 : HM) (H1 : Heap) (locs1 : List Loc) (ls1 : Array Slot) (rf1 : Int32) (S1 : Nat → Bool), xD G (xA (fun _ => none) s.heap.size) s M1 H1 locs1 → LwS G M1 h0 a o rf1 S1 → lv_has ls1 7 [(0, .ref b), (1, .ref h0), (2, .ref a), (3, .ref o), (4, .int (iN (i)))] → mC S1 100 ≤ mC S 100 + 0 → W p l e R s m args below meth c H1 locs1 (cu + 5) (su + (30)) Q (F0 m 2555 ls1 [])) : W p l e R s m args below meth c H locs cu su Q (F0 m 1108 ls []) := by
  obtain ⟨A, B, d, sv, hM, hG, hm, hdA, hdB⟩ := hS
  subst hM
  have hbA : ¬ (xA (fun _ => none) s.heap.size) b := fun h9 => h9.elim (fun h8 => h8 rfl) (fun h8 => by omega)
  refine lv_aload_n hC.1 hC.2.1 dL_law_1108 rfl (lv_at hl 1 rfl) ?_
  refine lv_aload_n hC.1 hC.2.1 dL_law_1109 rfl (lv_at hl 0 rfl) ?_
  refine lv_iload hC.1 hC.2.1 dL_law_1110 (lv_at hl 4 rfl) ?_
  refine x_const hC dL_law_1112 ?_
  refine x_iadd hC dL_law_1113 ?_
  refine x_sld hC hw hX hbl hbA (by omega) (by omega) (by omega) dL_law_1114 ?_
  obtain ⟨z_1, hz_1⟩ : ∃ z : Int, z = (xs (i + 1).toNat).toInt := ⟨_, rfl⟩
  rw [← hz_1]
  have hrz_1 : -2147483648 ≤ z_1 ∧ z_1 ≤ 2147483647 := by rw [hz_1]; exact iN_rng _
  refine lv_aload_n hC.1 hC.2.1 dL_law_1115 rfl (lv_at hl 0 rfl) ?_
  refine lv_iload hC.1 hC.2.1 dL_law_1116 (lv_at hl 4 rfl) ?_
  refine x_const hC dL_law_1118 ?_
  refine x_iadd hC dL_law_1119 ?_
  refine x_sld hC hw hX hbl hbA (by omega) (by omega) (by omega) dL_law_1120 ?_
  obtain ⟨z_2, hz_2⟩ : ∃ z : Int, z = (xs (i + 2).toNat).toInt := ⟨_, rfl⟩
  rw [← hz_2]
  have hrz_2 : -2147483648 ≤ z_2 ∧ z_2 ≤ 2147483647 := by rw [hz_2]; exact iN_rng _
  refine lv_aload_n hC.1 hC.2.1 dL_law_1121 rfl (lv_at hl 0 rfl) ?_
  refine lv_iload hC.1 hC.2.1 dL_law_1122 (lv_at hl 4 rfl) ?_
  refine x_const hC dL_law_1124 ?_
  refine x_iadd hC dL_law_1125 ?_
  refine x_sld hC hw hX hbl hbA (by omega) (by omega) (by omega) dL_law_1126 ?_
  obtain ⟨z_3, hz_3⟩ : ∃ z : Int, z = (xs (i + 3).toNat).toInt := ⟨_, rfl⟩
  rw [← hz_3]
  have hrz_3 : -2147483648 ≤ z_3 ∧ z_3 ≤ 2147483647 := by rw [hz_3]; exact iN_rng _
  refine x_if_eq (tgt := 1134) hC ⟨by omega, by omega⟩ dL_law_1127 (by decide) (fun c_4 => ?_) (fun c_4 => ?_)
  · refine x_const hC dL_law_1134 ?_
    refine lv_aload_n hC.1 hC.2.1 dL_law_1135 rfl (lv_at hl 3 rfl) ?_
    refine x_callSW hC hw (lv_size hl) ((c_L_head l G hst hG hdA (p0 := z_1) (by omega) (p1 := z_2) (by omega) (p2 := 0) (by omega) (by omega)).frame hdB) gL_law_L_head rfl dv_L_head_s rfl (Nat.le_of_ble_eq_true rfl) (by rw [hRf]; decide) (by rw [hRl]; decide) (by omega) (by omega) dL_law_1136 (fun r9 M1 H locs hq hw => ?_)
    obtain ⟨Ck_5, ⟨⟨zk_5, hrk_5⟩, Ak_5, dk_5, svk_5, hG, hCk_5, hdA⟩, hMk_5, hdB⟩ := hq
    subst hrk_5
    subst hCk_5
    subst hMk_5
    show W p l e R s m args below meth c H locs _ _ _ (F0 m 1139 ls [.int (iN (zk_5))])
    refine lv_istore (lv' := [(5, .int (iN (zk_5))), (0, .ref b), (1, .ref h0), (2, .ref a), (3, .ref o), (4, .int (iN (i)))]) hC.1 hC.2.1 dL_law_1139 hl (by decide) rfl (fun ls hl => ?_)
    refine lv_aload_n hC.1 hC.2.1 dL_law_1141 rfl (lv_at hl 3 rfl) ?_
    refine lv_aload_n hC.1 hC.2.1 dL_law_1142 rfl (lv_at hl 1 rfl) ?_
    refine lv_iload hC.1 hC.2.1 dL_law_1143 (lv_at hl 5 rfl) ?_
    refine x_const hC dL_law_1145 ?_
    refine x_iadd hC dL_law_1146 ?_
    refine x_sld hC hw hX hbl hbA (by omega) (by omega) (by omega) dL_law_1147 ?_
    obtain ⟨z_6, hz_6⟩ : ∃ z : Int, z = (xs (i + 1).toNat).toInt := ⟨_, rfl⟩
    rw [← hz_6]
    have hrz_6 : -2147483648 ≤ z_6 ∧ z_6 ≤ 2147483647 := by rw [hz_6]; exact iN_rng _
    refine lv_aload_n hC.1 hC.2.1 dL_law_1148 rfl (lv_at hl 1 rfl) ?_
    refine lv_iload hC.1 hC.2.1 dL_law_1149 (lv_at hl 5 rfl) ?_
    refine x_const hC dL_law_1151 ?_
    refine x_iadd hC dL_law_1152 ?_
    refine x_sld hC hw hX hbl hbA (by omega) (by omega) (by omega) dL_law_1153 ?_
    obtain ⟨z_7, hz_7⟩ : ∃ z : Int, z = (xs (i + 2).toNat).toInt := ⟨_, rfl⟩
    rw [← hz_7]
    have hrz_7 : -2147483648 ≤ z_7 ∧ z_7 ≤ 2147483647 := by rw [hz_7]; exact iN_rng _
    refine lv_aload_n hC.1 hC.2.1 dL_law_1154 rfl (lv_at hl 1 rfl) ?_
    refine lv_iload hC.1 hC.2.1 dL_law_1155 (lv_at hl 5 rfl) ?_
    refine x_const hC dL_law_1157 ?_
    refine x_iadd hC dL_law_1158 ?_
    refine x_sld hC hw hX hbl hbA (by omega) (by omega) (by omega) dL_law_1159 ?_
    obtain ⟨z_8, hz_8⟩ : ∃ z : Int, z = (xs (i + 3).toNat).toInt := ⟨_, rfl⟩
    rw [← hz_8]
    have hrz_8 : -2147483648 ≤ z_8 ∧ z_8 ≤ 2147483647 := by rw [hz_8]; exact iN_rng _
    refine x_if_eq (tgt := 1167) hC ⟨by omega, by omega⟩ dL_law_1160 (by decide) (fun c_9 => ?_) (fun c_9 => ?_)
    · refine x_const hC dL_law_1167 ?_
      rw [xU_comm hdB] at hw
      obtain ⟨va, oa, wa, ya, wk, th, br, re, la, ha, kp, kv, qv, qw, fa, fb, fvv, fw, fo, fy, hR⟩ := hm
      refine x_callV hC hw (lv_size hl) ((c_X5_head l G hR (p0 := z_6) (by omega) (p1 := z_7) (by omega) (p2 := 0) (by omega) (by omega)).frame hdB.symm) gL_law_X5_head rfl dv_X5_head (xU_l hR.1.1) rfl rfl (Nat.le_of_ble_eq_true rfl) (by rw [hRf]; decide) (by rw [hRl]; decide) (by omega) (by omega) dL_law_1168 (fun r9 M1 H locs hq hw => ?_)
      obtain ⟨Bk_10, ⟨zk_10, hrk_10, hzk_10, hm⟩, hMk_10, hdB9⟩ := hq
      subst hrk_10
      subst hMk_10
      have hdB := hdB9.symm
      rw [xU_comm hdB9] at hw
      show W p l e R s m args below meth c H locs _ _ _ (F0 m 1171 ls [.int (iN (zk_10))])
      refine lv_istore (lv' := [(6, .int (iN (zk_10))), (5, .int (iN (zk_5))), (0, .ref b), (1, .ref h0), (2, .ref a), (3, .ref o), (4, .int (iN (i)))]) hC.1 hC.2.1 dL_law_1171 hl (by decide) rfl (fun ls hl => ?_)
      refine lv_goto (tgt := 2555) hC.1 hC.2.1 dL_law_1173 (by decide) ?_
      refine W.widen (k := cu + 5) (n := su + (30)) (by omega) (by omega) ?_
      exact kk _ _ _ _ rf S hw ⟨_, _, _, _, rfl, hG, hm, hdA, hdB⟩ (lv_sub hl [2, 3, 4, 5, 6] rfl) (Nat.le_refl _)
    · refine x_const hC dL_law_1163 ?_
      refine lv_goto (tgt := 1168) hC.1 hC.2.1 dL_law_1164 (by decide) ?_
      rw [xU_comm hdB] at hw
      obtain ⟨va, oa, wa, ya, wk, th, br, re, la, ha, kp, kv, qv, qw, fa, fb, fvv, fw, fo, fy, hR⟩ := hm
      refine x_callV hC hw (lv_size hl) ((c_X5_head l G hR (p0 := z_6) (by omega) (p1 := z_7) (by omega) (p2 := 1) (by omega) (by omega)).frame hdB.symm) gL_law_X5_head rfl dv_X5_head (xU_l hR.1.1) rfl rfl (Nat.le_of_ble_eq_true rfl) (by rw [hRf]; decide) (by rw [hRl]; decide) (by omega) (by omega) dL_law_1168 (fun r9 M1 H locs hq hw => ?_)
      obtain ⟨Bk_11, ⟨zk_11, hrk_11, hzk_11, hm⟩, hMk_11, hdB9⟩ := hq
      subst hrk_11
      subst hMk_11
      have hdB := hdB9.symm
      rw [xU_comm hdB9] at hw
      show W p l e R s m args below meth c H locs _ _ _ (F0 m 1171 ls [.int (iN (zk_11))])
      refine lv_istore (lv' := [(6, .int (iN (zk_11))), (5, .int (iN (zk_5))), (0, .ref b), (1, .ref h0), (2, .ref a), (3, .ref o), (4, .int (iN (i)))]) hC.1 hC.2.1 dL_law_1171 hl (by decide) rfl (fun ls hl => ?_)
      refine lv_goto (tgt := 2555) hC.1 hC.2.1 dL_law_1173 (by decide) ?_
      refine W.widen (k := cu + 5) (n := su + (30)) (by omega) (by omega) ?_
      exact kk _ _ _ _ rf S hw ⟨_, _, _, _, rfl, hG, hm, hdA, hdB⟩ (lv_sub hl [2, 3, 4, 5, 6] rfl) (Nat.le_refl _)
  · refine x_const hC dL_law_1130 ?_
    refine lv_goto (tgt := 1135) hC.1 hC.2.1 dL_law_1131 (by decide) ?_
    refine lv_aload_n hC.1 hC.2.1 dL_law_1135 rfl (lv_at hl 3 rfl) ?_
    refine x_callSW hC hw (lv_size hl) ((c_L_head l G hst hG hdA (p0 := z_1) (by omega) (p1 := z_2) (by omega) (p2 := 1) (by omega) (by omega)).frame hdB) gL_law_L_head rfl dv_L_head_s rfl (Nat.le_of_ble_eq_true rfl) (by rw [hRf]; decide) (by rw [hRl]; decide) (by omega) (by omega) dL_law_1136 (fun r9 M1 H locs hq hw => ?_)
    obtain ⟨Ck_12, ⟨⟨zk_12, hrk_12⟩, Ak_12, dk_12, svk_12, hG, hCk_12, hdA⟩, hMk_12, hdB⟩ := hq
    subst hrk_12
    subst hCk_12
    subst hMk_12
    show W p l e R s m args below meth c H locs _ _ _ (F0 m 1139 ls [.int (iN (zk_12))])
    refine lv_istore (lv' := [(5, .int (iN (zk_12))), (0, .ref b), (1, .ref h0), (2, .ref a), (3, .ref o), (4, .int (iN (i)))]) hC.1 hC.2.1 dL_law_1139 hl (by decide) rfl (fun ls hl => ?_)
    refine lv_aload_n hC.1 hC.2.1 dL_law_1141 rfl (lv_at hl 3 rfl) ?_
    refine lv_aload_n hC.1 hC.2.1 dL_law_1142 rfl (lv_at hl 1 rfl) ?_
    refine lv_iload hC.1 hC.2.1 dL_law_1143 (lv_at hl 5 rfl) ?_
    refine x_const hC dL_law_1145 ?_
    refine x_iadd hC dL_law_1146 ?_
    refine x_sld hC hw hX hbl hbA (by omega) (by omega) (by omega) dL_law_1147 ?_
    obtain ⟨z_13, hz_13⟩ : ∃ z : Int, z = (xs (i + 1).toNat).toInt := ⟨_, rfl⟩
    rw [← hz_13]
    have hrz_13 : -2147483648 ≤ z_13 ∧ z_13 ≤ 2147483647 := by rw [hz_13]; exact iN_rng _
    refine lv_aload_n hC.1 hC.2.1 dL_law_1148 rfl (lv_at hl 1 rfl) ?_
    refine lv_iload hC.1 hC.2.1 dL_law_1149 (lv_at hl 5 rfl) ?_
    refine x_const hC dL_law_1151 ?_
    refine x_iadd hC dL_law_1152 ?_
    refine x_sld hC hw hX hbl hbA (by omega) (by omega) (by omega) dL_law_1153 ?_
    obtain ⟨z_14, hz_14⟩ : ∃ z : Int, z = (xs (i + 2).toNat).toInt := ⟨_, rfl⟩
    rw [← hz_14]
    have hrz_14 : -2147483648 ≤ z_14 ∧ z_14 ≤ 2147483647 := by rw [hz_14]; exact iN_rng _
    refine lv_aload_n hC.1 hC.2.1 dL_law_1154 rfl (lv_at hl 1 rfl) ?_
    refine lv_iload hC.1 hC.2.1 dL_law_1155 (lv_at hl 5 rfl) ?_
    refine x_const hC dL_law_1157 ?_
    refine x_iadd hC dL_law_1158 ?_
    refine x_sld hC hw hX hbl hbA (by omega) (by omega) (by omega) dL_law_1159 ?_
    obtain ⟨z_15, hz_15⟩ : ∃ z : Int, z = (xs (i + 3).toNat).toInt := ⟨_, rfl⟩
    rw [← hz_15]
    have hrz_15 : -2147483648 ≤ z_15 ∧ z_15 ≤ 2147483647 := by rw [hz_15]; exact iN_rng _
    refine x_if_eq (tgt := 1167) hC ⟨by omega, by omega⟩ dL_law_1160 (by decide) (fun c_16 => ?_) (fun c_16 => ?_)
    · refine x_const hC dL_law_1167 ?_
      rw [xU_comm hdB] at hw
      obtain ⟨va, oa, wa, ya, wk, th, br, re, la, ha, kp, kv, qv, qw, fa, fb, fvv, fw, fo, fy, hR⟩ := hm
      refine x_callV hC hw (lv_size hl) ((c_X5_head l G hR (p0 := z_13) (by omega) (p1 := z_14) (by omega) (p2 := 0) (by omega) (by omega)).frame hdB.symm) gL_law_X5_head rfl dv_X5_head (xU_l hR.1.1) rfl rfl (Nat.le_of_ble_eq_true rfl) (by rw [hRf]; decide) (by rw [hRl]; decide) (by omega) (by omega) dL_law_1168 (fun r9 M1 H locs hq hw => ?_)
      obtain ⟨Bk_17, ⟨zk_17, hrk_17, hzk_17, hm⟩, hMk_17, hdB9⟩ := hq
      subst hrk_17
      subst hMk_17
      have hdB := hdB9.symm
      rw [xU_comm hdB9] at hw
      show W p l e R s m args below meth c H locs _ _ _ (F0 m 1171 ls [.int (iN (zk_17))])
      refine lv_istore (lv' := [(6, .int (iN (zk_17))), (5, .int (iN (zk_12))), (0, .ref b), (1, .ref h0), (2, .ref a), (3, .ref o), (4, .int (iN (i)))]) hC.1 hC.2.1 dL_law_1171 hl (by decide) rfl (fun ls hl => ?_)
      refine lv_goto (tgt := 2555) hC.1 hC.2.1 dL_law_1173 (by decide) ?_
      refine W.widen (k := cu + 5) (n := su + (30)) (by omega) (by omega) ?_
      exact kk _ _ _ _ rf S hw ⟨_, _, _, _, rfl, hG, hm, hdA, hdB⟩ (lv_sub hl [2, 3, 4, 5, 6] rfl) (Nat.le_refl _)
    · refine x_const hC dL_law_1163 ?_
      refine lv_goto (tgt := 1168) hC.1 hC.2.1 dL_law_1164 (by decide) ?_
      rw [xU_comm hdB] at hw
      obtain ⟨va, oa, wa, ya, wk, th, br, re, la, ha, kp, kv, qv, qw, fa, fb, fvv, fw, fo, fy, hR⟩ := hm
      refine x_callV hC hw (lv_size hl) ((c_X5_head l G hR (p0 := z_13) (by omega) (p1 := z_14) (by omega) (p2 := 1) (by omega) (by omega)).frame hdB.symm) gL_law_X5_head rfl dv_X5_head (xU_l hR.1.1) rfl rfl (Nat.le_of_ble_eq_true rfl) (by rw [hRf]; decide) (by rw [hRl]; decide) (by omega) (by omega) dL_law_1168 (fun r9 M1 H locs hq hw => ?_)
      obtain ⟨Bk_18, ⟨zk_18, hrk_18, hzk_18, hm⟩, hMk_18, hdB9⟩ := hq
      subst hrk_18
      subst hMk_18
      have hdB := hdB9.symm
      rw [xU_comm hdB9] at hw
      show W p l e R s m args below meth c H locs _ _ _ (F0 m 1171 ls [.int (iN (zk_18))])
      refine lv_istore (lv' := [(6, .int (iN (zk_18))), (5, .int (iN (zk_12))), (0, .ref b), (1, .ref h0), (2, .ref a), (3, .ref o), (4, .int (iN (i)))]) hC.1 hC.2.1 dL_law_1171 hl (by decide) rfl (fun ls hl => ?_)
      refine lv_goto (tgt := 2555) hC.1 hC.2.1 dL_law_1173 (by decide) ?_
      refine W.widen (k := cu + 5) (n := su + (30)) (by omega) (by omega) ?_
      exact kk _ _ _ _ rf S hw ⟨_, _, _, _, rfl, hG, hm, hdA, hdB⟩ (lv_sub hl [2, 3, 4, 5, 6] rfl) (Nat.le_refl _)
set_option maxHeartbeats 8000000 in
set_option maxRecDepth 100000 in
theorem k_19 {p : Program} {l : Launch} {e : Env} {R : Room} {s : State} {m : MethodId} {args : Array Value} {below : List Frame} {meth : Method} {c : Code} {Q : State → Prop} {G : xG} {b L : Nat} {xs : Nat → Int32} {nm : String} (hst : l.stackTraces = false) (hRf : R.frames = 2048) {C9 S9 : Nat} (hRc : R.cells = C9) (hRs : R.slots = S9) (hC9 : 600000 ≤ C9) (hS9 : 7060000 ≤ S9) (hRl : R.locals = 84000) (hC : xB p s m args meth c cL_law 7 "RangeledgerLaw" nm wsL_law (some .boolean) G (xA (fun _ => none) s.heap.size)) (hX : va_X b L xs s s.heap) (hbl : b < s.heap.size) (hL : L ≤ 3072) {h0 a o : Nat} {rf : Int32} {S : Nat → Bool} {M : HM} {H : Heap} {locs : List Loc} {ls : Array Slot} {i : Int} {cu su : Nat} (hw : xD G (xA (fun _ => none) s.heap.size) s M H locs) (hS : LwS G M h0 a o rf S) (hl : lv_has ls 7 [(0, .ref b), (1, .ref h0), (2, .ref a), (3, .ref o), (4, .int (iN (i)))]) (hi : 0 ≤ i ∧ i + 6 ≤ L) (hcu : cu + 1000 ≤ C9) (hsu : su + 15590 ≤ S9) (kk : ∀ (M1 : HM) (H1 : Heap) (locs1 : List Loc) (ls1 : Array Slot) (rf1 : Int32) (S1 : Nat → Bool), xD G (xA (fun _ => none) s.heap.size) s M1 H1 locs1 → LwS G M1 h0 a o rf1 S1 → lv_has ls1 7 [(0, .ref b), (1, .ref h0), (2, .ref a), (3, .ref o), (4, .int (iN (i)))] → mC S1 100 ≤ mC S 100 + 0 → W p l e R s m args below meth c H1 locs1 (cu + 5) (su + (30)) Q (F0 m 2555 ls1 [])) : W p l e R s m args below meth c H locs cu su Q (F0 m 1176 ls []) := by
  obtain ⟨A, B, d, sv, hM, hG, hm, hdA, hdB⟩ := hS
  subst hM
  have hbA : ¬ (xA (fun _ => none) s.heap.size) b := fun h9 => h9.elim (fun h8 => h8 rfl) (fun h8 => by omega)
  refine lv_aload_n hC.1 hC.2.1 dL_law_1176 rfl (lv_at hl 1 rfl) ?_
  refine lv_aload_n hC.1 hC.2.1 dL_law_1177 rfl (lv_at hl 0 rfl) ?_
  refine lv_iload hC.1 hC.2.1 dL_law_1178 (lv_at hl 4 rfl) ?_
  refine x_const hC dL_law_1180 ?_
  refine x_iadd hC dL_law_1181 ?_
  refine x_sld hC hw hX hbl hbA (by omega) (by omega) (by omega) dL_law_1182 ?_
  obtain ⟨z_1, hz_1⟩ : ∃ z : Int, z = (xs (i + 1).toNat).toInt := ⟨_, rfl⟩
  rw [← hz_1]
  have hrz_1 : -2147483648 ≤ z_1 ∧ z_1 ≤ 2147483647 := by rw [hz_1]; exact iN_rng _
  refine lv_aload_n hC.1 hC.2.1 dL_law_1183 rfl (lv_at hl 0 rfl) ?_
  refine lv_iload hC.1 hC.2.1 dL_law_1184 (lv_at hl 4 rfl) ?_
  refine x_const hC dL_law_1186 ?_
  refine x_iadd hC dL_law_1187 ?_
  refine x_sld hC hw hX hbl hbA (by omega) (by omega) (by omega) dL_law_1188 ?_
  obtain ⟨z_2, hz_2⟩ : ∃ z : Int, z = (xs (i + 2).toNat).toInt := ⟨_, rfl⟩
  rw [← hz_2]
  have hrz_2 : -2147483648 ≤ z_2 ∧ z_2 ≤ 2147483647 := by rw [hz_2]; exact iN_rng _
  refine lv_aload_n hC.1 hC.2.1 dL_law_1189 rfl (lv_at hl 0 rfl) ?_
  refine lv_iload hC.1 hC.2.1 dL_law_1190 (lv_at hl 4 rfl) ?_
  refine x_const hC dL_law_1192 ?_
  refine x_iadd hC dL_law_1193 ?_
  refine x_sld hC hw hX hbl hbA (by omega) (by omega) (by omega) dL_law_1194 ?_
  obtain ⟨z_3, hz_3⟩ : ∃ z : Int, z = (xs (i + 3).toNat).toInt := ⟨_, rfl⟩
  rw [← hz_3]
  have hrz_3 : -2147483648 ≤ z_3 ∧ z_3 ≤ 2147483647 := by rw [hz_3]; exact iN_rng _
  refine x_if_eq (tgt := 1202) hC ⟨by omega, by omega⟩ dL_law_1195 (by decide) (fun c_4 => ?_) (fun c_4 => ?_)
  · refine x_const hC dL_law_1202 ?_
    refine lv_aload_n hC.1 hC.2.1 dL_law_1203 rfl (lv_at hl 3 rfl) ?_
    refine x_callSW hC hw (lv_size hl) ((c_L_tail l G hst hG hdA (p0 := z_1) (by omega) (p1 := z_2) (by omega) (p2 := 0) (by omega) (by omega)).frame hdB) gL_law_L_tail rfl dv_L_tail_s rfl (Nat.le_of_ble_eq_true rfl) (by rw [hRf]; decide) (by rw [hRl]; decide) (by omega) (by omega) dL_law_1204 (fun r9 M1 H locs hq hw => ?_)
    obtain ⟨Ck_5, ⟨⟨zk_5, hrk_5⟩, Ak_5, dk_5, svk_5, hG, hCk_5, hdA⟩, hMk_5, hdB⟩ := hq
    subst hrk_5
    subst hCk_5
    subst hMk_5
    show W p l e R s m args below meth c H locs _ _ _ (F0 m 1207 ls [.int (iN (zk_5))])
    refine lv_istore (lv' := [(5, .int (iN (zk_5))), (0, .ref b), (1, .ref h0), (2, .ref a), (3, .ref o), (4, .int (iN (i)))]) hC.1 hC.2.1 dL_law_1207 hl (by decide) rfl (fun ls hl => ?_)
    refine lv_aload_n hC.1 hC.2.1 dL_law_1209 rfl (lv_at hl 3 rfl) ?_
    refine lv_aload_n hC.1 hC.2.1 dL_law_1210 rfl (lv_at hl 1 rfl) ?_
    refine lv_iload hC.1 hC.2.1 dL_law_1211 (lv_at hl 5 rfl) ?_
    refine x_const hC dL_law_1213 ?_
    refine x_iadd hC dL_law_1214 ?_
    refine x_sld hC hw hX hbl hbA (by omega) (by omega) (by omega) dL_law_1215 ?_
    obtain ⟨z_6, hz_6⟩ : ∃ z : Int, z = (xs (i + 1).toNat).toInt := ⟨_, rfl⟩
    rw [← hz_6]
    have hrz_6 : -2147483648 ≤ z_6 ∧ z_6 ≤ 2147483647 := by rw [hz_6]; exact iN_rng _
    refine lv_aload_n hC.1 hC.2.1 dL_law_1216 rfl (lv_at hl 1 rfl) ?_
    refine lv_iload hC.1 hC.2.1 dL_law_1217 (lv_at hl 5 rfl) ?_
    refine x_const hC dL_law_1219 ?_
    refine x_iadd hC dL_law_1220 ?_
    refine x_sld hC hw hX hbl hbA (by omega) (by omega) (by omega) dL_law_1221 ?_
    obtain ⟨z_7, hz_7⟩ : ∃ z : Int, z = (xs (i + 2).toNat).toInt := ⟨_, rfl⟩
    rw [← hz_7]
    have hrz_7 : -2147483648 ≤ z_7 ∧ z_7 ≤ 2147483647 := by rw [hz_7]; exact iN_rng _
    refine lv_aload_n hC.1 hC.2.1 dL_law_1222 rfl (lv_at hl 1 rfl) ?_
    refine lv_iload hC.1 hC.2.1 dL_law_1223 (lv_at hl 5 rfl) ?_
    refine x_const hC dL_law_1225 ?_
    refine x_iadd hC dL_law_1226 ?_
    refine x_sld hC hw hX hbl hbA (by omega) (by omega) (by omega) dL_law_1227 ?_
    obtain ⟨z_8, hz_8⟩ : ∃ z : Int, z = (xs (i + 3).toNat).toInt := ⟨_, rfl⟩
    rw [← hz_8]
    have hrz_8 : -2147483648 ≤ z_8 ∧ z_8 ≤ 2147483647 := by rw [hz_8]; exact iN_rng _
    refine x_if_eq (tgt := 1235) hC ⟨by omega, by omega⟩ dL_law_1228 (by decide) (fun c_9 => ?_) (fun c_9 => ?_)
    · refine x_const hC dL_law_1235 ?_
      rw [xU_comm hdB] at hw
      obtain ⟨va, oa, wa, ya, wk, th, br, re, la, ha, kp, kv, qv, qw, fa, fb, fvv, fw, fo, fy, hR⟩ := hm
      refine x_callV hC hw (lv_size hl) ((c_X5_tail l G hR (p0 := z_6) (by omega) (p1 := z_7) (by omega) (p2 := 0) (by omega) (by omega)).frame hdB.symm) gL_law_X5_tail rfl dv_X5_tail (xU_l hR.1.1) rfl rfl (Nat.le_of_ble_eq_true rfl) (by rw [hRf]; decide) (by rw [hRl]; decide) (by omega) (by omega) dL_law_1236 (fun r9 M1 H locs hq hw => ?_)
      obtain ⟨Bk_10, ⟨zk_10, hrk_10, hzk_10, hm⟩, hMk_10, hdB9⟩ := hq
      subst hrk_10
      subst hMk_10
      have hdB := hdB9.symm
      rw [xU_comm hdB9] at hw
      show W p l e R s m args below meth c H locs _ _ _ (F0 m 1239 ls [.int (iN (zk_10))])
      refine lv_istore (lv' := [(6, .int (iN (zk_10))), (5, .int (iN (zk_5))), (0, .ref b), (1, .ref h0), (2, .ref a), (3, .ref o), (4, .int (iN (i)))]) hC.1 hC.2.1 dL_law_1239 hl (by decide) rfl (fun ls hl => ?_)
      refine lv_goto (tgt := 2555) hC.1 hC.2.1 dL_law_1241 (by decide) ?_
      refine W.widen (k := cu + 5) (n := su + (30)) (by omega) (by omega) ?_
      exact kk _ _ _ _ rf S hw ⟨_, _, _, _, rfl, hG, hm, hdA, hdB⟩ (lv_sub hl [2, 3, 4, 5, 6] rfl) (Nat.le_refl _)
    · refine x_const hC dL_law_1231 ?_
      refine lv_goto (tgt := 1236) hC.1 hC.2.1 dL_law_1232 (by decide) ?_
      rw [xU_comm hdB] at hw
      obtain ⟨va, oa, wa, ya, wk, th, br, re, la, ha, kp, kv, qv, qw, fa, fb, fvv, fw, fo, fy, hR⟩ := hm
      refine x_callV hC hw (lv_size hl) ((c_X5_tail l G hR (p0 := z_6) (by omega) (p1 := z_7) (by omega) (p2 := 1) (by omega) (by omega)).frame hdB.symm) gL_law_X5_tail rfl dv_X5_tail (xU_l hR.1.1) rfl rfl (Nat.le_of_ble_eq_true rfl) (by rw [hRf]; decide) (by rw [hRl]; decide) (by omega) (by omega) dL_law_1236 (fun r9 M1 H locs hq hw => ?_)
      obtain ⟨Bk_11, ⟨zk_11, hrk_11, hzk_11, hm⟩, hMk_11, hdB9⟩ := hq
      subst hrk_11
      subst hMk_11
      have hdB := hdB9.symm
      rw [xU_comm hdB9] at hw
      show W p l e R s m args below meth c H locs _ _ _ (F0 m 1239 ls [.int (iN (zk_11))])
      refine lv_istore (lv' := [(6, .int (iN (zk_11))), (5, .int (iN (zk_5))), (0, .ref b), (1, .ref h0), (2, .ref a), (3, .ref o), (4, .int (iN (i)))]) hC.1 hC.2.1 dL_law_1239 hl (by decide) rfl (fun ls hl => ?_)
      refine lv_goto (tgt := 2555) hC.1 hC.2.1 dL_law_1241 (by decide) ?_
      refine W.widen (k := cu + 5) (n := su + (30)) (by omega) (by omega) ?_
      exact kk _ _ _ _ rf S hw ⟨_, _, _, _, rfl, hG, hm, hdA, hdB⟩ (lv_sub hl [2, 3, 4, 5, 6] rfl) (Nat.le_refl _)
  · refine x_const hC dL_law_1198 ?_
    refine lv_goto (tgt := 1203) hC.1 hC.2.1 dL_law_1199 (by decide) ?_
    refine lv_aload_n hC.1 hC.2.1 dL_law_1203 rfl (lv_at hl 3 rfl) ?_
    refine x_callSW hC hw (lv_size hl) ((c_L_tail l G hst hG hdA (p0 := z_1) (by omega) (p1 := z_2) (by omega) (p2 := 1) (by omega) (by omega)).frame hdB) gL_law_L_tail rfl dv_L_tail_s rfl (Nat.le_of_ble_eq_true rfl) (by rw [hRf]; decide) (by rw [hRl]; decide) (by omega) (by omega) dL_law_1204 (fun r9 M1 H locs hq hw => ?_)
    obtain ⟨Ck_12, ⟨⟨zk_12, hrk_12⟩, Ak_12, dk_12, svk_12, hG, hCk_12, hdA⟩, hMk_12, hdB⟩ := hq
    subst hrk_12
    subst hCk_12
    subst hMk_12
    show W p l e R s m args below meth c H locs _ _ _ (F0 m 1207 ls [.int (iN (zk_12))])
    refine lv_istore (lv' := [(5, .int (iN (zk_12))), (0, .ref b), (1, .ref h0), (2, .ref a), (3, .ref o), (4, .int (iN (i)))]) hC.1 hC.2.1 dL_law_1207 hl (by decide) rfl (fun ls hl => ?_)
    refine lv_aload_n hC.1 hC.2.1 dL_law_1209 rfl (lv_at hl 3 rfl) ?_
    refine lv_aload_n hC.1 hC.2.1 dL_law_1210 rfl (lv_at hl 1 rfl) ?_
    refine lv_iload hC.1 hC.2.1 dL_law_1211 (lv_at hl 5 rfl) ?_
    refine x_const hC dL_law_1213 ?_
    refine x_iadd hC dL_law_1214 ?_
    refine x_sld hC hw hX hbl hbA (by omega) (by omega) (by omega) dL_law_1215 ?_
    obtain ⟨z_13, hz_13⟩ : ∃ z : Int, z = (xs (i + 1).toNat).toInt := ⟨_, rfl⟩
    rw [← hz_13]
    have hrz_13 : -2147483648 ≤ z_13 ∧ z_13 ≤ 2147483647 := by rw [hz_13]; exact iN_rng _
    refine lv_aload_n hC.1 hC.2.1 dL_law_1216 rfl (lv_at hl 1 rfl) ?_
    refine lv_iload hC.1 hC.2.1 dL_law_1217 (lv_at hl 5 rfl) ?_
    refine x_const hC dL_law_1219 ?_
    refine x_iadd hC dL_law_1220 ?_
    refine x_sld hC hw hX hbl hbA (by omega) (by omega) (by omega) dL_law_1221 ?_
    obtain ⟨z_14, hz_14⟩ : ∃ z : Int, z = (xs (i + 2).toNat).toInt := ⟨_, rfl⟩
    rw [← hz_14]
    have hrz_14 : -2147483648 ≤ z_14 ∧ z_14 ≤ 2147483647 := by rw [hz_14]; exact iN_rng _
    refine lv_aload_n hC.1 hC.2.1 dL_law_1222 rfl (lv_at hl 1 rfl) ?_
    refine lv_iload hC.1 hC.2.1 dL_law_1223 (lv_at hl 5 rfl) ?_
    refine x_const hC dL_law_1225 ?_
    refine x_iadd hC dL_law_1226 ?_
    refine x_sld hC hw hX hbl hbA (by omega) (by omega) (by omega) dL_law_1227 ?_
    obtain ⟨z_15, hz_15⟩ : ∃ z : Int, z = (xs (i + 3).toNat).toInt := ⟨_, rfl⟩
    rw [← hz_15]
    have hrz_15 : -2147483648 ≤ z_15 ∧ z_15 ≤ 2147483647 := by rw [hz_15]; exact iN_rng _
    refine x_if_eq (tgt := 1235) hC ⟨by omega, by omega⟩ dL_law_1228 (by decide) (fun c_16 => ?_) (fun c_16 => ?_)
    · refine x_const hC dL_law_1235 ?_
      rw [xU_comm hdB] at hw
      obtain ⟨va, oa, wa, ya, wk, th, br, re, la, ha, kp, kv, qv, qw, fa, fb, fvv, fw, fo, fy, hR⟩ := hm
      refine x_callV hC hw (lv_size hl) ((c_X5_tail l G hR (p0 := z_13) (by omega) (p1 := z_14) (by omega) (p2 := 0) (by omega) (by omega)).frame hdB.symm) gL_law_X5_tail rfl dv_X5_tail (xU_l hR.1.1) rfl rfl (Nat.le_of_ble_eq_true rfl) (by rw [hRf]; decide) (by rw [hRl]; decide) (by omega) (by omega) dL_law_1236 (fun r9 M1 H locs hq hw => ?_)
      obtain ⟨Bk_17, ⟨zk_17, hrk_17, hzk_17, hm⟩, hMk_17, hdB9⟩ := hq
      subst hrk_17
      subst hMk_17
      have hdB := hdB9.symm
      rw [xU_comm hdB9] at hw
      show W p l e R s m args below meth c H locs _ _ _ (F0 m 1239 ls [.int (iN (zk_17))])
      refine lv_istore (lv' := [(6, .int (iN (zk_17))), (5, .int (iN (zk_12))), (0, .ref b), (1, .ref h0), (2, .ref a), (3, .ref o), (4, .int (iN (i)))]) hC.1 hC.2.1 dL_law_1239 hl (by decide) rfl (fun ls hl => ?_)
      refine lv_goto (tgt := 2555) hC.1 hC.2.1 dL_law_1241 (by decide) ?_
      refine W.widen (k := cu + 5) (n := su + (30)) (by omega) (by omega) ?_
      exact kk _ _ _ _ rf S hw ⟨_, _, _, _, rfl, hG, hm, hdA, hdB⟩ (lv_sub hl [2, 3, 4, 5, 6] rfl) (Nat.le_refl _)
    · refine x_const hC dL_law_1231 ?_
      refine lv_goto (tgt := 1236) hC.1 hC.2.1 dL_law_1232 (by decide) ?_
      rw [xU_comm hdB] at hw
      obtain ⟨va, oa, wa, ya, wk, th, br, re, la, ha, kp, kv, qv, qw, fa, fb, fvv, fw, fo, fy, hR⟩ := hm
      refine x_callV hC hw (lv_size hl) ((c_X5_tail l G hR (p0 := z_13) (by omega) (p1 := z_14) (by omega) (p2 := 1) (by omega) (by omega)).frame hdB.symm) gL_law_X5_tail rfl dv_X5_tail (xU_l hR.1.1) rfl rfl (Nat.le_of_ble_eq_true rfl) (by rw [hRf]; decide) (by rw [hRl]; decide) (by omega) (by omega) dL_law_1236 (fun r9 M1 H locs hq hw => ?_)
      obtain ⟨Bk_18, ⟨zk_18, hrk_18, hzk_18, hm⟩, hMk_18, hdB9⟩ := hq
      subst hrk_18
      subst hMk_18
      have hdB := hdB9.symm
      rw [xU_comm hdB9] at hw
      show W p l e R s m args below meth c H locs _ _ _ (F0 m 1239 ls [.int (iN (zk_18))])
      refine lv_istore (lv' := [(6, .int (iN (zk_18))), (5, .int (iN (zk_12))), (0, .ref b), (1, .ref h0), (2, .ref a), (3, .ref o), (4, .int (iN (i)))]) hC.1 hC.2.1 dL_law_1239 hl (by decide) rfl (fun ls hl => ?_)
      refine lv_goto (tgt := 2555) hC.1 hC.2.1 dL_law_1241 (by decide) ?_
      refine W.widen (k := cu + 5) (n := su + (30)) (by omega) (by omega) ?_
      exact kk _ _ _ _ rf S hw ⟨_, _, _, _, rfl, hG, hm, hdA, hdB⟩ (lv_sub hl [2, 3, 4, 5, 6] rfl) (Nat.le_refl _)
set_option maxHeartbeats 8000000 in
set_option maxRecDepth 100000 in
theorem k_20 {p : Program} {l : Launch} {e : Env} {R : Room} {s : State} {m : MethodId} {args : Array Value} {below : List Frame} {meth : Method} {c : Code} {Q : State → Prop} {G : xG} {b L : Nat} {xs : Nat → Int32} {nm : String} (hst : l.stackTraces = false) (hRf : R.frames = 2048) {C9 S9 : Nat} (hRc : R.cells = C9) (hRs : R.slots = S9) (hC9 : 600000 ≤ C9) (hS9 : 7060000 ≤ S9) (hRl : R.locals = 84000) (hC : xB p s m args meth c cL_law 7 "RangeledgerLaw" nm wsL_law (some .boolean) G (xA (fun _ => none) s.heap.size)) (hX : va_X b L xs s s.heap) (hbl : b < s.heap.size) (hL : L ≤ 3072) {h0 a o : Nat} {rf : Int32} {S : Nat → Bool} {M : HM} {H : Heap} {locs : List Loc} {ls : Array Slot} {i : Int} {cu su : Nat} (hw : xD G (xA (fun _ => none) s.heap.size) s M H locs) (hS : LwS G M h0 a o rf S) (hl : lv_has ls 7 [(0, .ref b), (1, .ref h0), (2, .ref a), (3, .ref o), (4, .int (iN (i)))]) (hi : 0 ≤ i ∧ i + 6 ≤ L) (hcu : cu + 1000 ≤ C9) (hsu : su + 15590 ≤ S9) (kk : ∀ (M1 : HM) (H1 : Heap) (locs1 : List Loc) (ls1 : Array Slot) (rf1 : Int32) (S1 : Nat → Bool), xD G (xA (fun _ => none) s.heap.size) s M1 H1 locs1 → LwS G M1 h0 a o rf1 S1 → lv_has ls1 7 [(0, .ref b), (1, .ref h0), (2, .ref a), (3, .ref o), (4, .int (iN (i)))] → mC S1 100 ≤ mC S 100 + 0 → W p l e R s m args below meth c H1 locs1 (cu + 7) (su + (42)) Q (F0 m 2555 ls1 [])) : W p l e R s m args below meth c H locs cu su Q (F0 m 1244 ls []) := by
  obtain ⟨A, B, d, sv, hM, hG, hm, hdA, hdB⟩ := hS
  subst hM
  have hbA : ¬ (xA (fun _ => none) s.heap.size) b := fun h9 => h9.elim (fun h8 => h8 rfl) (fun h8 => by omega)
  refine lv_aload_n hC.1 hC.2.1 dL_law_1244 rfl (lv_at hl 1 rfl) ?_
  refine lv_aload_n hC.1 hC.2.1 dL_law_1245 rfl (lv_at hl 0 rfl) ?_
  refine lv_iload hC.1 hC.2.1 dL_law_1246 (lv_at hl 4 rfl) ?_
  refine x_const hC dL_law_1248 ?_
  refine x_iadd hC dL_law_1249 ?_
  refine x_sld hC hw hX hbl hbA (by omega) (by omega) (by omega) dL_law_1250 ?_
  obtain ⟨z_1, hz_1⟩ : ∃ z : Int, z = (xs (i + 1).toNat).toInt := ⟨_, rfl⟩
  rw [← hz_1]
  have hrz_1 : -2147483648 ≤ z_1 ∧ z_1 ≤ 2147483647 := by rw [hz_1]; exact iN_rng _
  refine lv_aload_n hC.1 hC.2.1 dL_law_1251 rfl (lv_at hl 0 rfl) ?_
  refine lv_iload hC.1 hC.2.1 dL_law_1252 (lv_at hl 4 rfl) ?_
  refine x_const hC dL_law_1254 ?_
  refine x_iadd hC dL_law_1255 ?_
  refine x_sld hC hw hX hbl hbA (by omega) (by omega) (by omega) dL_law_1256 ?_
  obtain ⟨z_2, hz_2⟩ : ∃ z : Int, z = (xs (i + 2).toNat).toInt := ⟨_, rfl⟩
  rw [← hz_2]
  have hrz_2 : -2147483648 ≤ z_2 ∧ z_2 ≤ 2147483647 := by rw [hz_2]; exact iN_rng _
  refine lv_aload_n hC.1 hC.2.1 dL_law_1257 rfl (lv_at hl 0 rfl) ?_
  refine lv_iload hC.1 hC.2.1 dL_law_1258 (lv_at hl 4 rfl) ?_
  refine x_const hC dL_law_1260 ?_
  refine x_iadd hC dL_law_1261 ?_
  refine x_sld hC hw hX hbl hbA (by omega) (by omega) (by omega) dL_law_1262 ?_
  obtain ⟨z_3, hz_3⟩ : ∃ z : Int, z = (xs (i + 3).toNat).toInt := ⟨_, rfl⟩
  rw [← hz_3]
  have hrz_3 : -2147483648 ≤ z_3 ∧ z_3 ≤ 2147483647 := by rw [hz_3]; exact iN_rng _
  refine x_if_eq (tgt := 1270) hC ⟨by omega, by omega⟩ dL_law_1263 (by decide) (fun c_4 => ?_) (fun c_4 => ?_)
  · refine x_const hC dL_law_1270 ?_
    refine lv_aload_n hC.1 hC.2.1 dL_law_1271 rfl (lv_at hl 0 rfl) ?_
    refine lv_iload hC.1 hC.2.1 dL_law_1272 (lv_at hl 4 rfl) ?_
    refine x_const hC dL_law_1274 ?_
    refine x_iadd hC dL_law_1275 ?_
    refine x_sld hC hw hX hbl hbA (by omega) (by omega) (by omega) dL_law_1276 ?_
    obtain ⟨z_5, hz_5⟩ : ∃ z : Int, z = (xs (i + 4).toNat).toInt := ⟨_, rfl⟩
    rw [← hz_5]
    have hrz_5 : -2147483648 ≤ z_5 ∧ z_5 ≤ 2147483647 := by rw [hz_5]; exact iN_rng _
    refine lv_aload_n hC.1 hC.2.1 dL_law_1277 rfl (lv_at hl 0 rfl) ?_
    refine lv_iload hC.1 hC.2.1 dL_law_1278 (lv_at hl 4 rfl) ?_
    refine x_const hC dL_law_1280 ?_
    refine x_iadd hC dL_law_1281 ?_
    refine x_sld hC hw hX hbl hbA (by omega) (by omega) (by omega) dL_law_1282 ?_
    obtain ⟨z_6, hz_6⟩ : ∃ z : Int, z = (xs (i + 5).toNat).toInt := ⟨_, rfl⟩
    rw [← hz_6]
    have hrz_6 : -2147483648 ≤ z_6 ∧ z_6 ≤ 2147483647 := by rw [hz_6]; exact iN_rng _
    refine x_if_eq (tgt := 1290) hC ⟨by omega, by omega⟩ dL_law_1283 (by decide) (fun c_7 => ?_) (fun c_7 => ?_)
    · refine x_const hC dL_law_1290 ?_
      refine lv_aload_n hC.1 hC.2.1 dL_law_1291 rfl (lv_at hl 3 rfl) ?_
      refine x_callSW hC hw (lv_size hl) ((c_L_sub l G hst hG hdA (p0 := z_1) (by omega) (p1 := z_2) (by omega) (p2 := 0) (by omega) (p3 := z_5) (by omega) (p4 := 0) (by omega) (by omega) (by omega)).frame hdB) gL_law_L_sub rfl dv_L_sub_s rfl (Nat.le_of_ble_eq_true rfl) (by rw [hRf]; decide) (by rw [hRl]; decide) (by omega) (by omega) dL_law_1292 (fun r9 M1 H locs hq hw => ?_)
      obtain ⟨Ck_8, ⟨⟨zk_8, hrk_8⟩, Ak_8, dk_8, svk_8, hG, hCk_8, hdA⟩, hMk_8, hdB⟩ := hq
      subst hrk_8
      subst hCk_8
      subst hMk_8
      show W p l e R s m args below meth c H locs _ _ _ (F0 m 1295 ls [.int (iN (zk_8))])
      refine lv_istore (lv' := [(5, .int (iN (zk_8))), (0, .ref b), (1, .ref h0), (2, .ref a), (3, .ref o), (4, .int (iN (i)))]) hC.1 hC.2.1 dL_law_1295 hl (by decide) rfl (fun ls hl => ?_)
      refine lv_aload_n hC.1 hC.2.1 dL_law_1297 rfl (lv_at hl 3 rfl) ?_
      refine lv_aload_n hC.1 hC.2.1 dL_law_1298 rfl (lv_at hl 1 rfl) ?_
      refine lv_iload hC.1 hC.2.1 dL_law_1299 (lv_at hl 5 rfl) ?_
      refine x_const hC dL_law_1301 ?_
      refine x_iadd hC dL_law_1302 ?_
      refine x_sld hC hw hX hbl hbA (by omega) (by omega) (by omega) dL_law_1303 ?_
      obtain ⟨z_9, hz_9⟩ : ∃ z : Int, z = (xs (i + 1).toNat).toInt := ⟨_, rfl⟩
      rw [← hz_9]
      have hrz_9 : -2147483648 ≤ z_9 ∧ z_9 ≤ 2147483647 := by rw [hz_9]; exact iN_rng _
      refine lv_aload_n hC.1 hC.2.1 dL_law_1304 rfl (lv_at hl 1 rfl) ?_
      refine lv_iload hC.1 hC.2.1 dL_law_1305 (lv_at hl 5 rfl) ?_
      refine x_const hC dL_law_1307 ?_
      refine x_iadd hC dL_law_1308 ?_
      refine x_sld hC hw hX hbl hbA (by omega) (by omega) (by omega) dL_law_1309 ?_
      obtain ⟨z_10, hz_10⟩ : ∃ z : Int, z = (xs (i + 2).toNat).toInt := ⟨_, rfl⟩
      rw [← hz_10]
      have hrz_10 : -2147483648 ≤ z_10 ∧ z_10 ≤ 2147483647 := by rw [hz_10]; exact iN_rng _
      refine lv_aload_n hC.1 hC.2.1 dL_law_1310 rfl (lv_at hl 1 rfl) ?_
      refine lv_iload hC.1 hC.2.1 dL_law_1311 (lv_at hl 5 rfl) ?_
      refine x_const hC dL_law_1313 ?_
      refine x_iadd hC dL_law_1314 ?_
      refine x_sld hC hw hX hbl hbA (by omega) (by omega) (by omega) dL_law_1315 ?_
      obtain ⟨z_11, hz_11⟩ : ∃ z : Int, z = (xs (i + 3).toNat).toInt := ⟨_, rfl⟩
      rw [← hz_11]
      have hrz_11 : -2147483648 ≤ z_11 ∧ z_11 ≤ 2147483647 := by rw [hz_11]; exact iN_rng _
      refine x_if_eq (tgt := 1323) hC ⟨by omega, by omega⟩ dL_law_1316 (by decide) (fun c_12 => ?_) (fun c_12 => ?_)
      · refine x_const hC dL_law_1323 ?_
        refine lv_aload_n hC.1 hC.2.1 dL_law_1324 rfl (lv_at hl 1 rfl) ?_
        refine lv_iload hC.1 hC.2.1 dL_law_1325 (lv_at hl 5 rfl) ?_
        refine x_const hC dL_law_1327 ?_
        refine x_iadd hC dL_law_1328 ?_
        refine x_sld hC hw hX hbl hbA (by omega) (by omega) (by omega) dL_law_1329 ?_
        obtain ⟨z_13, hz_13⟩ : ∃ z : Int, z = (xs (i + 4).toNat).toInt := ⟨_, rfl⟩
        rw [← hz_13]
        have hrz_13 : -2147483648 ≤ z_13 ∧ z_13 ≤ 2147483647 := by rw [hz_13]; exact iN_rng _
        refine lv_aload_n hC.1 hC.2.1 dL_law_1330 rfl (lv_at hl 1 rfl) ?_
        refine lv_iload hC.1 hC.2.1 dL_law_1331 (lv_at hl 5 rfl) ?_
        refine x_const hC dL_law_1333 ?_
        refine x_iadd hC dL_law_1334 ?_
        refine x_sld hC hw hX hbl hbA (by omega) (by omega) (by omega) dL_law_1335 ?_
        obtain ⟨z_14, hz_14⟩ : ∃ z : Int, z = (xs (i + 5).toNat).toInt := ⟨_, rfl⟩
        rw [← hz_14]
        have hrz_14 : -2147483648 ≤ z_14 ∧ z_14 ≤ 2147483647 := by rw [hz_14]; exact iN_rng _
        refine x_if_eq (tgt := 1343) hC ⟨by omega, by omega⟩ dL_law_1336 (by decide) (fun c_15 => ?_) (fun c_15 => ?_)
        · refine x_const hC dL_law_1343 ?_
          rw [xU_comm hdB] at hw
          obtain ⟨va, oa, wa, ya, wk, th, br, re, la, ha, kp, kv, qv, qw, fa, fb, fvv, fw, fo, fy, hR⟩ := hm
          refine x_callV hC hw (lv_size hl) ((c_X5_sub l G hR (p0 := z_9) (by omega) (p1 := z_10) (by omega) (p2 := 0) (by omega) (p3 := z_13) (by omega) (p4 := 0) (by omega) (by omega) (by omega)).frame hdB.symm) gL_law_X5_sub rfl dv_X5_sub (xU_l hR.1.1) rfl rfl (Nat.le_of_ble_eq_true rfl) (by rw [hRf]; decide) (by rw [hRl]; decide) (by omega) (by omega) dL_law_1344 (fun r9 M1 H locs hq hw => ?_)
          obtain ⟨Bk_16, ⟨zk_16, hrk_16, hzk_16, hm⟩, hMk_16, hdB9⟩ := hq
          subst hrk_16
          subst hMk_16
          have hdB := hdB9.symm
          rw [xU_comm hdB9] at hw
          show W p l e R s m args below meth c H locs _ _ _ (F0 m 1347 ls [.int (iN (zk_16))])
          refine lv_istore (lv' := [(6, .int (iN (zk_16))), (5, .int (iN (zk_8))), (0, .ref b), (1, .ref h0), (2, .ref a), (3, .ref o), (4, .int (iN (i)))]) hC.1 hC.2.1 dL_law_1347 hl (by decide) rfl (fun ls hl => ?_)
          refine lv_goto (tgt := 2555) hC.1 hC.2.1 dL_law_1349 (by decide) ?_
          refine W.widen (k := cu + 7) (n := su + (42)) (by omega) (by omega) ?_
          exact kk _ _ _ _ rf S hw ⟨_, _, _, _, rfl, hG, hm, hdA, hdB⟩ (lv_sub hl [2, 3, 4, 5, 6] rfl) (Nat.le_refl _)
        · refine x_const hC dL_law_1339 ?_
          refine lv_goto (tgt := 1344) hC.1 hC.2.1 dL_law_1340 (by decide) ?_
          rw [xU_comm hdB] at hw
          obtain ⟨va, oa, wa, ya, wk, th, br, re, la, ha, kp, kv, qv, qw, fa, fb, fvv, fw, fo, fy, hR⟩ := hm
          refine x_callV hC hw (lv_size hl) ((c_X5_sub l G hR (p0 := z_9) (by omega) (p1 := z_10) (by omega) (p2 := 0) (by omega) (p3 := z_13) (by omega) (p4 := 1) (by omega) (by omega) (by omega)).frame hdB.symm) gL_law_X5_sub rfl dv_X5_sub (xU_l hR.1.1) rfl rfl (Nat.le_of_ble_eq_true rfl) (by rw [hRf]; decide) (by rw [hRl]; decide) (by omega) (by omega) dL_law_1344 (fun r9 M1 H locs hq hw => ?_)
          obtain ⟨Bk_17, ⟨zk_17, hrk_17, hzk_17, hm⟩, hMk_17, hdB9⟩ := hq
          subst hrk_17
          subst hMk_17
          have hdB := hdB9.symm
          rw [xU_comm hdB9] at hw
          show W p l e R s m args below meth c H locs _ _ _ (F0 m 1347 ls [.int (iN (zk_17))])
          refine lv_istore (lv' := [(6, .int (iN (zk_17))), (5, .int (iN (zk_8))), (0, .ref b), (1, .ref h0), (2, .ref a), (3, .ref o), (4, .int (iN (i)))]) hC.1 hC.2.1 dL_law_1347 hl (by decide) rfl (fun ls hl => ?_)
          refine lv_goto (tgt := 2555) hC.1 hC.2.1 dL_law_1349 (by decide) ?_
          refine W.widen (k := cu + 7) (n := su + (42)) (by omega) (by omega) ?_
          exact kk _ _ _ _ rf S hw ⟨_, _, _, _, rfl, hG, hm, hdA, hdB⟩ (lv_sub hl [2, 3, 4, 5, 6] rfl) (Nat.le_refl _)
      · refine x_const hC dL_law_1319 ?_
        refine lv_goto (tgt := 1324) hC.1 hC.2.1 dL_law_1320 (by decide) ?_
        refine lv_aload_n hC.1 hC.2.1 dL_law_1324 rfl (lv_at hl 1 rfl) ?_
        refine lv_iload hC.1 hC.2.1 dL_law_1325 (lv_at hl 5 rfl) ?_
        refine x_const hC dL_law_1327 ?_
        refine x_iadd hC dL_law_1328 ?_
        refine x_sld hC hw hX hbl hbA (by omega) (by omega) (by omega) dL_law_1329 ?_
        obtain ⟨z_18, hz_18⟩ : ∃ z : Int, z = (xs (i + 4).toNat).toInt := ⟨_, rfl⟩
        rw [← hz_18]
        have hrz_18 : -2147483648 ≤ z_18 ∧ z_18 ≤ 2147483647 := by rw [hz_18]; exact iN_rng _
        refine lv_aload_n hC.1 hC.2.1 dL_law_1330 rfl (lv_at hl 1 rfl) ?_
        refine lv_iload hC.1 hC.2.1 dL_law_1331 (lv_at hl 5 rfl) ?_
        refine x_const hC dL_law_1333 ?_
        refine x_iadd hC dL_law_1334 ?_
        refine x_sld hC hw hX hbl hbA (by omega) (by omega) (by omega) dL_law_1335 ?_
        obtain ⟨z_19, hz_19⟩ : ∃ z : Int, z = (xs (i + 5).toNat).toInt := ⟨_, rfl⟩
        rw [← hz_19]
        have hrz_19 : -2147483648 ≤ z_19 ∧ z_19 ≤ 2147483647 := by rw [hz_19]; exact iN_rng _
        refine x_if_eq (tgt := 1343) hC ⟨by omega, by omega⟩ dL_law_1336 (by decide) (fun c_20 => ?_) (fun c_20 => ?_)
        · refine x_const hC dL_law_1343 ?_
          rw [xU_comm hdB] at hw
          obtain ⟨va, oa, wa, ya, wk, th, br, re, la, ha, kp, kv, qv, qw, fa, fb, fvv, fw, fo, fy, hR⟩ := hm
          refine x_callV hC hw (lv_size hl) ((c_X5_sub l G hR (p0 := z_9) (by omega) (p1 := z_10) (by omega) (p2 := 1) (by omega) (p3 := z_18) (by omega) (p4 := 0) (by omega) (by omega) (by omega)).frame hdB.symm) gL_law_X5_sub rfl dv_X5_sub (xU_l hR.1.1) rfl rfl (Nat.le_of_ble_eq_true rfl) (by rw [hRf]; decide) (by rw [hRl]; decide) (by omega) (by omega) dL_law_1344 (fun r9 M1 H locs hq hw => ?_)
          obtain ⟨Bk_21, ⟨zk_21, hrk_21, hzk_21, hm⟩, hMk_21, hdB9⟩ := hq
          subst hrk_21
          subst hMk_21
          have hdB := hdB9.symm
          rw [xU_comm hdB9] at hw
          show W p l e R s m args below meth c H locs _ _ _ (F0 m 1347 ls [.int (iN (zk_21))])
          refine lv_istore (lv' := [(6, .int (iN (zk_21))), (5, .int (iN (zk_8))), (0, .ref b), (1, .ref h0), (2, .ref a), (3, .ref o), (4, .int (iN (i)))]) hC.1 hC.2.1 dL_law_1347 hl (by decide) rfl (fun ls hl => ?_)
          refine lv_goto (tgt := 2555) hC.1 hC.2.1 dL_law_1349 (by decide) ?_
          refine W.widen (k := cu + 7) (n := su + (42)) (by omega) (by omega) ?_
          exact kk _ _ _ _ rf S hw ⟨_, _, _, _, rfl, hG, hm, hdA, hdB⟩ (lv_sub hl [2, 3, 4, 5, 6] rfl) (Nat.le_refl _)
        · refine x_const hC dL_law_1339 ?_
          refine lv_goto (tgt := 1344) hC.1 hC.2.1 dL_law_1340 (by decide) ?_
          rw [xU_comm hdB] at hw
          obtain ⟨va, oa, wa, ya, wk, th, br, re, la, ha, kp, kv, qv, qw, fa, fb, fvv, fw, fo, fy, hR⟩ := hm
          refine x_callV hC hw (lv_size hl) ((c_X5_sub l G hR (p0 := z_9) (by omega) (p1 := z_10) (by omega) (p2 := 1) (by omega) (p3 := z_18) (by omega) (p4 := 1) (by omega) (by omega) (by omega)).frame hdB.symm) gL_law_X5_sub rfl dv_X5_sub (xU_l hR.1.1) rfl rfl (Nat.le_of_ble_eq_true rfl) (by rw [hRf]; decide) (by rw [hRl]; decide) (by omega) (by omega) dL_law_1344 (fun r9 M1 H locs hq hw => ?_)
          obtain ⟨Bk_22, ⟨zk_22, hrk_22, hzk_22, hm⟩, hMk_22, hdB9⟩ := hq
          subst hrk_22
          subst hMk_22
          have hdB := hdB9.symm
          rw [xU_comm hdB9] at hw
          show W p l e R s m args below meth c H locs _ _ _ (F0 m 1347 ls [.int (iN (zk_22))])
          refine lv_istore (lv' := [(6, .int (iN (zk_22))), (5, .int (iN (zk_8))), (0, .ref b), (1, .ref h0), (2, .ref a), (3, .ref o), (4, .int (iN (i)))]) hC.1 hC.2.1 dL_law_1347 hl (by decide) rfl (fun ls hl => ?_)
          refine lv_goto (tgt := 2555) hC.1 hC.2.1 dL_law_1349 (by decide) ?_
          refine W.widen (k := cu + 7) (n := su + (42)) (by omega) (by omega) ?_
          exact kk _ _ _ _ rf S hw ⟨_, _, _, _, rfl, hG, hm, hdA, hdB⟩ (lv_sub hl [2, 3, 4, 5, 6] rfl) (Nat.le_refl _)
    · refine x_const hC dL_law_1286 ?_
      refine lv_goto (tgt := 1291) hC.1 hC.2.1 dL_law_1287 (by decide) ?_
      refine lv_aload_n hC.1 hC.2.1 dL_law_1291 rfl (lv_at hl 3 rfl) ?_
      refine x_callSW hC hw (lv_size hl) ((c_L_sub l G hst hG hdA (p0 := z_1) (by omega) (p1 := z_2) (by omega) (p2 := 0) (by omega) (p3 := z_5) (by omega) (p4 := 1) (by omega) (by omega) (by omega)).frame hdB) gL_law_L_sub rfl dv_L_sub_s rfl (Nat.le_of_ble_eq_true rfl) (by rw [hRf]; decide) (by rw [hRl]; decide) (by omega) (by omega) dL_law_1292 (fun r9 M1 H locs hq hw => ?_)
      obtain ⟨Ck_23, ⟨⟨zk_23, hrk_23⟩, Ak_23, dk_23, svk_23, hG, hCk_23, hdA⟩, hMk_23, hdB⟩ := hq
      subst hrk_23
      subst hCk_23
      subst hMk_23
      show W p l e R s m args below meth c H locs _ _ _ (F0 m 1295 ls [.int (iN (zk_23))])
      refine lv_istore (lv' := [(5, .int (iN (zk_23))), (0, .ref b), (1, .ref h0), (2, .ref a), (3, .ref o), (4, .int (iN (i)))]) hC.1 hC.2.1 dL_law_1295 hl (by decide) rfl (fun ls hl => ?_)
      refine lv_aload_n hC.1 hC.2.1 dL_law_1297 rfl (lv_at hl 3 rfl) ?_
      refine lv_aload_n hC.1 hC.2.1 dL_law_1298 rfl (lv_at hl 1 rfl) ?_
      refine lv_iload hC.1 hC.2.1 dL_law_1299 (lv_at hl 5 rfl) ?_
      refine x_const hC dL_law_1301 ?_
      refine x_iadd hC dL_law_1302 ?_
      refine x_sld hC hw hX hbl hbA (by omega) (by omega) (by omega) dL_law_1303 ?_
      obtain ⟨z_24, hz_24⟩ : ∃ z : Int, z = (xs (i + 1).toNat).toInt := ⟨_, rfl⟩
      rw [← hz_24]
      have hrz_24 : -2147483648 ≤ z_24 ∧ z_24 ≤ 2147483647 := by rw [hz_24]; exact iN_rng _
      refine lv_aload_n hC.1 hC.2.1 dL_law_1304 rfl (lv_at hl 1 rfl) ?_
      refine lv_iload hC.1 hC.2.1 dL_law_1305 (lv_at hl 5 rfl) ?_
      refine x_const hC dL_law_1307 ?_
      refine x_iadd hC dL_law_1308 ?_
      refine x_sld hC hw hX hbl hbA (by omega) (by omega) (by omega) dL_law_1309 ?_
      obtain ⟨z_25, hz_25⟩ : ∃ z : Int, z = (xs (i + 2).toNat).toInt := ⟨_, rfl⟩
      rw [← hz_25]
      have hrz_25 : -2147483648 ≤ z_25 ∧ z_25 ≤ 2147483647 := by rw [hz_25]; exact iN_rng _
      refine lv_aload_n hC.1 hC.2.1 dL_law_1310 rfl (lv_at hl 1 rfl) ?_
      refine lv_iload hC.1 hC.2.1 dL_law_1311 (lv_at hl 5 rfl) ?_
      refine x_const hC dL_law_1313 ?_
      refine x_iadd hC dL_law_1314 ?_
      refine x_sld hC hw hX hbl hbA (by omega) (by omega) (by omega) dL_law_1315 ?_
      obtain ⟨z_26, hz_26⟩ : ∃ z : Int, z = (xs (i + 3).toNat).toInt := ⟨_, rfl⟩
      rw [← hz_26]
      have hrz_26 : -2147483648 ≤ z_26 ∧ z_26 ≤ 2147483647 := by rw [hz_26]; exact iN_rng _
      refine x_if_eq (tgt := 1323) hC ⟨by omega, by omega⟩ dL_law_1316 (by decide) (fun c_27 => ?_) (fun c_27 => ?_)
      · refine x_const hC dL_law_1323 ?_
        refine lv_aload_n hC.1 hC.2.1 dL_law_1324 rfl (lv_at hl 1 rfl) ?_
        refine lv_iload hC.1 hC.2.1 dL_law_1325 (lv_at hl 5 rfl) ?_
        refine x_const hC dL_law_1327 ?_
        refine x_iadd hC dL_law_1328 ?_
        refine x_sld hC hw hX hbl hbA (by omega) (by omega) (by omega) dL_law_1329 ?_
        obtain ⟨z_28, hz_28⟩ : ∃ z : Int, z = (xs (i + 4).toNat).toInt := ⟨_, rfl⟩
        rw [← hz_28]
        have hrz_28 : -2147483648 ≤ z_28 ∧ z_28 ≤ 2147483647 := by rw [hz_28]; exact iN_rng _
        refine lv_aload_n hC.1 hC.2.1 dL_law_1330 rfl (lv_at hl 1 rfl) ?_
        refine lv_iload hC.1 hC.2.1 dL_law_1331 (lv_at hl 5 rfl) ?_
        refine x_const hC dL_law_1333 ?_
        refine x_iadd hC dL_law_1334 ?_
        refine x_sld hC hw hX hbl hbA (by omega) (by omega) (by omega) dL_law_1335 ?_
        obtain ⟨z_29, hz_29⟩ : ∃ z : Int, z = (xs (i + 5).toNat).toInt := ⟨_, rfl⟩
        rw [← hz_29]
        have hrz_29 : -2147483648 ≤ z_29 ∧ z_29 ≤ 2147483647 := by rw [hz_29]; exact iN_rng _
        refine x_if_eq (tgt := 1343) hC ⟨by omega, by omega⟩ dL_law_1336 (by decide) (fun c_30 => ?_) (fun c_30 => ?_)
        · refine x_const hC dL_law_1343 ?_
          rw [xU_comm hdB] at hw
          obtain ⟨va, oa, wa, ya, wk, th, br, re, la, ha, kp, kv, qv, qw, fa, fb, fvv, fw, fo, fy, hR⟩ := hm
          refine x_callV hC hw (lv_size hl) ((c_X5_sub l G hR (p0 := z_24) (by omega) (p1 := z_25) (by omega) (p2 := 0) (by omega) (p3 := z_28) (by omega) (p4 := 0) (by omega) (by omega) (by omega)).frame hdB.symm) gL_law_X5_sub rfl dv_X5_sub (xU_l hR.1.1) rfl rfl (Nat.le_of_ble_eq_true rfl) (by rw [hRf]; decide) (by rw [hRl]; decide) (by omega) (by omega) dL_law_1344 (fun r9 M1 H locs hq hw => ?_)
          obtain ⟨Bk_31, ⟨zk_31, hrk_31, hzk_31, hm⟩, hMk_31, hdB9⟩ := hq
          subst hrk_31
          subst hMk_31
          have hdB := hdB9.symm
          rw [xU_comm hdB9] at hw
          show W p l e R s m args below meth c H locs _ _ _ (F0 m 1347 ls [.int (iN (zk_31))])
          refine lv_istore (lv' := [(6, .int (iN (zk_31))), (5, .int (iN (zk_23))), (0, .ref b), (1, .ref h0), (2, .ref a), (3, .ref o), (4, .int (iN (i)))]) hC.1 hC.2.1 dL_law_1347 hl (by decide) rfl (fun ls hl => ?_)
          refine lv_goto (tgt := 2555) hC.1 hC.2.1 dL_law_1349 (by decide) ?_
          refine W.widen (k := cu + 7) (n := su + (42)) (by omega) (by omega) ?_
          exact kk _ _ _ _ rf S hw ⟨_, _, _, _, rfl, hG, hm, hdA, hdB⟩ (lv_sub hl [2, 3, 4, 5, 6] rfl) (Nat.le_refl _)
        · refine x_const hC dL_law_1339 ?_
          refine lv_goto (tgt := 1344) hC.1 hC.2.1 dL_law_1340 (by decide) ?_
          rw [xU_comm hdB] at hw
          obtain ⟨va, oa, wa, ya, wk, th, br, re, la, ha, kp, kv, qv, qw, fa, fb, fvv, fw, fo, fy, hR⟩ := hm
          refine x_callV hC hw (lv_size hl) ((c_X5_sub l G hR (p0 := z_24) (by omega) (p1 := z_25) (by omega) (p2 := 0) (by omega) (p3 := z_28) (by omega) (p4 := 1) (by omega) (by omega) (by omega)).frame hdB.symm) gL_law_X5_sub rfl dv_X5_sub (xU_l hR.1.1) rfl rfl (Nat.le_of_ble_eq_true rfl) (by rw [hRf]; decide) (by rw [hRl]; decide) (by omega) (by omega) dL_law_1344 (fun r9 M1 H locs hq hw => ?_)
          obtain ⟨Bk_32, ⟨zk_32, hrk_32, hzk_32, hm⟩, hMk_32, hdB9⟩ := hq
          subst hrk_32
          subst hMk_32
          have hdB := hdB9.symm
          rw [xU_comm hdB9] at hw
          show W p l e R s m args below meth c H locs _ _ _ (F0 m 1347 ls [.int (iN (zk_32))])
          refine lv_istore (lv' := [(6, .int (iN (zk_32))), (5, .int (iN (zk_23))), (0, .ref b), (1, .ref h0), (2, .ref a), (3, .ref o), (4, .int (iN (i)))]) hC.1 hC.2.1 dL_law_1347 hl (by decide) rfl (fun ls hl => ?_)
          refine lv_goto (tgt := 2555) hC.1 hC.2.1 dL_law_1349 (by decide) ?_
          refine W.widen (k := cu + 7) (n := su + (42)) (by omega) (by omega) ?_
          exact kk _ _ _ _ rf S hw ⟨_, _, _, _, rfl, hG, hm, hdA, hdB⟩ (lv_sub hl [2, 3, 4, 5, 6] rfl) (Nat.le_refl _)
      · refine x_const hC dL_law_1319 ?_
        refine lv_goto (tgt := 1324) hC.1 hC.2.1 dL_law_1320 (by decide) ?_
        refine lv_aload_n hC.1 hC.2.1 dL_law_1324 rfl (lv_at hl 1 rfl) ?_
        refine lv_iload hC.1 hC.2.1 dL_law_1325 (lv_at hl 5 rfl) ?_
        refine x_const hC dL_law_1327 ?_
        refine x_iadd hC dL_law_1328 ?_
        refine x_sld hC hw hX hbl hbA (by omega) (by omega) (by omega) dL_law_1329 ?_
        obtain ⟨z_33, hz_33⟩ : ∃ z : Int, z = (xs (i + 4).toNat).toInt := ⟨_, rfl⟩
        rw [← hz_33]
        have hrz_33 : -2147483648 ≤ z_33 ∧ z_33 ≤ 2147483647 := by rw [hz_33]; exact iN_rng _
        refine lv_aload_n hC.1 hC.2.1 dL_law_1330 rfl (lv_at hl 1 rfl) ?_
        refine lv_iload hC.1 hC.2.1 dL_law_1331 (lv_at hl 5 rfl) ?_
        refine x_const hC dL_law_1333 ?_
        refine x_iadd hC dL_law_1334 ?_
        refine x_sld hC hw hX hbl hbA (by omega) (by omega) (by omega) dL_law_1335 ?_
        obtain ⟨z_34, hz_34⟩ : ∃ z : Int, z = (xs (i + 5).toNat).toInt := ⟨_, rfl⟩
        rw [← hz_34]
        have hrz_34 : -2147483648 ≤ z_34 ∧ z_34 ≤ 2147483647 := by rw [hz_34]; exact iN_rng _
        refine x_if_eq (tgt := 1343) hC ⟨by omega, by omega⟩ dL_law_1336 (by decide) (fun c_35 => ?_) (fun c_35 => ?_)
        · refine x_const hC dL_law_1343 ?_
          rw [xU_comm hdB] at hw
          obtain ⟨va, oa, wa, ya, wk, th, br, re, la, ha, kp, kv, qv, qw, fa, fb, fvv, fw, fo, fy, hR⟩ := hm
          refine x_callV hC hw (lv_size hl) ((c_X5_sub l G hR (p0 := z_24) (by omega) (p1 := z_25) (by omega) (p2 := 1) (by omega) (p3 := z_33) (by omega) (p4 := 0) (by omega) (by omega) (by omega)).frame hdB.symm) gL_law_X5_sub rfl dv_X5_sub (xU_l hR.1.1) rfl rfl (Nat.le_of_ble_eq_true rfl) (by rw [hRf]; decide) (by rw [hRl]; decide) (by omega) (by omega) dL_law_1344 (fun r9 M1 H locs hq hw => ?_)
          obtain ⟨Bk_36, ⟨zk_36, hrk_36, hzk_36, hm⟩, hMk_36, hdB9⟩ := hq
          subst hrk_36
          subst hMk_36
          have hdB := hdB9.symm
          rw [xU_comm hdB9] at hw
          show W p l e R s m args below meth c H locs _ _ _ (F0 m 1347 ls [.int (iN (zk_36))])
          refine lv_istore (lv' := [(6, .int (iN (zk_36))), (5, .int (iN (zk_23))), (0, .ref b), (1, .ref h0), (2, .ref a), (3, .ref o), (4, .int (iN (i)))]) hC.1 hC.2.1 dL_law_1347 hl (by decide) rfl (fun ls hl => ?_)
          refine lv_goto (tgt := 2555) hC.1 hC.2.1 dL_law_1349 (by decide) ?_
          refine W.widen (k := cu + 7) (n := su + (42)) (by omega) (by omega) ?_
          exact kk _ _ _ _ rf S hw ⟨_, _, _, _, rfl, hG, hm, hdA, hdB⟩ (lv_sub hl [2, 3, 4, 5, 6] rfl) (Nat.le_refl _)
        · refine x_const hC dL_law_1339 ?_
          refine lv_goto (tgt := 1344) hC.1 hC.2.1 dL_law_1340 (by decide) ?_
          rw [xU_comm hdB] at hw
          obtain ⟨va, oa, wa, ya, wk, th, br, re, la, ha, kp, kv, qv, qw, fa, fb, fvv, fw, fo, fy, hR⟩ := hm
          refine x_callV hC hw (lv_size hl) ((c_X5_sub l G hR (p0 := z_24) (by omega) (p1 := z_25) (by omega) (p2 := 1) (by omega) (p3 := z_33) (by omega) (p4 := 1) (by omega) (by omega) (by omega)).frame hdB.symm) gL_law_X5_sub rfl dv_X5_sub (xU_l hR.1.1) rfl rfl (Nat.le_of_ble_eq_true rfl) (by rw [hRf]; decide) (by rw [hRl]; decide) (by omega) (by omega) dL_law_1344 (fun r9 M1 H locs hq hw => ?_)
          obtain ⟨Bk_37, ⟨zk_37, hrk_37, hzk_37, hm⟩, hMk_37, hdB9⟩ := hq
          subst hrk_37
          subst hMk_37
          have hdB := hdB9.symm
          rw [xU_comm hdB9] at hw
          show W p l e R s m args below meth c H locs _ _ _ (F0 m 1347 ls [.int (iN (zk_37))])
          refine lv_istore (lv' := [(6, .int (iN (zk_37))), (5, .int (iN (zk_23))), (0, .ref b), (1, .ref h0), (2, .ref a), (3, .ref o), (4, .int (iN (i)))]) hC.1 hC.2.1 dL_law_1347 hl (by decide) rfl (fun ls hl => ?_)
          refine lv_goto (tgt := 2555) hC.1 hC.2.1 dL_law_1349 (by decide) ?_
          refine W.widen (k := cu + 7) (n := su + (42)) (by omega) (by omega) ?_
          exact kk _ _ _ _ rf S hw ⟨_, _, _, _, rfl, hG, hm, hdA, hdB⟩ (lv_sub hl [2, 3, 4, 5, 6] rfl) (Nat.le_refl _)
  · refine x_const hC dL_law_1266 ?_
    refine lv_goto (tgt := 1271) hC.1 hC.2.1 dL_law_1267 (by decide) ?_
    refine lv_aload_n hC.1 hC.2.1 dL_law_1271 rfl (lv_at hl 0 rfl) ?_
    refine lv_iload hC.1 hC.2.1 dL_law_1272 (lv_at hl 4 rfl) ?_
    refine x_const hC dL_law_1274 ?_
    refine x_iadd hC dL_law_1275 ?_
    refine x_sld hC hw hX hbl hbA (by omega) (by omega) (by omega) dL_law_1276 ?_
    obtain ⟨z_38, hz_38⟩ : ∃ z : Int, z = (xs (i + 4).toNat).toInt := ⟨_, rfl⟩
    rw [← hz_38]
    have hrz_38 : -2147483648 ≤ z_38 ∧ z_38 ≤ 2147483647 := by rw [hz_38]; exact iN_rng _
    refine lv_aload_n hC.1 hC.2.1 dL_law_1277 rfl (lv_at hl 0 rfl) ?_
    refine lv_iload hC.1 hC.2.1 dL_law_1278 (lv_at hl 4 rfl) ?_
    refine x_const hC dL_law_1280 ?_
    refine x_iadd hC dL_law_1281 ?_
    refine x_sld hC hw hX hbl hbA (by omega) (by omega) (by omega) dL_law_1282 ?_
    obtain ⟨z_39, hz_39⟩ : ∃ z : Int, z = (xs (i + 5).toNat).toInt := ⟨_, rfl⟩
    rw [← hz_39]
    have hrz_39 : -2147483648 ≤ z_39 ∧ z_39 ≤ 2147483647 := by rw [hz_39]; exact iN_rng _
    refine x_if_eq (tgt := 1290) hC ⟨by omega, by omega⟩ dL_law_1283 (by decide) (fun c_40 => ?_) (fun c_40 => ?_)
    · refine x_const hC dL_law_1290 ?_
      refine lv_aload_n hC.1 hC.2.1 dL_law_1291 rfl (lv_at hl 3 rfl) ?_
      refine x_callSW hC hw (lv_size hl) ((c_L_sub l G hst hG hdA (p0 := z_1) (by omega) (p1 := z_2) (by omega) (p2 := 1) (by omega) (p3 := z_38) (by omega) (p4 := 0) (by omega) (by omega) (by omega)).frame hdB) gL_law_L_sub rfl dv_L_sub_s rfl (Nat.le_of_ble_eq_true rfl) (by rw [hRf]; decide) (by rw [hRl]; decide) (by omega) (by omega) dL_law_1292 (fun r9 M1 H locs hq hw => ?_)
      obtain ⟨Ck_41, ⟨⟨zk_41, hrk_41⟩, Ak_41, dk_41, svk_41, hG, hCk_41, hdA⟩, hMk_41, hdB⟩ := hq
      subst hrk_41
      subst hCk_41
      subst hMk_41
      show W p l e R s m args below meth c H locs _ _ _ (F0 m 1295 ls [.int (iN (zk_41))])
      refine lv_istore (lv' := [(5, .int (iN (zk_41))), (0, .ref b), (1, .ref h0), (2, .ref a), (3, .ref o), (4, .int (iN (i)))]) hC.1 hC.2.1 dL_law_1295 hl (by decide) rfl (fun ls hl => ?_)
      refine lv_aload_n hC.1 hC.2.1 dL_law_1297 rfl (lv_at hl 3 rfl) ?_
      refine lv_aload_n hC.1 hC.2.1 dL_law_1298 rfl (lv_at hl 1 rfl) ?_
      refine lv_iload hC.1 hC.2.1 dL_law_1299 (lv_at hl 5 rfl) ?_
      refine x_const hC dL_law_1301 ?_
      refine x_iadd hC dL_law_1302 ?_
      refine x_sld hC hw hX hbl hbA (by omega) (by omega) (by omega) dL_law_1303 ?_
      obtain ⟨z_42, hz_42⟩ : ∃ z : Int, z = (xs (i + 1).toNat).toInt := ⟨_, rfl⟩
      rw [← hz_42]
      have hrz_42 : -2147483648 ≤ z_42 ∧ z_42 ≤ 2147483647 := by rw [hz_42]; exact iN_rng _
      refine lv_aload_n hC.1 hC.2.1 dL_law_1304 rfl (lv_at hl 1 rfl) ?_
      refine lv_iload hC.1 hC.2.1 dL_law_1305 (lv_at hl 5 rfl) ?_
      refine x_const hC dL_law_1307 ?_
      refine x_iadd hC dL_law_1308 ?_
      refine x_sld hC hw hX hbl hbA (by omega) (by omega) (by omega) dL_law_1309 ?_
      obtain ⟨z_43, hz_43⟩ : ∃ z : Int, z = (xs (i + 2).toNat).toInt := ⟨_, rfl⟩
      rw [← hz_43]
      have hrz_43 : -2147483648 ≤ z_43 ∧ z_43 ≤ 2147483647 := by rw [hz_43]; exact iN_rng _
      refine lv_aload_n hC.1 hC.2.1 dL_law_1310 rfl (lv_at hl 1 rfl) ?_
      refine lv_iload hC.1 hC.2.1 dL_law_1311 (lv_at hl 5 rfl) ?_
      refine x_const hC dL_law_1313 ?_
      refine x_iadd hC dL_law_1314 ?_
      refine x_sld hC hw hX hbl hbA (by omega) (by omega) (by omega) dL_law_1315 ?_
      obtain ⟨z_44, hz_44⟩ : ∃ z : Int, z = (xs (i + 3).toNat).toInt := ⟨_, rfl⟩
      rw [← hz_44]
      have hrz_44 : -2147483648 ≤ z_44 ∧ z_44 ≤ 2147483647 := by rw [hz_44]; exact iN_rng _
      refine x_if_eq (tgt := 1323) hC ⟨by omega, by omega⟩ dL_law_1316 (by decide) (fun c_45 => ?_) (fun c_45 => ?_)
      · refine x_const hC dL_law_1323 ?_
        refine lv_aload_n hC.1 hC.2.1 dL_law_1324 rfl (lv_at hl 1 rfl) ?_
        refine lv_iload hC.1 hC.2.1 dL_law_1325 (lv_at hl 5 rfl) ?_
        refine x_const hC dL_law_1327 ?_
        refine x_iadd hC dL_law_1328 ?_
        refine x_sld hC hw hX hbl hbA (by omega) (by omega) (by omega) dL_law_1329 ?_
        obtain ⟨z_46, hz_46⟩ : ∃ z : Int, z = (xs (i + 4).toNat).toInt := ⟨_, rfl⟩
        rw [← hz_46]
        have hrz_46 : -2147483648 ≤ z_46 ∧ z_46 ≤ 2147483647 := by rw [hz_46]; exact iN_rng _
        refine lv_aload_n hC.1 hC.2.1 dL_law_1330 rfl (lv_at hl 1 rfl) ?_
        refine lv_iload hC.1 hC.2.1 dL_law_1331 (lv_at hl 5 rfl) ?_
        refine x_const hC dL_law_1333 ?_
        refine x_iadd hC dL_law_1334 ?_
        refine x_sld hC hw hX hbl hbA (by omega) (by omega) (by omega) dL_law_1335 ?_
        obtain ⟨z_47, hz_47⟩ : ∃ z : Int, z = (xs (i + 5).toNat).toInt := ⟨_, rfl⟩
        rw [← hz_47]
        have hrz_47 : -2147483648 ≤ z_47 ∧ z_47 ≤ 2147483647 := by rw [hz_47]; exact iN_rng _
        refine x_if_eq (tgt := 1343) hC ⟨by omega, by omega⟩ dL_law_1336 (by decide) (fun c_48 => ?_) (fun c_48 => ?_)
        · refine x_const hC dL_law_1343 ?_
          rw [xU_comm hdB] at hw
          obtain ⟨va, oa, wa, ya, wk, th, br, re, la, ha, kp, kv, qv, qw, fa, fb, fvv, fw, fo, fy, hR⟩ := hm
          refine x_callV hC hw (lv_size hl) ((c_X5_sub l G hR (p0 := z_42) (by omega) (p1 := z_43) (by omega) (p2 := 0) (by omega) (p3 := z_46) (by omega) (p4 := 0) (by omega) (by omega) (by omega)).frame hdB.symm) gL_law_X5_sub rfl dv_X5_sub (xU_l hR.1.1) rfl rfl (Nat.le_of_ble_eq_true rfl) (by rw [hRf]; decide) (by rw [hRl]; decide) (by omega) (by omega) dL_law_1344 (fun r9 M1 H locs hq hw => ?_)
          obtain ⟨Bk_49, ⟨zk_49, hrk_49, hzk_49, hm⟩, hMk_49, hdB9⟩ := hq
          subst hrk_49
          subst hMk_49
          have hdB := hdB9.symm
          rw [xU_comm hdB9] at hw
          show W p l e R s m args below meth c H locs _ _ _ (F0 m 1347 ls [.int (iN (zk_49))])
          refine lv_istore (lv' := [(6, .int (iN (zk_49))), (5, .int (iN (zk_41))), (0, .ref b), (1, .ref h0), (2, .ref a), (3, .ref o), (4, .int (iN (i)))]) hC.1 hC.2.1 dL_law_1347 hl (by decide) rfl (fun ls hl => ?_)
          refine lv_goto (tgt := 2555) hC.1 hC.2.1 dL_law_1349 (by decide) ?_
          refine W.widen (k := cu + 7) (n := su + (42)) (by omega) (by omega) ?_
          exact kk _ _ _ _ rf S hw ⟨_, _, _, _, rfl, hG, hm, hdA, hdB⟩ (lv_sub hl [2, 3, 4, 5, 6] rfl) (Nat.le_refl _)
        · refine x_const hC dL_law_1339 ?_
          refine lv_goto (tgt := 1344) hC.1 hC.2.1 dL_law_1340 (by decide) ?_
          rw [xU_comm hdB] at hw
          obtain ⟨va, oa, wa, ya, wk, th, br, re, la, ha, kp, kv, qv, qw, fa, fb, fvv, fw, fo, fy, hR⟩ := hm
          refine x_callV hC hw (lv_size hl) ((c_X5_sub l G hR (p0 := z_42) (by omega) (p1 := z_43) (by omega) (p2 := 0) (by omega) (p3 := z_46) (by omega) (p4 := 1) (by omega) (by omega) (by omega)).frame hdB.symm) gL_law_X5_sub rfl dv_X5_sub (xU_l hR.1.1) rfl rfl (Nat.le_of_ble_eq_true rfl) (by rw [hRf]; decide) (by rw [hRl]; decide) (by omega) (by omega) dL_law_1344 (fun r9 M1 H locs hq hw => ?_)
          obtain ⟨Bk_50, ⟨zk_50, hrk_50, hzk_50, hm⟩, hMk_50, hdB9⟩ := hq
          subst hrk_50
          subst hMk_50
          have hdB := hdB9.symm
          rw [xU_comm hdB9] at hw
          show W p l e R s m args below meth c H locs _ _ _ (F0 m 1347 ls [.int (iN (zk_50))])
          refine lv_istore (lv' := [(6, .int (iN (zk_50))), (5, .int (iN (zk_41))), (0, .ref b), (1, .ref h0), (2, .ref a), (3, .ref o), (4, .int (iN (i)))]) hC.1 hC.2.1 dL_law_1347 hl (by decide) rfl (fun ls hl => ?_)
          refine lv_goto (tgt := 2555) hC.1 hC.2.1 dL_law_1349 (by decide) ?_
          refine W.widen (k := cu + 7) (n := su + (42)) (by omega) (by omega) ?_
          exact kk _ _ _ _ rf S hw ⟨_, _, _, _, rfl, hG, hm, hdA, hdB⟩ (lv_sub hl [2, 3, 4, 5, 6] rfl) (Nat.le_refl _)
      · refine x_const hC dL_law_1319 ?_
        refine lv_goto (tgt := 1324) hC.1 hC.2.1 dL_law_1320 (by decide) ?_
        refine lv_aload_n hC.1 hC.2.1 dL_law_1324 rfl (lv_at hl 1 rfl) ?_
        refine lv_iload hC.1 hC.2.1 dL_law_1325 (lv_at hl 5 rfl) ?_
        refine x_const hC dL_law_1327 ?_
        refine x_iadd hC dL_law_1328 ?_
        refine x_sld hC hw hX hbl hbA (by omega) (by omega) (by omega) dL_law_1329 ?_
        obtain ⟨z_51, hz_51⟩ : ∃ z : Int, z = (xs (i + 4).toNat).toInt := ⟨_, rfl⟩
        rw [← hz_51]
        have hrz_51 : -2147483648 ≤ z_51 ∧ z_51 ≤ 2147483647 := by rw [hz_51]; exact iN_rng _
        refine lv_aload_n hC.1 hC.2.1 dL_law_1330 rfl (lv_at hl 1 rfl) ?_
        refine lv_iload hC.1 hC.2.1 dL_law_1331 (lv_at hl 5 rfl) ?_
        refine x_const hC dL_law_1333 ?_
        refine x_iadd hC dL_law_1334 ?_
        refine x_sld hC hw hX hbl hbA (by omega) (by omega) (by omega) dL_law_1335 ?_
        obtain ⟨z_52, hz_52⟩ : ∃ z : Int, z = (xs (i + 5).toNat).toInt := ⟨_, rfl⟩
        rw [← hz_52]
        have hrz_52 : -2147483648 ≤ z_52 ∧ z_52 ≤ 2147483647 := by rw [hz_52]; exact iN_rng _
        refine x_if_eq (tgt := 1343) hC ⟨by omega, by omega⟩ dL_law_1336 (by decide) (fun c_53 => ?_) (fun c_53 => ?_)
        · refine x_const hC dL_law_1343 ?_
          rw [xU_comm hdB] at hw
          obtain ⟨va, oa, wa, ya, wk, th, br, re, la, ha, kp, kv, qv, qw, fa, fb, fvv, fw, fo, fy, hR⟩ := hm
          refine x_callV hC hw (lv_size hl) ((c_X5_sub l G hR (p0 := z_42) (by omega) (p1 := z_43) (by omega) (p2 := 1) (by omega) (p3 := z_51) (by omega) (p4 := 0) (by omega) (by omega) (by omega)).frame hdB.symm) gL_law_X5_sub rfl dv_X5_sub (xU_l hR.1.1) rfl rfl (Nat.le_of_ble_eq_true rfl) (by rw [hRf]; decide) (by rw [hRl]; decide) (by omega) (by omega) dL_law_1344 (fun r9 M1 H locs hq hw => ?_)
          obtain ⟨Bk_54, ⟨zk_54, hrk_54, hzk_54, hm⟩, hMk_54, hdB9⟩ := hq
          subst hrk_54
          subst hMk_54
          have hdB := hdB9.symm
          rw [xU_comm hdB9] at hw
          show W p l e R s m args below meth c H locs _ _ _ (F0 m 1347 ls [.int (iN (zk_54))])
          refine lv_istore (lv' := [(6, .int (iN (zk_54))), (5, .int (iN (zk_41))), (0, .ref b), (1, .ref h0), (2, .ref a), (3, .ref o), (4, .int (iN (i)))]) hC.1 hC.2.1 dL_law_1347 hl (by decide) rfl (fun ls hl => ?_)
          refine lv_goto (tgt := 2555) hC.1 hC.2.1 dL_law_1349 (by decide) ?_
          refine W.widen (k := cu + 7) (n := su + (42)) (by omega) (by omega) ?_
          exact kk _ _ _ _ rf S hw ⟨_, _, _, _, rfl, hG, hm, hdA, hdB⟩ (lv_sub hl [2, 3, 4, 5, 6] rfl) (Nat.le_refl _)
        · refine x_const hC dL_law_1339 ?_
          refine lv_goto (tgt := 1344) hC.1 hC.2.1 dL_law_1340 (by decide) ?_
          rw [xU_comm hdB] at hw
          obtain ⟨va, oa, wa, ya, wk, th, br, re, la, ha, kp, kv, qv, qw, fa, fb, fvv, fw, fo, fy, hR⟩ := hm
          refine x_callV hC hw (lv_size hl) ((c_X5_sub l G hR (p0 := z_42) (by omega) (p1 := z_43) (by omega) (p2 := 1) (by omega) (p3 := z_51) (by omega) (p4 := 1) (by omega) (by omega) (by omega)).frame hdB.symm) gL_law_X5_sub rfl dv_X5_sub (xU_l hR.1.1) rfl rfl (Nat.le_of_ble_eq_true rfl) (by rw [hRf]; decide) (by rw [hRl]; decide) (by omega) (by omega) dL_law_1344 (fun r9 M1 H locs hq hw => ?_)
          obtain ⟨Bk_55, ⟨zk_55, hrk_55, hzk_55, hm⟩, hMk_55, hdB9⟩ := hq
          subst hrk_55
          subst hMk_55
          have hdB := hdB9.symm
          rw [xU_comm hdB9] at hw
          show W p l e R s m args below meth c H locs _ _ _ (F0 m 1347 ls [.int (iN (zk_55))])
          refine lv_istore (lv' := [(6, .int (iN (zk_55))), (5, .int (iN (zk_41))), (0, .ref b), (1, .ref h0), (2, .ref a), (3, .ref o), (4, .int (iN (i)))]) hC.1 hC.2.1 dL_law_1347 hl (by decide) rfl (fun ls hl => ?_)
          refine lv_goto (tgt := 2555) hC.1 hC.2.1 dL_law_1349 (by decide) ?_
          refine W.widen (k := cu + 7) (n := su + (42)) (by omega) (by omega) ?_
          exact kk _ _ _ _ rf S hw ⟨_, _, _, _, rfl, hG, hm, hdA, hdB⟩ (lv_sub hl [2, 3, 4, 5, 6] rfl) (Nat.le_refl _)
    · refine x_const hC dL_law_1286 ?_
      refine lv_goto (tgt := 1291) hC.1 hC.2.1 dL_law_1287 (by decide) ?_
      refine lv_aload_n hC.1 hC.2.1 dL_law_1291 rfl (lv_at hl 3 rfl) ?_
      refine x_callSW hC hw (lv_size hl) ((c_L_sub l G hst hG hdA (p0 := z_1) (by omega) (p1 := z_2) (by omega) (p2 := 1) (by omega) (p3 := z_38) (by omega) (p4 := 1) (by omega) (by omega) (by omega)).frame hdB) gL_law_L_sub rfl dv_L_sub_s rfl (Nat.le_of_ble_eq_true rfl) (by rw [hRf]; decide) (by rw [hRl]; decide) (by omega) (by omega) dL_law_1292 (fun r9 M1 H locs hq hw => ?_)
      obtain ⟨Ck_56, ⟨⟨zk_56, hrk_56⟩, Ak_56, dk_56, svk_56, hG, hCk_56, hdA⟩, hMk_56, hdB⟩ := hq
      subst hrk_56
      subst hCk_56
      subst hMk_56
      show W p l e R s m args below meth c H locs _ _ _ (F0 m 1295 ls [.int (iN (zk_56))])
      refine lv_istore (lv' := [(5, .int (iN (zk_56))), (0, .ref b), (1, .ref h0), (2, .ref a), (3, .ref o), (4, .int (iN (i)))]) hC.1 hC.2.1 dL_law_1295 hl (by decide) rfl (fun ls hl => ?_)
      refine lv_aload_n hC.1 hC.2.1 dL_law_1297 rfl (lv_at hl 3 rfl) ?_
      refine lv_aload_n hC.1 hC.2.1 dL_law_1298 rfl (lv_at hl 1 rfl) ?_
      refine lv_iload hC.1 hC.2.1 dL_law_1299 (lv_at hl 5 rfl) ?_
      refine x_const hC dL_law_1301 ?_
      refine x_iadd hC dL_law_1302 ?_
      refine x_sld hC hw hX hbl hbA (by omega) (by omega) (by omega) dL_law_1303 ?_
      obtain ⟨z_57, hz_57⟩ : ∃ z : Int, z = (xs (i + 1).toNat).toInt := ⟨_, rfl⟩
      rw [← hz_57]
      have hrz_57 : -2147483648 ≤ z_57 ∧ z_57 ≤ 2147483647 := by rw [hz_57]; exact iN_rng _
      refine lv_aload_n hC.1 hC.2.1 dL_law_1304 rfl (lv_at hl 1 rfl) ?_
      refine lv_iload hC.1 hC.2.1 dL_law_1305 (lv_at hl 5 rfl) ?_
      refine x_const hC dL_law_1307 ?_
      refine x_iadd hC dL_law_1308 ?_
      refine x_sld hC hw hX hbl hbA (by omega) (by omega) (by omega) dL_law_1309 ?_
      obtain ⟨z_58, hz_58⟩ : ∃ z : Int, z = (xs (i + 2).toNat).toInt := ⟨_, rfl⟩
      rw [← hz_58]
      have hrz_58 : -2147483648 ≤ z_58 ∧ z_58 ≤ 2147483647 := by rw [hz_58]; exact iN_rng _
      refine lv_aload_n hC.1 hC.2.1 dL_law_1310 rfl (lv_at hl 1 rfl) ?_
      refine lv_iload hC.1 hC.2.1 dL_law_1311 (lv_at hl 5 rfl) ?_
      refine x_const hC dL_law_1313 ?_
      refine x_iadd hC dL_law_1314 ?_
      refine x_sld hC hw hX hbl hbA (by omega) (by omega) (by omega) dL_law_1315 ?_
      obtain ⟨z_59, hz_59⟩ : ∃ z : Int, z = (xs (i + 3).toNat).toInt := ⟨_, rfl⟩
      rw [← hz_59]
      have hrz_59 : -2147483648 ≤ z_59 ∧ z_59 ≤ 2147483647 := by rw [hz_59]; exact iN_rng _
      refine x_if_eq (tgt := 1323) hC ⟨by omega, by omega⟩ dL_law_1316 (by decide) (fun c_60 => ?_) (fun c_60 => ?_)
      · refine x_const hC dL_law_1323 ?_
        refine lv_aload_n hC.1 hC.2.1 dL_law_1324 rfl (lv_at hl 1 rfl) ?_
        refine lv_iload hC.1 hC.2.1 dL_law_1325 (lv_at hl 5 rfl) ?_
        refine x_const hC dL_law_1327 ?_
        refine x_iadd hC dL_law_1328 ?_
        refine x_sld hC hw hX hbl hbA (by omega) (by omega) (by omega) dL_law_1329 ?_
        obtain ⟨z_61, hz_61⟩ : ∃ z : Int, z = (xs (i + 4).toNat).toInt := ⟨_, rfl⟩
        rw [← hz_61]
        have hrz_61 : -2147483648 ≤ z_61 ∧ z_61 ≤ 2147483647 := by rw [hz_61]; exact iN_rng _
        refine lv_aload_n hC.1 hC.2.1 dL_law_1330 rfl (lv_at hl 1 rfl) ?_
        refine lv_iload hC.1 hC.2.1 dL_law_1331 (lv_at hl 5 rfl) ?_
        refine x_const hC dL_law_1333 ?_
        refine x_iadd hC dL_law_1334 ?_
        refine x_sld hC hw hX hbl hbA (by omega) (by omega) (by omega) dL_law_1335 ?_
        obtain ⟨z_62, hz_62⟩ : ∃ z : Int, z = (xs (i + 5).toNat).toInt := ⟨_, rfl⟩
        rw [← hz_62]
        have hrz_62 : -2147483648 ≤ z_62 ∧ z_62 ≤ 2147483647 := by rw [hz_62]; exact iN_rng _
        refine x_if_eq (tgt := 1343) hC ⟨by omega, by omega⟩ dL_law_1336 (by decide) (fun c_63 => ?_) (fun c_63 => ?_)
        · refine x_const hC dL_law_1343 ?_
          rw [xU_comm hdB] at hw
          obtain ⟨va, oa, wa, ya, wk, th, br, re, la, ha, kp, kv, qv, qw, fa, fb, fvv, fw, fo, fy, hR⟩ := hm
          refine x_callV hC hw (lv_size hl) ((c_X5_sub l G hR (p0 := z_57) (by omega) (p1 := z_58) (by omega) (p2 := 0) (by omega) (p3 := z_61) (by omega) (p4 := 0) (by omega) (by omega) (by omega)).frame hdB.symm) gL_law_X5_sub rfl dv_X5_sub (xU_l hR.1.1) rfl rfl (Nat.le_of_ble_eq_true rfl) (by rw [hRf]; decide) (by rw [hRl]; decide) (by omega) (by omega) dL_law_1344 (fun r9 M1 H locs hq hw => ?_)
          obtain ⟨Bk_64, ⟨zk_64, hrk_64, hzk_64, hm⟩, hMk_64, hdB9⟩ := hq
          subst hrk_64
          subst hMk_64
          have hdB := hdB9.symm
          rw [xU_comm hdB9] at hw
          show W p l e R s m args below meth c H locs _ _ _ (F0 m 1347 ls [.int (iN (zk_64))])
          refine lv_istore (lv' := [(6, .int (iN (zk_64))), (5, .int (iN (zk_56))), (0, .ref b), (1, .ref h0), (2, .ref a), (3, .ref o), (4, .int (iN (i)))]) hC.1 hC.2.1 dL_law_1347 hl (by decide) rfl (fun ls hl => ?_)
          refine lv_goto (tgt := 2555) hC.1 hC.2.1 dL_law_1349 (by decide) ?_
          refine W.widen (k := cu + 7) (n := su + (42)) (by omega) (by omega) ?_
          exact kk _ _ _ _ rf S hw ⟨_, _, _, _, rfl, hG, hm, hdA, hdB⟩ (lv_sub hl [2, 3, 4, 5, 6] rfl) (Nat.le_refl _)
        · refine x_const hC dL_law_1339 ?_
          refine lv_goto (tgt := 1344) hC.1 hC.2.1 dL_law_1340 (by decide) ?_
          rw [xU_comm hdB] at hw
          obtain ⟨va, oa, wa, ya, wk, th, br, re, la, ha, kp, kv, qv, qw, fa, fb, fvv, fw, fo, fy, hR⟩ := hm
          refine x_callV hC hw (lv_size hl) ((c_X5_sub l G hR (p0 := z_57) (by omega) (p1 := z_58) (by omega) (p2 := 0) (by omega) (p3 := z_61) (by omega) (p4 := 1) (by omega) (by omega) (by omega)).frame hdB.symm) gL_law_X5_sub rfl dv_X5_sub (xU_l hR.1.1) rfl rfl (Nat.le_of_ble_eq_true rfl) (by rw [hRf]; decide) (by rw [hRl]; decide) (by omega) (by omega) dL_law_1344 (fun r9 M1 H locs hq hw => ?_)
          obtain ⟨Bk_65, ⟨zk_65, hrk_65, hzk_65, hm⟩, hMk_65, hdB9⟩ := hq
          subst hrk_65
          subst hMk_65
          have hdB := hdB9.symm
          rw [xU_comm hdB9] at hw
          show W p l e R s m args below meth c H locs _ _ _ (F0 m 1347 ls [.int (iN (zk_65))])
          refine lv_istore (lv' := [(6, .int (iN (zk_65))), (5, .int (iN (zk_56))), (0, .ref b), (1, .ref h0), (2, .ref a), (3, .ref o), (4, .int (iN (i)))]) hC.1 hC.2.1 dL_law_1347 hl (by decide) rfl (fun ls hl => ?_)
          refine lv_goto (tgt := 2555) hC.1 hC.2.1 dL_law_1349 (by decide) ?_
          refine W.widen (k := cu + 7) (n := su + (42)) (by omega) (by omega) ?_
          exact kk _ _ _ _ rf S hw ⟨_, _, _, _, rfl, hG, hm, hdA, hdB⟩ (lv_sub hl [2, 3, 4, 5, 6] rfl) (Nat.le_refl _)
      · refine x_const hC dL_law_1319 ?_
        refine lv_goto (tgt := 1324) hC.1 hC.2.1 dL_law_1320 (by decide) ?_
        refine lv_aload_n hC.1 hC.2.1 dL_law_1324 rfl (lv_at hl 1 rfl) ?_
        refine lv_iload hC.1 hC.2.1 dL_law_1325 (lv_at hl 5 rfl) ?_
        refine x_const hC dL_law_1327 ?_
        refine x_iadd hC dL_law_1328 ?_
        refine x_sld hC hw hX hbl hbA (by omega) (by omega) (by omega) dL_law_1329 ?_
        obtain ⟨z_66, hz_66⟩ : ∃ z : Int, z = (xs (i + 4).toNat).toInt := ⟨_, rfl⟩
        rw [← hz_66]
        have hrz_66 : -2147483648 ≤ z_66 ∧ z_66 ≤ 2147483647 := by rw [hz_66]; exact iN_rng _
        refine lv_aload_n hC.1 hC.2.1 dL_law_1330 rfl (lv_at hl 1 rfl) ?_
        refine lv_iload hC.1 hC.2.1 dL_law_1331 (lv_at hl 5 rfl) ?_
        refine x_const hC dL_law_1333 ?_
        refine x_iadd hC dL_law_1334 ?_
        refine x_sld hC hw hX hbl hbA (by omega) (by omega) (by omega) dL_law_1335 ?_
        obtain ⟨z_67, hz_67⟩ : ∃ z : Int, z = (xs (i + 5).toNat).toInt := ⟨_, rfl⟩
        rw [← hz_67]
        have hrz_67 : -2147483648 ≤ z_67 ∧ z_67 ≤ 2147483647 := by rw [hz_67]; exact iN_rng _
        refine x_if_eq (tgt := 1343) hC ⟨by omega, by omega⟩ dL_law_1336 (by decide) (fun c_68 => ?_) (fun c_68 => ?_)
        · refine x_const hC dL_law_1343 ?_
          rw [xU_comm hdB] at hw
          obtain ⟨va, oa, wa, ya, wk, th, br, re, la, ha, kp, kv, qv, qw, fa, fb, fvv, fw, fo, fy, hR⟩ := hm
          refine x_callV hC hw (lv_size hl) ((c_X5_sub l G hR (p0 := z_57) (by omega) (p1 := z_58) (by omega) (p2 := 1) (by omega) (p3 := z_66) (by omega) (p4 := 0) (by omega) (by omega) (by omega)).frame hdB.symm) gL_law_X5_sub rfl dv_X5_sub (xU_l hR.1.1) rfl rfl (Nat.le_of_ble_eq_true rfl) (by rw [hRf]; decide) (by rw [hRl]; decide) (by omega) (by omega) dL_law_1344 (fun r9 M1 H locs hq hw => ?_)
          obtain ⟨Bk_69, ⟨zk_69, hrk_69, hzk_69, hm⟩, hMk_69, hdB9⟩ := hq
          subst hrk_69
          subst hMk_69
          have hdB := hdB9.symm
          rw [xU_comm hdB9] at hw
          show W p l e R s m args below meth c H locs _ _ _ (F0 m 1347 ls [.int (iN (zk_69))])
          refine lv_istore (lv' := [(6, .int (iN (zk_69))), (5, .int (iN (zk_56))), (0, .ref b), (1, .ref h0), (2, .ref a), (3, .ref o), (4, .int (iN (i)))]) hC.1 hC.2.1 dL_law_1347 hl (by decide) rfl (fun ls hl => ?_)
          refine lv_goto (tgt := 2555) hC.1 hC.2.1 dL_law_1349 (by decide) ?_
          refine W.widen (k := cu + 7) (n := su + (42)) (by omega) (by omega) ?_
          exact kk _ _ _ _ rf S hw ⟨_, _, _, _, rfl, hG, hm, hdA, hdB⟩ (lv_sub hl [2, 3, 4, 5, 6] rfl) (Nat.le_refl _)
        · refine x_const hC dL_law_1339 ?_
          refine lv_goto (tgt := 1344) hC.1 hC.2.1 dL_law_1340 (by decide) ?_
          rw [xU_comm hdB] at hw
          obtain ⟨va, oa, wa, ya, wk, th, br, re, la, ha, kp, kv, qv, qw, fa, fb, fvv, fw, fo, fy, hR⟩ := hm
          refine x_callV hC hw (lv_size hl) ((c_X5_sub l G hR (p0 := z_57) (by omega) (p1 := z_58) (by omega) (p2 := 1) (by omega) (p3 := z_66) (by omega) (p4 := 1) (by omega) (by omega) (by omega)).frame hdB.symm) gL_law_X5_sub rfl dv_X5_sub (xU_l hR.1.1) rfl rfl (Nat.le_of_ble_eq_true rfl) (by rw [hRf]; decide) (by rw [hRl]; decide) (by omega) (by omega) dL_law_1344 (fun r9 M1 H locs hq hw => ?_)
          obtain ⟨Bk_70, ⟨zk_70, hrk_70, hzk_70, hm⟩, hMk_70, hdB9⟩ := hq
          subst hrk_70
          subst hMk_70
          have hdB := hdB9.symm
          rw [xU_comm hdB9] at hw
          show W p l e R s m args below meth c H locs _ _ _ (F0 m 1347 ls [.int (iN (zk_70))])
          refine lv_istore (lv' := [(6, .int (iN (zk_70))), (5, .int (iN (zk_56))), (0, .ref b), (1, .ref h0), (2, .ref a), (3, .ref o), (4, .int (iN (i)))]) hC.1 hC.2.1 dL_law_1347 hl (by decide) rfl (fun ls hl => ?_)
          refine lv_goto (tgt := 2555) hC.1 hC.2.1 dL_law_1349 (by decide) ?_
          refine W.widen (k := cu + 7) (n := su + (42)) (by omega) (by omega) ?_
          exact kk _ _ _ _ rf S hw ⟨_, _, _, _, rfl, hG, hm, hdA, hdB⟩ (lv_sub hl [2, 3, 4, 5, 6] rfl) (Nat.le_refl _)
set_option maxHeartbeats 8000000 in
set_option maxRecDepth 100000 in
theorem k_21 {p : Program} {l : Launch} {e : Env} {R : Room} {s : State} {m : MethodId} {args : Array Value} {below : List Frame} {meth : Method} {c : Code} {Q : State → Prop} {G : xG} {b L : Nat} {xs : Nat → Int32} {nm : String} (hst : l.stackTraces = false) (hRf : R.frames = 2048) {C9 S9 : Nat} (hRc : R.cells = C9) (hRs : R.slots = S9) (hC9 : 600000 ≤ C9) (hS9 : 7060000 ≤ S9) (hRl : R.locals = 84000) (hC : xB p s m args meth c cL_law 7 "RangeledgerLaw" nm wsL_law (some .boolean) G (xA (fun _ => none) s.heap.size)) (hX : va_X b L xs s s.heap) (hbl : b < s.heap.size) (hL : L ≤ 3072) {h0 a o : Nat} {rf : Int32} {S : Nat → Bool} {M : HM} {H : Heap} {locs : List Loc} {ls : Array Slot} {i : Int} {cu su : Nat} (hw : xD G (xA (fun _ => none) s.heap.size) s M H locs) (hS : LwS G M h0 a o rf S) (hl : lv_has ls 7 [(0, .ref b), (1, .ref h0), (2, .ref a), (3, .ref o), (4, .int (iN (i)))]) (hi : 0 ≤ i ∧ i + 6 ≤ L) (hcu : cu + 1000 ≤ C9) (hsu : su + 15590 ≤ S9) (kk : ∀ (M1 : HM) (H1 : Heap) (locs1 : List Loc) (ls1 : Array Slot) (rf1 : Int32) (S1 : Nat → Bool), xD G (xA (fun _ => none) s.heap.size) s M1 H1 locs1 → LwS G M1 h0 a o rf1 S1 → lv_has ls1 7 [(0, .ref b), (1, .ref h0), (2, .ref a), (3, .ref o), (4, .int (iN (i)))] → mC S1 100 ≤ mC S 100 + 0 → W p l e R s m args below meth c H1 locs1 (cu + 7) (su + (42)) Q (F0 m 2555 ls1 [])) : W p l e R s m args below meth c H locs cu su Q (F0 m 1352 ls []) := by
  obtain ⟨A, B, d, sv, hM, hG, hm, hdA, hdB⟩ := hS
  subst hM
  have hbA : ¬ (xA (fun _ => none) s.heap.size) b := fun h9 => h9.elim (fun h8 => h8 rfl) (fun h8 => by omega)
  refine lv_aload_n hC.1 hC.2.1 dL_law_1352 rfl (lv_at hl 1 rfl) ?_
  refine lv_aload_n hC.1 hC.2.1 dL_law_1353 rfl (lv_at hl 0 rfl) ?_
  refine lv_iload hC.1 hC.2.1 dL_law_1354 (lv_at hl 4 rfl) ?_
  refine x_const hC dL_law_1356 ?_
  refine x_iadd hC dL_law_1357 ?_
  refine x_sld hC hw hX hbl hbA (by omega) (by omega) (by omega) dL_law_1358 ?_
  obtain ⟨z_1, hz_1⟩ : ∃ z : Int, z = (xs (i + 1).toNat).toInt := ⟨_, rfl⟩
  rw [← hz_1]
  have hrz_1 : -2147483648 ≤ z_1 ∧ z_1 ≤ 2147483647 := by rw [hz_1]; exact iN_rng _
  refine lv_aload_n hC.1 hC.2.1 dL_law_1359 rfl (lv_at hl 0 rfl) ?_
  refine lv_iload hC.1 hC.2.1 dL_law_1360 (lv_at hl 4 rfl) ?_
  refine x_const hC dL_law_1362 ?_
  refine x_iadd hC dL_law_1363 ?_
  refine x_sld hC hw hX hbl hbA (by omega) (by omega) (by omega) dL_law_1364 ?_
  obtain ⟨z_2, hz_2⟩ : ∃ z : Int, z = (xs (i + 2).toNat).toInt := ⟨_, rfl⟩
  rw [← hz_2]
  have hrz_2 : -2147483648 ≤ z_2 ∧ z_2 ≤ 2147483647 := by rw [hz_2]; exact iN_rng _
  refine lv_aload_n hC.1 hC.2.1 dL_law_1365 rfl (lv_at hl 0 rfl) ?_
  refine lv_iload hC.1 hC.2.1 dL_law_1366 (lv_at hl 4 rfl) ?_
  refine x_const hC dL_law_1368 ?_
  refine x_iadd hC dL_law_1369 ?_
  refine x_sld hC hw hX hbl hbA (by omega) (by omega) (by omega) dL_law_1370 ?_
  obtain ⟨z_3, hz_3⟩ : ∃ z : Int, z = (xs (i + 3).toNat).toInt := ⟨_, rfl⟩
  rw [← hz_3]
  have hrz_3 : -2147483648 ≤ z_3 ∧ z_3 ≤ 2147483647 := by rw [hz_3]; exact iN_rng _
  refine x_if_eq (tgt := 1378) hC ⟨by omega, by omega⟩ dL_law_1371 (by decide) (fun c_4 => ?_) (fun c_4 => ?_)
  · refine x_const hC dL_law_1378 ?_
    refine lv_aload_n hC.1 hC.2.1 dL_law_1379 rfl (lv_at hl 0 rfl) ?_
    refine lv_iload hC.1 hC.2.1 dL_law_1380 (lv_at hl 4 rfl) ?_
    refine x_const hC dL_law_1382 ?_
    refine x_iadd hC dL_law_1383 ?_
    refine x_sld hC hw hX hbl hbA (by omega) (by omega) (by omega) dL_law_1384 ?_
    obtain ⟨z_5, hz_5⟩ : ∃ z : Int, z = (xs (i + 4).toNat).toInt := ⟨_, rfl⟩
    rw [← hz_5]
    have hrz_5 : -2147483648 ≤ z_5 ∧ z_5 ≤ 2147483647 := by rw [hz_5]; exact iN_rng _
    refine lv_aload_n hC.1 hC.2.1 dL_law_1385 rfl (lv_at hl 0 rfl) ?_
    refine lv_iload hC.1 hC.2.1 dL_law_1386 (lv_at hl 4 rfl) ?_
    refine x_const hC dL_law_1388 ?_
    refine x_iadd hC dL_law_1389 ?_
    refine x_sld hC hw hX hbl hbA (by omega) (by omega) (by omega) dL_law_1390 ?_
    obtain ⟨z_6, hz_6⟩ : ∃ z : Int, z = (xs (i + 5).toNat).toInt := ⟨_, rfl⟩
    rw [← hz_6]
    have hrz_6 : -2147483648 ≤ z_6 ∧ z_6 ≤ 2147483647 := by rw [hz_6]; exact iN_rng _
    refine x_if_eq (tgt := 1398) hC ⟨by omega, by omega⟩ dL_law_1391 (by decide) (fun c_7 => ?_) (fun c_7 => ?_)
    · refine x_const hC dL_law_1398 ?_
      refine lv_aload_n hC.1 hC.2.1 dL_law_1399 rfl (lv_at hl 3 rfl) ?_
      refine x_callSW hC hw (lv_size hl) ((c_L_part l G hst hG hdA (p0 := z_1) (by omega) (p1 := z_2) (by omega) (p2 := 0) (by omega) (p3 := z_5) (by omega) (p4 := 0) (by omega) (by omega) (by omega)).frame hdB) gL_law_L_part rfl dv_L_part_s rfl (Nat.le_of_ble_eq_true rfl) (by rw [hRf]; decide) (by rw [hRl]; decide) (by omega) (by omega) dL_law_1400 (fun r9 M1 H locs hq hw => ?_)
      obtain ⟨Ck_8, ⟨⟨zk_8, hrk_8⟩, Ak_8, dk_8, svk_8, hG, hCk_8, hdA⟩, hMk_8, hdB⟩ := hq
      subst hrk_8
      subst hCk_8
      subst hMk_8
      show W p l e R s m args below meth c H locs _ _ _ (F0 m 1403 ls [.int (iN (zk_8))])
      refine lv_istore (lv' := [(5, .int (iN (zk_8))), (0, .ref b), (1, .ref h0), (2, .ref a), (3, .ref o), (4, .int (iN (i)))]) hC.1 hC.2.1 dL_law_1403 hl (by decide) rfl (fun ls hl => ?_)
      refine lv_aload_n hC.1 hC.2.1 dL_law_1405 rfl (lv_at hl 3 rfl) ?_
      refine lv_aload_n hC.1 hC.2.1 dL_law_1406 rfl (lv_at hl 1 rfl) ?_
      refine lv_iload hC.1 hC.2.1 dL_law_1407 (lv_at hl 5 rfl) ?_
      refine x_const hC dL_law_1409 ?_
      refine x_iadd hC dL_law_1410 ?_
      refine x_sld hC hw hX hbl hbA (by omega) (by omega) (by omega) dL_law_1411 ?_
      obtain ⟨z_9, hz_9⟩ : ∃ z : Int, z = (xs (i + 1).toNat).toInt := ⟨_, rfl⟩
      rw [← hz_9]
      have hrz_9 : -2147483648 ≤ z_9 ∧ z_9 ≤ 2147483647 := by rw [hz_9]; exact iN_rng _
      refine lv_aload_n hC.1 hC.2.1 dL_law_1412 rfl (lv_at hl 1 rfl) ?_
      refine lv_iload hC.1 hC.2.1 dL_law_1413 (lv_at hl 5 rfl) ?_
      refine x_const hC dL_law_1415 ?_
      refine x_iadd hC dL_law_1416 ?_
      refine x_sld hC hw hX hbl hbA (by omega) (by omega) (by omega) dL_law_1417 ?_
      obtain ⟨z_10, hz_10⟩ : ∃ z : Int, z = (xs (i + 2).toNat).toInt := ⟨_, rfl⟩
      rw [← hz_10]
      have hrz_10 : -2147483648 ≤ z_10 ∧ z_10 ≤ 2147483647 := by rw [hz_10]; exact iN_rng _
      refine lv_aload_n hC.1 hC.2.1 dL_law_1418 rfl (lv_at hl 1 rfl) ?_
      refine lv_iload hC.1 hC.2.1 dL_law_1419 (lv_at hl 5 rfl) ?_
      refine x_const hC dL_law_1421 ?_
      refine x_iadd hC dL_law_1422 ?_
      refine x_sld hC hw hX hbl hbA (by omega) (by omega) (by omega) dL_law_1423 ?_
      obtain ⟨z_11, hz_11⟩ : ∃ z : Int, z = (xs (i + 3).toNat).toInt := ⟨_, rfl⟩
      rw [← hz_11]
      have hrz_11 : -2147483648 ≤ z_11 ∧ z_11 ≤ 2147483647 := by rw [hz_11]; exact iN_rng _
      refine x_if_eq (tgt := 1431) hC ⟨by omega, by omega⟩ dL_law_1424 (by decide) (fun c_12 => ?_) (fun c_12 => ?_)
      · refine x_const hC dL_law_1431 ?_
        refine lv_aload_n hC.1 hC.2.1 dL_law_1432 rfl (lv_at hl 1 rfl) ?_
        refine lv_iload hC.1 hC.2.1 dL_law_1433 (lv_at hl 5 rfl) ?_
        refine x_const hC dL_law_1435 ?_
        refine x_iadd hC dL_law_1436 ?_
        refine x_sld hC hw hX hbl hbA (by omega) (by omega) (by omega) dL_law_1437 ?_
        obtain ⟨z_13, hz_13⟩ : ∃ z : Int, z = (xs (i + 4).toNat).toInt := ⟨_, rfl⟩
        rw [← hz_13]
        have hrz_13 : -2147483648 ≤ z_13 ∧ z_13 ≤ 2147483647 := by rw [hz_13]; exact iN_rng _
        refine lv_aload_n hC.1 hC.2.1 dL_law_1438 rfl (lv_at hl 1 rfl) ?_
        refine lv_iload hC.1 hC.2.1 dL_law_1439 (lv_at hl 5 rfl) ?_
        refine x_const hC dL_law_1441 ?_
        refine x_iadd hC dL_law_1442 ?_
        refine x_sld hC hw hX hbl hbA (by omega) (by omega) (by omega) dL_law_1443 ?_
        obtain ⟨z_14, hz_14⟩ : ∃ z : Int, z = (xs (i + 5).toNat).toInt := ⟨_, rfl⟩
        rw [← hz_14]
        have hrz_14 : -2147483648 ≤ z_14 ∧ z_14 ≤ 2147483647 := by rw [hz_14]; exact iN_rng _
        refine x_if_eq (tgt := 1451) hC ⟨by omega, by omega⟩ dL_law_1444 (by decide) (fun c_15 => ?_) (fun c_15 => ?_)
        · refine x_const hC dL_law_1451 ?_
          rw [xU_comm hdB] at hw
          obtain ⟨va, oa, wa, ya, wk, th, br, re, la, ha, kp, kv, qv, qw, fa, fb, fvv, fw, fo, fy, hR⟩ := hm
          refine x_callV hC hw (lv_size hl) ((c_X5_part l G hR (p0 := z_9) (by omega) (p1 := z_10) (by omega) (p2 := 0) (by omega) (p3 := z_13) (by omega) (p4 := 0) (by omega) (by omega) (by omega)).frame hdB.symm) gL_law_X5_part rfl dv_X5_part (xU_l hR.1.1) rfl rfl (Nat.le_of_ble_eq_true rfl) (by rw [hRf]; decide) (by rw [hRl]; decide) (by omega) (by omega) dL_law_1452 (fun r9 M1 H locs hq hw => ?_)
          obtain ⟨Bk_16, ⟨zk_16, hrk_16, hzk_16, hm⟩, hMk_16, hdB9⟩ := hq
          subst hrk_16
          subst hMk_16
          have hdB := hdB9.symm
          rw [xU_comm hdB9] at hw
          show W p l e R s m args below meth c H locs _ _ _ (F0 m 1455 ls [.int (iN (zk_16))])
          refine lv_istore (lv' := [(6, .int (iN (zk_16))), (5, .int (iN (zk_8))), (0, .ref b), (1, .ref h0), (2, .ref a), (3, .ref o), (4, .int (iN (i)))]) hC.1 hC.2.1 dL_law_1455 hl (by decide) rfl (fun ls hl => ?_)
          refine lv_goto (tgt := 2555) hC.1 hC.2.1 dL_law_1457 (by decide) ?_
          refine W.widen (k := cu + 7) (n := su + (42)) (by omega) (by omega) ?_
          exact kk _ _ _ _ rf S hw ⟨_, _, _, _, rfl, hG, hm, hdA, hdB⟩ (lv_sub hl [2, 3, 4, 5, 6] rfl) (Nat.le_refl _)
        · refine x_const hC dL_law_1447 ?_
          refine lv_goto (tgt := 1452) hC.1 hC.2.1 dL_law_1448 (by decide) ?_
          rw [xU_comm hdB] at hw
          obtain ⟨va, oa, wa, ya, wk, th, br, re, la, ha, kp, kv, qv, qw, fa, fb, fvv, fw, fo, fy, hR⟩ := hm
          refine x_callV hC hw (lv_size hl) ((c_X5_part l G hR (p0 := z_9) (by omega) (p1 := z_10) (by omega) (p2 := 0) (by omega) (p3 := z_13) (by omega) (p4 := 1) (by omega) (by omega) (by omega)).frame hdB.symm) gL_law_X5_part rfl dv_X5_part (xU_l hR.1.1) rfl rfl (Nat.le_of_ble_eq_true rfl) (by rw [hRf]; decide) (by rw [hRl]; decide) (by omega) (by omega) dL_law_1452 (fun r9 M1 H locs hq hw => ?_)
          obtain ⟨Bk_17, ⟨zk_17, hrk_17, hzk_17, hm⟩, hMk_17, hdB9⟩ := hq
          subst hrk_17
          subst hMk_17
          have hdB := hdB9.symm
          rw [xU_comm hdB9] at hw
          show W p l e R s m args below meth c H locs _ _ _ (F0 m 1455 ls [.int (iN (zk_17))])
          refine lv_istore (lv' := [(6, .int (iN (zk_17))), (5, .int (iN (zk_8))), (0, .ref b), (1, .ref h0), (2, .ref a), (3, .ref o), (4, .int (iN (i)))]) hC.1 hC.2.1 dL_law_1455 hl (by decide) rfl (fun ls hl => ?_)
          refine lv_goto (tgt := 2555) hC.1 hC.2.1 dL_law_1457 (by decide) ?_
          refine W.widen (k := cu + 7) (n := su + (42)) (by omega) (by omega) ?_
          exact kk _ _ _ _ rf S hw ⟨_, _, _, _, rfl, hG, hm, hdA, hdB⟩ (lv_sub hl [2, 3, 4, 5, 6] rfl) (Nat.le_refl _)
      · refine x_const hC dL_law_1427 ?_
        refine lv_goto (tgt := 1432) hC.1 hC.2.1 dL_law_1428 (by decide) ?_
        refine lv_aload_n hC.1 hC.2.1 dL_law_1432 rfl (lv_at hl 1 rfl) ?_
        refine lv_iload hC.1 hC.2.1 dL_law_1433 (lv_at hl 5 rfl) ?_
        refine x_const hC dL_law_1435 ?_
        refine x_iadd hC dL_law_1436 ?_
        refine x_sld hC hw hX hbl hbA (by omega) (by omega) (by omega) dL_law_1437 ?_
        obtain ⟨z_18, hz_18⟩ : ∃ z : Int, z = (xs (i + 4).toNat).toInt := ⟨_, rfl⟩
        rw [← hz_18]
        have hrz_18 : -2147483648 ≤ z_18 ∧ z_18 ≤ 2147483647 := by rw [hz_18]; exact iN_rng _
        refine lv_aload_n hC.1 hC.2.1 dL_law_1438 rfl (lv_at hl 1 rfl) ?_
        refine lv_iload hC.1 hC.2.1 dL_law_1439 (lv_at hl 5 rfl) ?_
        refine x_const hC dL_law_1441 ?_
        refine x_iadd hC dL_law_1442 ?_
        refine x_sld hC hw hX hbl hbA (by omega) (by omega) (by omega) dL_law_1443 ?_
        obtain ⟨z_19, hz_19⟩ : ∃ z : Int, z = (xs (i + 5).toNat).toInt := ⟨_, rfl⟩
        rw [← hz_19]
        have hrz_19 : -2147483648 ≤ z_19 ∧ z_19 ≤ 2147483647 := by rw [hz_19]; exact iN_rng _
        refine x_if_eq (tgt := 1451) hC ⟨by omega, by omega⟩ dL_law_1444 (by decide) (fun c_20 => ?_) (fun c_20 => ?_)
        · refine x_const hC dL_law_1451 ?_
          rw [xU_comm hdB] at hw
          obtain ⟨va, oa, wa, ya, wk, th, br, re, la, ha, kp, kv, qv, qw, fa, fb, fvv, fw, fo, fy, hR⟩ := hm
          refine x_callV hC hw (lv_size hl) ((c_X5_part l G hR (p0 := z_9) (by omega) (p1 := z_10) (by omega) (p2 := 1) (by omega) (p3 := z_18) (by omega) (p4 := 0) (by omega) (by omega) (by omega)).frame hdB.symm) gL_law_X5_part rfl dv_X5_part (xU_l hR.1.1) rfl rfl (Nat.le_of_ble_eq_true rfl) (by rw [hRf]; decide) (by rw [hRl]; decide) (by omega) (by omega) dL_law_1452 (fun r9 M1 H locs hq hw => ?_)
          obtain ⟨Bk_21, ⟨zk_21, hrk_21, hzk_21, hm⟩, hMk_21, hdB9⟩ := hq
          subst hrk_21
          subst hMk_21
          have hdB := hdB9.symm
          rw [xU_comm hdB9] at hw
          show W p l e R s m args below meth c H locs _ _ _ (F0 m 1455 ls [.int (iN (zk_21))])
          refine lv_istore (lv' := [(6, .int (iN (zk_21))), (5, .int (iN (zk_8))), (0, .ref b), (1, .ref h0), (2, .ref a), (3, .ref o), (4, .int (iN (i)))]) hC.1 hC.2.1 dL_law_1455 hl (by decide) rfl (fun ls hl => ?_)
          refine lv_goto (tgt := 2555) hC.1 hC.2.1 dL_law_1457 (by decide) ?_
          refine W.widen (k := cu + 7) (n := su + (42)) (by omega) (by omega) ?_
          exact kk _ _ _ _ rf S hw ⟨_, _, _, _, rfl, hG, hm, hdA, hdB⟩ (lv_sub hl [2, 3, 4, 5, 6] rfl) (Nat.le_refl _)
        · refine x_const hC dL_law_1447 ?_
          refine lv_goto (tgt := 1452) hC.1 hC.2.1 dL_law_1448 (by decide) ?_
          rw [xU_comm hdB] at hw
          obtain ⟨va, oa, wa, ya, wk, th, br, re, la, ha, kp, kv, qv, qw, fa, fb, fvv, fw, fo, fy, hR⟩ := hm
          refine x_callV hC hw (lv_size hl) ((c_X5_part l G hR (p0 := z_9) (by omega) (p1 := z_10) (by omega) (p2 := 1) (by omega) (p3 := z_18) (by omega) (p4 := 1) (by omega) (by omega) (by omega)).frame hdB.symm) gL_law_X5_part rfl dv_X5_part (xU_l hR.1.1) rfl rfl (Nat.le_of_ble_eq_true rfl) (by rw [hRf]; decide) (by rw [hRl]; decide) (by omega) (by omega) dL_law_1452 (fun r9 M1 H locs hq hw => ?_)
          obtain ⟨Bk_22, ⟨zk_22, hrk_22, hzk_22, hm⟩, hMk_22, hdB9⟩ := hq
          subst hrk_22
          subst hMk_22
          have hdB := hdB9.symm
          rw [xU_comm hdB9] at hw
          show W p l e R s m args below meth c H locs _ _ _ (F0 m 1455 ls [.int (iN (zk_22))])
          refine lv_istore (lv' := [(6, .int (iN (zk_22))), (5, .int (iN (zk_8))), (0, .ref b), (1, .ref h0), (2, .ref a), (3, .ref o), (4, .int (iN (i)))]) hC.1 hC.2.1 dL_law_1455 hl (by decide) rfl (fun ls hl => ?_)
          refine lv_goto (tgt := 2555) hC.1 hC.2.1 dL_law_1457 (by decide) ?_
          refine W.widen (k := cu + 7) (n := su + (42)) (by omega) (by omega) ?_
          exact kk _ _ _ _ rf S hw ⟨_, _, _, _, rfl, hG, hm, hdA, hdB⟩ (lv_sub hl [2, 3, 4, 5, 6] rfl) (Nat.le_refl _)
    · refine x_const hC dL_law_1394 ?_
      refine lv_goto (tgt := 1399) hC.1 hC.2.1 dL_law_1395 (by decide) ?_
      refine lv_aload_n hC.1 hC.2.1 dL_law_1399 rfl (lv_at hl 3 rfl) ?_
      refine x_callSW hC hw (lv_size hl) ((c_L_part l G hst hG hdA (p0 := z_1) (by omega) (p1 := z_2) (by omega) (p2 := 0) (by omega) (p3 := z_5) (by omega) (p4 := 1) (by omega) (by omega) (by omega)).frame hdB) gL_law_L_part rfl dv_L_part_s rfl (Nat.le_of_ble_eq_true rfl) (by rw [hRf]; decide) (by rw [hRl]; decide) (by omega) (by omega) dL_law_1400 (fun r9 M1 H locs hq hw => ?_)
      obtain ⟨Ck_23, ⟨⟨zk_23, hrk_23⟩, Ak_23, dk_23, svk_23, hG, hCk_23, hdA⟩, hMk_23, hdB⟩ := hq
      subst hrk_23
      subst hCk_23
      subst hMk_23
      show W p l e R s m args below meth c H locs _ _ _ (F0 m 1403 ls [.int (iN (zk_23))])
      refine lv_istore (lv' := [(5, .int (iN (zk_23))), (0, .ref b), (1, .ref h0), (2, .ref a), (3, .ref o), (4, .int (iN (i)))]) hC.1 hC.2.1 dL_law_1403 hl (by decide) rfl (fun ls hl => ?_)
      refine lv_aload_n hC.1 hC.2.1 dL_law_1405 rfl (lv_at hl 3 rfl) ?_
      refine lv_aload_n hC.1 hC.2.1 dL_law_1406 rfl (lv_at hl 1 rfl) ?_
      refine lv_iload hC.1 hC.2.1 dL_law_1407 (lv_at hl 5 rfl) ?_
      refine x_const hC dL_law_1409 ?_
      refine x_iadd hC dL_law_1410 ?_
      refine x_sld hC hw hX hbl hbA (by omega) (by omega) (by omega) dL_law_1411 ?_
      obtain ⟨z_24, hz_24⟩ : ∃ z : Int, z = (xs (i + 1).toNat).toInt := ⟨_, rfl⟩
      rw [← hz_24]
      have hrz_24 : -2147483648 ≤ z_24 ∧ z_24 ≤ 2147483647 := by rw [hz_24]; exact iN_rng _
      refine lv_aload_n hC.1 hC.2.1 dL_law_1412 rfl (lv_at hl 1 rfl) ?_
      refine lv_iload hC.1 hC.2.1 dL_law_1413 (lv_at hl 5 rfl) ?_
      refine x_const hC dL_law_1415 ?_
      refine x_iadd hC dL_law_1416 ?_
      refine x_sld hC hw hX hbl hbA (by omega) (by omega) (by omega) dL_law_1417 ?_
      obtain ⟨z_25, hz_25⟩ : ∃ z : Int, z = (xs (i + 2).toNat).toInt := ⟨_, rfl⟩
      rw [← hz_25]
      have hrz_25 : -2147483648 ≤ z_25 ∧ z_25 ≤ 2147483647 := by rw [hz_25]; exact iN_rng _
      refine lv_aload_n hC.1 hC.2.1 dL_law_1418 rfl (lv_at hl 1 rfl) ?_
      refine lv_iload hC.1 hC.2.1 dL_law_1419 (lv_at hl 5 rfl) ?_
      refine x_const hC dL_law_1421 ?_
      refine x_iadd hC dL_law_1422 ?_
      refine x_sld hC hw hX hbl hbA (by omega) (by omega) (by omega) dL_law_1423 ?_
      obtain ⟨z_26, hz_26⟩ : ∃ z : Int, z = (xs (i + 3).toNat).toInt := ⟨_, rfl⟩
      rw [← hz_26]
      have hrz_26 : -2147483648 ≤ z_26 ∧ z_26 ≤ 2147483647 := by rw [hz_26]; exact iN_rng _
      refine x_if_eq (tgt := 1431) hC ⟨by omega, by omega⟩ dL_law_1424 (by decide) (fun c_27 => ?_) (fun c_27 => ?_)
      · refine x_const hC dL_law_1431 ?_
        refine lv_aload_n hC.1 hC.2.1 dL_law_1432 rfl (lv_at hl 1 rfl) ?_
        refine lv_iload hC.1 hC.2.1 dL_law_1433 (lv_at hl 5 rfl) ?_
        refine x_const hC dL_law_1435 ?_
        refine x_iadd hC dL_law_1436 ?_
        refine x_sld hC hw hX hbl hbA (by omega) (by omega) (by omega) dL_law_1437 ?_
        obtain ⟨z_28, hz_28⟩ : ∃ z : Int, z = (xs (i + 4).toNat).toInt := ⟨_, rfl⟩
        rw [← hz_28]
        have hrz_28 : -2147483648 ≤ z_28 ∧ z_28 ≤ 2147483647 := by rw [hz_28]; exact iN_rng _
        refine lv_aload_n hC.1 hC.2.1 dL_law_1438 rfl (lv_at hl 1 rfl) ?_
        refine lv_iload hC.1 hC.2.1 dL_law_1439 (lv_at hl 5 rfl) ?_
        refine x_const hC dL_law_1441 ?_
        refine x_iadd hC dL_law_1442 ?_
        refine x_sld hC hw hX hbl hbA (by omega) (by omega) (by omega) dL_law_1443 ?_
        obtain ⟨z_29, hz_29⟩ : ∃ z : Int, z = (xs (i + 5).toNat).toInt := ⟨_, rfl⟩
        rw [← hz_29]
        have hrz_29 : -2147483648 ≤ z_29 ∧ z_29 ≤ 2147483647 := by rw [hz_29]; exact iN_rng _
        refine x_if_eq (tgt := 1451) hC ⟨by omega, by omega⟩ dL_law_1444 (by decide) (fun c_30 => ?_) (fun c_30 => ?_)
        · refine x_const hC dL_law_1451 ?_
          rw [xU_comm hdB] at hw
          obtain ⟨va, oa, wa, ya, wk, th, br, re, la, ha, kp, kv, qv, qw, fa, fb, fvv, fw, fo, fy, hR⟩ := hm
          refine x_callV hC hw (lv_size hl) ((c_X5_part l G hR (p0 := z_24) (by omega) (p1 := z_25) (by omega) (p2 := 0) (by omega) (p3 := z_28) (by omega) (p4 := 0) (by omega) (by omega) (by omega)).frame hdB.symm) gL_law_X5_part rfl dv_X5_part (xU_l hR.1.1) rfl rfl (Nat.le_of_ble_eq_true rfl) (by rw [hRf]; decide) (by rw [hRl]; decide) (by omega) (by omega) dL_law_1452 (fun r9 M1 H locs hq hw => ?_)
          obtain ⟨Bk_31, ⟨zk_31, hrk_31, hzk_31, hm⟩, hMk_31, hdB9⟩ := hq
          subst hrk_31
          subst hMk_31
          have hdB := hdB9.symm
          rw [xU_comm hdB9] at hw
          show W p l e R s m args below meth c H locs _ _ _ (F0 m 1455 ls [.int (iN (zk_31))])
          refine lv_istore (lv' := [(6, .int (iN (zk_31))), (5, .int (iN (zk_23))), (0, .ref b), (1, .ref h0), (2, .ref a), (3, .ref o), (4, .int (iN (i)))]) hC.1 hC.2.1 dL_law_1455 hl (by decide) rfl (fun ls hl => ?_)
          refine lv_goto (tgt := 2555) hC.1 hC.2.1 dL_law_1457 (by decide) ?_
          refine W.widen (k := cu + 7) (n := su + (42)) (by omega) (by omega) ?_
          exact kk _ _ _ _ rf S hw ⟨_, _, _, _, rfl, hG, hm, hdA, hdB⟩ (lv_sub hl [2, 3, 4, 5, 6] rfl) (Nat.le_refl _)
        · refine x_const hC dL_law_1447 ?_
          refine lv_goto (tgt := 1452) hC.1 hC.2.1 dL_law_1448 (by decide) ?_
          rw [xU_comm hdB] at hw
          obtain ⟨va, oa, wa, ya, wk, th, br, re, la, ha, kp, kv, qv, qw, fa, fb, fvv, fw, fo, fy, hR⟩ := hm
          refine x_callV hC hw (lv_size hl) ((c_X5_part l G hR (p0 := z_24) (by omega) (p1 := z_25) (by omega) (p2 := 0) (by omega) (p3 := z_28) (by omega) (p4 := 1) (by omega) (by omega) (by omega)).frame hdB.symm) gL_law_X5_part rfl dv_X5_part (xU_l hR.1.1) rfl rfl (Nat.le_of_ble_eq_true rfl) (by rw [hRf]; decide) (by rw [hRl]; decide) (by omega) (by omega) dL_law_1452 (fun r9 M1 H locs hq hw => ?_)
          obtain ⟨Bk_32, ⟨zk_32, hrk_32, hzk_32, hm⟩, hMk_32, hdB9⟩ := hq
          subst hrk_32
          subst hMk_32
          have hdB := hdB9.symm
          rw [xU_comm hdB9] at hw
          show W p l e R s m args below meth c H locs _ _ _ (F0 m 1455 ls [.int (iN (zk_32))])
          refine lv_istore (lv' := [(6, .int (iN (zk_32))), (5, .int (iN (zk_23))), (0, .ref b), (1, .ref h0), (2, .ref a), (3, .ref o), (4, .int (iN (i)))]) hC.1 hC.2.1 dL_law_1455 hl (by decide) rfl (fun ls hl => ?_)
          refine lv_goto (tgt := 2555) hC.1 hC.2.1 dL_law_1457 (by decide) ?_
          refine W.widen (k := cu + 7) (n := su + (42)) (by omega) (by omega) ?_
          exact kk _ _ _ _ rf S hw ⟨_, _, _, _, rfl, hG, hm, hdA, hdB⟩ (lv_sub hl [2, 3, 4, 5, 6] rfl) (Nat.le_refl _)
      · refine x_const hC dL_law_1427 ?_
        refine lv_goto (tgt := 1432) hC.1 hC.2.1 dL_law_1428 (by decide) ?_
        refine lv_aload_n hC.1 hC.2.1 dL_law_1432 rfl (lv_at hl 1 rfl) ?_
        refine lv_iload hC.1 hC.2.1 dL_law_1433 (lv_at hl 5 rfl) ?_
        refine x_const hC dL_law_1435 ?_
        refine x_iadd hC dL_law_1436 ?_
        refine x_sld hC hw hX hbl hbA (by omega) (by omega) (by omega) dL_law_1437 ?_
        obtain ⟨z_33, hz_33⟩ : ∃ z : Int, z = (xs (i + 4).toNat).toInt := ⟨_, rfl⟩
        rw [← hz_33]
        have hrz_33 : -2147483648 ≤ z_33 ∧ z_33 ≤ 2147483647 := by rw [hz_33]; exact iN_rng _
        refine lv_aload_n hC.1 hC.2.1 dL_law_1438 rfl (lv_at hl 1 rfl) ?_
        refine lv_iload hC.1 hC.2.1 dL_law_1439 (lv_at hl 5 rfl) ?_
        refine x_const hC dL_law_1441 ?_
        refine x_iadd hC dL_law_1442 ?_
        refine x_sld hC hw hX hbl hbA (by omega) (by omega) (by omega) dL_law_1443 ?_
        obtain ⟨z_34, hz_34⟩ : ∃ z : Int, z = (xs (i + 5).toNat).toInt := ⟨_, rfl⟩
        rw [← hz_34]
        have hrz_34 : -2147483648 ≤ z_34 ∧ z_34 ≤ 2147483647 := by rw [hz_34]; exact iN_rng _
        refine x_if_eq (tgt := 1451) hC ⟨by omega, by omega⟩ dL_law_1444 (by decide) (fun c_35 => ?_) (fun c_35 => ?_)
        · refine x_const hC dL_law_1451 ?_
          rw [xU_comm hdB] at hw
          obtain ⟨va, oa, wa, ya, wk, th, br, re, la, ha, kp, kv, qv, qw, fa, fb, fvv, fw, fo, fy, hR⟩ := hm
          refine x_callV hC hw (lv_size hl) ((c_X5_part l G hR (p0 := z_24) (by omega) (p1 := z_25) (by omega) (p2 := 1) (by omega) (p3 := z_33) (by omega) (p4 := 0) (by omega) (by omega) (by omega)).frame hdB.symm) gL_law_X5_part rfl dv_X5_part (xU_l hR.1.1) rfl rfl (Nat.le_of_ble_eq_true rfl) (by rw [hRf]; decide) (by rw [hRl]; decide) (by omega) (by omega) dL_law_1452 (fun r9 M1 H locs hq hw => ?_)
          obtain ⟨Bk_36, ⟨zk_36, hrk_36, hzk_36, hm⟩, hMk_36, hdB9⟩ := hq
          subst hrk_36
          subst hMk_36
          have hdB := hdB9.symm
          rw [xU_comm hdB9] at hw
          show W p l e R s m args below meth c H locs _ _ _ (F0 m 1455 ls [.int (iN (zk_36))])
          refine lv_istore (lv' := [(6, .int (iN (zk_36))), (5, .int (iN (zk_23))), (0, .ref b), (1, .ref h0), (2, .ref a), (3, .ref o), (4, .int (iN (i)))]) hC.1 hC.2.1 dL_law_1455 hl (by decide) rfl (fun ls hl => ?_)
          refine lv_goto (tgt := 2555) hC.1 hC.2.1 dL_law_1457 (by decide) ?_
          refine W.widen (k := cu + 7) (n := su + (42)) (by omega) (by omega) ?_
          exact kk _ _ _ _ rf S hw ⟨_, _, _, _, rfl, hG, hm, hdA, hdB⟩ (lv_sub hl [2, 3, 4, 5, 6] rfl) (Nat.le_refl _)
        · refine x_const hC dL_law_1447 ?_
          refine lv_goto (tgt := 1452) hC.1 hC.2.1 dL_law_1448 (by decide) ?_
          rw [xU_comm hdB] at hw
          obtain ⟨va, oa, wa, ya, wk, th, br, re, la, ha, kp, kv, qv, qw, fa, fb, fvv, fw, fo, fy, hR⟩ := hm
          refine x_callV hC hw (lv_size hl) ((c_X5_part l G hR (p0 := z_24) (by omega) (p1 := z_25) (by omega) (p2 := 1) (by omega) (p3 := z_33) (by omega) (p4 := 1) (by omega) (by omega) (by omega)).frame hdB.symm) gL_law_X5_part rfl dv_X5_part (xU_l hR.1.1) rfl rfl (Nat.le_of_ble_eq_true rfl) (by rw [hRf]; decide) (by rw [hRl]; decide) (by omega) (by omega) dL_law_1452 (fun r9 M1 H locs hq hw => ?_)
          obtain ⟨Bk_37, ⟨zk_37, hrk_37, hzk_37, hm⟩, hMk_37, hdB9⟩ := hq
          subst hrk_37
          subst hMk_37
          have hdB := hdB9.symm
          rw [xU_comm hdB9] at hw
          show W p l e R s m args below meth c H locs _ _ _ (F0 m 1455 ls [.int (iN (zk_37))])
          refine lv_istore (lv' := [(6, .int (iN (zk_37))), (5, .int (iN (zk_23))), (0, .ref b), (1, .ref h0), (2, .ref a), (3, .ref o), (4, .int (iN (i)))]) hC.1 hC.2.1 dL_law_1455 hl (by decide) rfl (fun ls hl => ?_)
          refine lv_goto (tgt := 2555) hC.1 hC.2.1 dL_law_1457 (by decide) ?_
          refine W.widen (k := cu + 7) (n := su + (42)) (by omega) (by omega) ?_
          exact kk _ _ _ _ rf S hw ⟨_, _, _, _, rfl, hG, hm, hdA, hdB⟩ (lv_sub hl [2, 3, 4, 5, 6] rfl) (Nat.le_refl _)
  · refine x_const hC dL_law_1374 ?_
    refine lv_goto (tgt := 1379) hC.1 hC.2.1 dL_law_1375 (by decide) ?_
    refine lv_aload_n hC.1 hC.2.1 dL_law_1379 rfl (lv_at hl 0 rfl) ?_
    refine lv_iload hC.1 hC.2.1 dL_law_1380 (lv_at hl 4 rfl) ?_
    refine x_const hC dL_law_1382 ?_
    refine x_iadd hC dL_law_1383 ?_
    refine x_sld hC hw hX hbl hbA (by omega) (by omega) (by omega) dL_law_1384 ?_
    obtain ⟨z_38, hz_38⟩ : ∃ z : Int, z = (xs (i + 4).toNat).toInt := ⟨_, rfl⟩
    rw [← hz_38]
    have hrz_38 : -2147483648 ≤ z_38 ∧ z_38 ≤ 2147483647 := by rw [hz_38]; exact iN_rng _
    refine lv_aload_n hC.1 hC.2.1 dL_law_1385 rfl (lv_at hl 0 rfl) ?_
    refine lv_iload hC.1 hC.2.1 dL_law_1386 (lv_at hl 4 rfl) ?_
    refine x_const hC dL_law_1388 ?_
    refine x_iadd hC dL_law_1389 ?_
    refine x_sld hC hw hX hbl hbA (by omega) (by omega) (by omega) dL_law_1390 ?_
    obtain ⟨z_39, hz_39⟩ : ∃ z : Int, z = (xs (i + 5).toNat).toInt := ⟨_, rfl⟩
    rw [← hz_39]
    have hrz_39 : -2147483648 ≤ z_39 ∧ z_39 ≤ 2147483647 := by rw [hz_39]; exact iN_rng _
    refine x_if_eq (tgt := 1398) hC ⟨by omega, by omega⟩ dL_law_1391 (by decide) (fun c_40 => ?_) (fun c_40 => ?_)
    · refine x_const hC dL_law_1398 ?_
      refine lv_aload_n hC.1 hC.2.1 dL_law_1399 rfl (lv_at hl 3 rfl) ?_
      refine x_callSW hC hw (lv_size hl) ((c_L_part l G hst hG hdA (p0 := z_1) (by omega) (p1 := z_2) (by omega) (p2 := 1) (by omega) (p3 := z_38) (by omega) (p4 := 0) (by omega) (by omega) (by omega)).frame hdB) gL_law_L_part rfl dv_L_part_s rfl (Nat.le_of_ble_eq_true rfl) (by rw [hRf]; decide) (by rw [hRl]; decide) (by omega) (by omega) dL_law_1400 (fun r9 M1 H locs hq hw => ?_)
      obtain ⟨Ck_41, ⟨⟨zk_41, hrk_41⟩, Ak_41, dk_41, svk_41, hG, hCk_41, hdA⟩, hMk_41, hdB⟩ := hq
      subst hrk_41
      subst hCk_41
      subst hMk_41
      show W p l e R s m args below meth c H locs _ _ _ (F0 m 1403 ls [.int (iN (zk_41))])
      refine lv_istore (lv' := [(5, .int (iN (zk_41))), (0, .ref b), (1, .ref h0), (2, .ref a), (3, .ref o), (4, .int (iN (i)))]) hC.1 hC.2.1 dL_law_1403 hl (by decide) rfl (fun ls hl => ?_)
      refine lv_aload_n hC.1 hC.2.1 dL_law_1405 rfl (lv_at hl 3 rfl) ?_
      refine lv_aload_n hC.1 hC.2.1 dL_law_1406 rfl (lv_at hl 1 rfl) ?_
      refine lv_iload hC.1 hC.2.1 dL_law_1407 (lv_at hl 5 rfl) ?_
      refine x_const hC dL_law_1409 ?_
      refine x_iadd hC dL_law_1410 ?_
      refine x_sld hC hw hX hbl hbA (by omega) (by omega) (by omega) dL_law_1411 ?_
      obtain ⟨z_42, hz_42⟩ : ∃ z : Int, z = (xs (i + 1).toNat).toInt := ⟨_, rfl⟩
      rw [← hz_42]
      have hrz_42 : -2147483648 ≤ z_42 ∧ z_42 ≤ 2147483647 := by rw [hz_42]; exact iN_rng _
      refine lv_aload_n hC.1 hC.2.1 dL_law_1412 rfl (lv_at hl 1 rfl) ?_
      refine lv_iload hC.1 hC.2.1 dL_law_1413 (lv_at hl 5 rfl) ?_
      refine x_const hC dL_law_1415 ?_
      refine x_iadd hC dL_law_1416 ?_
      refine x_sld hC hw hX hbl hbA (by omega) (by omega) (by omega) dL_law_1417 ?_
      obtain ⟨z_43, hz_43⟩ : ∃ z : Int, z = (xs (i + 2).toNat).toInt := ⟨_, rfl⟩
      rw [← hz_43]
      have hrz_43 : -2147483648 ≤ z_43 ∧ z_43 ≤ 2147483647 := by rw [hz_43]; exact iN_rng _
      refine lv_aload_n hC.1 hC.2.1 dL_law_1418 rfl (lv_at hl 1 rfl) ?_
      refine lv_iload hC.1 hC.2.1 dL_law_1419 (lv_at hl 5 rfl) ?_
      refine x_const hC dL_law_1421 ?_
      refine x_iadd hC dL_law_1422 ?_
      refine x_sld hC hw hX hbl hbA (by omega) (by omega) (by omega) dL_law_1423 ?_
      obtain ⟨z_44, hz_44⟩ : ∃ z : Int, z = (xs (i + 3).toNat).toInt := ⟨_, rfl⟩
      rw [← hz_44]
      have hrz_44 : -2147483648 ≤ z_44 ∧ z_44 ≤ 2147483647 := by rw [hz_44]; exact iN_rng _
      refine x_if_eq (tgt := 1431) hC ⟨by omega, by omega⟩ dL_law_1424 (by decide) (fun c_45 => ?_) (fun c_45 => ?_)
      · refine x_const hC dL_law_1431 ?_
        refine lv_aload_n hC.1 hC.2.1 dL_law_1432 rfl (lv_at hl 1 rfl) ?_
        refine lv_iload hC.1 hC.2.1 dL_law_1433 (lv_at hl 5 rfl) ?_
        refine x_const hC dL_law_1435 ?_
        refine x_iadd hC dL_law_1436 ?_
        refine x_sld hC hw hX hbl hbA (by omega) (by omega) (by omega) dL_law_1437 ?_
        obtain ⟨z_46, hz_46⟩ : ∃ z : Int, z = (xs (i + 4).toNat).toInt := ⟨_, rfl⟩
        rw [← hz_46]
        have hrz_46 : -2147483648 ≤ z_46 ∧ z_46 ≤ 2147483647 := by rw [hz_46]; exact iN_rng _
        refine lv_aload_n hC.1 hC.2.1 dL_law_1438 rfl (lv_at hl 1 rfl) ?_
        refine lv_iload hC.1 hC.2.1 dL_law_1439 (lv_at hl 5 rfl) ?_
        refine x_const hC dL_law_1441 ?_
        refine x_iadd hC dL_law_1442 ?_
        refine x_sld hC hw hX hbl hbA (by omega) (by omega) (by omega) dL_law_1443 ?_
        obtain ⟨z_47, hz_47⟩ : ∃ z : Int, z = (xs (i + 5).toNat).toInt := ⟨_, rfl⟩
        rw [← hz_47]
        have hrz_47 : -2147483648 ≤ z_47 ∧ z_47 ≤ 2147483647 := by rw [hz_47]; exact iN_rng _
        refine x_if_eq (tgt := 1451) hC ⟨by omega, by omega⟩ dL_law_1444 (by decide) (fun c_48 => ?_) (fun c_48 => ?_)
        · refine x_const hC dL_law_1451 ?_
          rw [xU_comm hdB] at hw
          obtain ⟨va, oa, wa, ya, wk, th, br, re, la, ha, kp, kv, qv, qw, fa, fb, fvv, fw, fo, fy, hR⟩ := hm
          refine x_callV hC hw (lv_size hl) ((c_X5_part l G hR (p0 := z_42) (by omega) (p1 := z_43) (by omega) (p2 := 0) (by omega) (p3 := z_46) (by omega) (p4 := 0) (by omega) (by omega) (by omega)).frame hdB.symm) gL_law_X5_part rfl dv_X5_part (xU_l hR.1.1) rfl rfl (Nat.le_of_ble_eq_true rfl) (by rw [hRf]; decide) (by rw [hRl]; decide) (by omega) (by omega) dL_law_1452 (fun r9 M1 H locs hq hw => ?_)
          obtain ⟨Bk_49, ⟨zk_49, hrk_49, hzk_49, hm⟩, hMk_49, hdB9⟩ := hq
          subst hrk_49
          subst hMk_49
          have hdB := hdB9.symm
          rw [xU_comm hdB9] at hw
          show W p l e R s m args below meth c H locs _ _ _ (F0 m 1455 ls [.int (iN (zk_49))])
          refine lv_istore (lv' := [(6, .int (iN (zk_49))), (5, .int (iN (zk_41))), (0, .ref b), (1, .ref h0), (2, .ref a), (3, .ref o), (4, .int (iN (i)))]) hC.1 hC.2.1 dL_law_1455 hl (by decide) rfl (fun ls hl => ?_)
          refine lv_goto (tgt := 2555) hC.1 hC.2.1 dL_law_1457 (by decide) ?_
          refine W.widen (k := cu + 7) (n := su + (42)) (by omega) (by omega) ?_
          exact kk _ _ _ _ rf S hw ⟨_, _, _, _, rfl, hG, hm, hdA, hdB⟩ (lv_sub hl [2, 3, 4, 5, 6] rfl) (Nat.le_refl _)
        · refine x_const hC dL_law_1447 ?_
          refine lv_goto (tgt := 1452) hC.1 hC.2.1 dL_law_1448 (by decide) ?_
          rw [xU_comm hdB] at hw
          obtain ⟨va, oa, wa, ya, wk, th, br, re, la, ha, kp, kv, qv, qw, fa, fb, fvv, fw, fo, fy, hR⟩ := hm
          refine x_callV hC hw (lv_size hl) ((c_X5_part l G hR (p0 := z_42) (by omega) (p1 := z_43) (by omega) (p2 := 0) (by omega) (p3 := z_46) (by omega) (p4 := 1) (by omega) (by omega) (by omega)).frame hdB.symm) gL_law_X5_part rfl dv_X5_part (xU_l hR.1.1) rfl rfl (Nat.le_of_ble_eq_true rfl) (by rw [hRf]; decide) (by rw [hRl]; decide) (by omega) (by omega) dL_law_1452 (fun r9 M1 H locs hq hw => ?_)
          obtain ⟨Bk_50, ⟨zk_50, hrk_50, hzk_50, hm⟩, hMk_50, hdB9⟩ := hq
          subst hrk_50
          subst hMk_50
          have hdB := hdB9.symm
          rw [xU_comm hdB9] at hw
          show W p l e R s m args below meth c H locs _ _ _ (F0 m 1455 ls [.int (iN (zk_50))])
          refine lv_istore (lv' := [(6, .int (iN (zk_50))), (5, .int (iN (zk_41))), (0, .ref b), (1, .ref h0), (2, .ref a), (3, .ref o), (4, .int (iN (i)))]) hC.1 hC.2.1 dL_law_1455 hl (by decide) rfl (fun ls hl => ?_)
          refine lv_goto (tgt := 2555) hC.1 hC.2.1 dL_law_1457 (by decide) ?_
          refine W.widen (k := cu + 7) (n := su + (42)) (by omega) (by omega) ?_
          exact kk _ _ _ _ rf S hw ⟨_, _, _, _, rfl, hG, hm, hdA, hdB⟩ (lv_sub hl [2, 3, 4, 5, 6] rfl) (Nat.le_refl _)
      · refine x_const hC dL_law_1427 ?_
        refine lv_goto (tgt := 1432) hC.1 hC.2.1 dL_law_1428 (by decide) ?_
        refine lv_aload_n hC.1 hC.2.1 dL_law_1432 rfl (lv_at hl 1 rfl) ?_
        refine lv_iload hC.1 hC.2.1 dL_law_1433 (lv_at hl 5 rfl) ?_
        refine x_const hC dL_law_1435 ?_
        refine x_iadd hC dL_law_1436 ?_
        refine x_sld hC hw hX hbl hbA (by omega) (by omega) (by omega) dL_law_1437 ?_
        obtain ⟨z_51, hz_51⟩ : ∃ z : Int, z = (xs (i + 4).toNat).toInt := ⟨_, rfl⟩
        rw [← hz_51]
        have hrz_51 : -2147483648 ≤ z_51 ∧ z_51 ≤ 2147483647 := by rw [hz_51]; exact iN_rng _
        refine lv_aload_n hC.1 hC.2.1 dL_law_1438 rfl (lv_at hl 1 rfl) ?_
        refine lv_iload hC.1 hC.2.1 dL_law_1439 (lv_at hl 5 rfl) ?_
        refine x_const hC dL_law_1441 ?_
        refine x_iadd hC dL_law_1442 ?_
        refine x_sld hC hw hX hbl hbA (by omega) (by omega) (by omega) dL_law_1443 ?_
        obtain ⟨z_52, hz_52⟩ : ∃ z : Int, z = (xs (i + 5).toNat).toInt := ⟨_, rfl⟩
        rw [← hz_52]
        have hrz_52 : -2147483648 ≤ z_52 ∧ z_52 ≤ 2147483647 := by rw [hz_52]; exact iN_rng _
        refine x_if_eq (tgt := 1451) hC ⟨by omega, by omega⟩ dL_law_1444 (by decide) (fun c_53 => ?_) (fun c_53 => ?_)
        · refine x_const hC dL_law_1451 ?_
          rw [xU_comm hdB] at hw
          obtain ⟨va, oa, wa, ya, wk, th, br, re, la, ha, kp, kv, qv, qw, fa, fb, fvv, fw, fo, fy, hR⟩ := hm
          refine x_callV hC hw (lv_size hl) ((c_X5_part l G hR (p0 := z_42) (by omega) (p1 := z_43) (by omega) (p2 := 1) (by omega) (p3 := z_51) (by omega) (p4 := 0) (by omega) (by omega) (by omega)).frame hdB.symm) gL_law_X5_part rfl dv_X5_part (xU_l hR.1.1) rfl rfl (Nat.le_of_ble_eq_true rfl) (by rw [hRf]; decide) (by rw [hRl]; decide) (by omega) (by omega) dL_law_1452 (fun r9 M1 H locs hq hw => ?_)
          obtain ⟨Bk_54, ⟨zk_54, hrk_54, hzk_54, hm⟩, hMk_54, hdB9⟩ := hq
          subst hrk_54
          subst hMk_54
          have hdB := hdB9.symm
          rw [xU_comm hdB9] at hw
          show W p l e R s m args below meth c H locs _ _ _ (F0 m 1455 ls [.int (iN (zk_54))])
          refine lv_istore (lv' := [(6, .int (iN (zk_54))), (5, .int (iN (zk_41))), (0, .ref b), (1, .ref h0), (2, .ref a), (3, .ref o), (4, .int (iN (i)))]) hC.1 hC.2.1 dL_law_1455 hl (by decide) rfl (fun ls hl => ?_)
          refine lv_goto (tgt := 2555) hC.1 hC.2.1 dL_law_1457 (by decide) ?_
          refine W.widen (k := cu + 7) (n := su + (42)) (by omega) (by omega) ?_
          exact kk _ _ _ _ rf S hw ⟨_, _, _, _, rfl, hG, hm, hdA, hdB⟩ (lv_sub hl [2, 3, 4, 5, 6] rfl) (Nat.le_refl _)
        · refine x_const hC dL_law_1447 ?_
          refine lv_goto (tgt := 1452) hC.1 hC.2.1 dL_law_1448 (by decide) ?_
          rw [xU_comm hdB] at hw
          obtain ⟨va, oa, wa, ya, wk, th, br, re, la, ha, kp, kv, qv, qw, fa, fb, fvv, fw, fo, fy, hR⟩ := hm
          refine x_callV hC hw (lv_size hl) ((c_X5_part l G hR (p0 := z_42) (by omega) (p1 := z_43) (by omega) (p2 := 1) (by omega) (p3 := z_51) (by omega) (p4 := 1) (by omega) (by omega) (by omega)).frame hdB.symm) gL_law_X5_part rfl dv_X5_part (xU_l hR.1.1) rfl rfl (Nat.le_of_ble_eq_true rfl) (by rw [hRf]; decide) (by rw [hRl]; decide) (by omega) (by omega) dL_law_1452 (fun r9 M1 H locs hq hw => ?_)
          obtain ⟨Bk_55, ⟨zk_55, hrk_55, hzk_55, hm⟩, hMk_55, hdB9⟩ := hq
          subst hrk_55
          subst hMk_55
          have hdB := hdB9.symm
          rw [xU_comm hdB9] at hw
          show W p l e R s m args below meth c H locs _ _ _ (F0 m 1455 ls [.int (iN (zk_55))])
          refine lv_istore (lv' := [(6, .int (iN (zk_55))), (5, .int (iN (zk_41))), (0, .ref b), (1, .ref h0), (2, .ref a), (3, .ref o), (4, .int (iN (i)))]) hC.1 hC.2.1 dL_law_1455 hl (by decide) rfl (fun ls hl => ?_)
          refine lv_goto (tgt := 2555) hC.1 hC.2.1 dL_law_1457 (by decide) ?_
          refine W.widen (k := cu + 7) (n := su + (42)) (by omega) (by omega) ?_
          exact kk _ _ _ _ rf S hw ⟨_, _, _, _, rfl, hG, hm, hdA, hdB⟩ (lv_sub hl [2, 3, 4, 5, 6] rfl) (Nat.le_refl _)
    · refine x_const hC dL_law_1394 ?_
      refine lv_goto (tgt := 1399) hC.1 hC.2.1 dL_law_1395 (by decide) ?_
      refine lv_aload_n hC.1 hC.2.1 dL_law_1399 rfl (lv_at hl 3 rfl) ?_
      refine x_callSW hC hw (lv_size hl) ((c_L_part l G hst hG hdA (p0 := z_1) (by omega) (p1 := z_2) (by omega) (p2 := 1) (by omega) (p3 := z_38) (by omega) (p4 := 1) (by omega) (by omega) (by omega)).frame hdB) gL_law_L_part rfl dv_L_part_s rfl (Nat.le_of_ble_eq_true rfl) (by rw [hRf]; decide) (by rw [hRl]; decide) (by omega) (by omega) dL_law_1400 (fun r9 M1 H locs hq hw => ?_)
      obtain ⟨Ck_56, ⟨⟨zk_56, hrk_56⟩, Ak_56, dk_56, svk_56, hG, hCk_56, hdA⟩, hMk_56, hdB⟩ := hq
      subst hrk_56
      subst hCk_56
      subst hMk_56
      show W p l e R s m args below meth c H locs _ _ _ (F0 m 1403 ls [.int (iN (zk_56))])
      refine lv_istore (lv' := [(5, .int (iN (zk_56))), (0, .ref b), (1, .ref h0), (2, .ref a), (3, .ref o), (4, .int (iN (i)))]) hC.1 hC.2.1 dL_law_1403 hl (by decide) rfl (fun ls hl => ?_)
      refine lv_aload_n hC.1 hC.2.1 dL_law_1405 rfl (lv_at hl 3 rfl) ?_
      refine lv_aload_n hC.1 hC.2.1 dL_law_1406 rfl (lv_at hl 1 rfl) ?_
      refine lv_iload hC.1 hC.2.1 dL_law_1407 (lv_at hl 5 rfl) ?_
      refine x_const hC dL_law_1409 ?_
      refine x_iadd hC dL_law_1410 ?_
      refine x_sld hC hw hX hbl hbA (by omega) (by omega) (by omega) dL_law_1411 ?_
      obtain ⟨z_57, hz_57⟩ : ∃ z : Int, z = (xs (i + 1).toNat).toInt := ⟨_, rfl⟩
      rw [← hz_57]
      have hrz_57 : -2147483648 ≤ z_57 ∧ z_57 ≤ 2147483647 := by rw [hz_57]; exact iN_rng _
      refine lv_aload_n hC.1 hC.2.1 dL_law_1412 rfl (lv_at hl 1 rfl) ?_
      refine lv_iload hC.1 hC.2.1 dL_law_1413 (lv_at hl 5 rfl) ?_
      refine x_const hC dL_law_1415 ?_
      refine x_iadd hC dL_law_1416 ?_
      refine x_sld hC hw hX hbl hbA (by omega) (by omega) (by omega) dL_law_1417 ?_
      obtain ⟨z_58, hz_58⟩ : ∃ z : Int, z = (xs (i + 2).toNat).toInt := ⟨_, rfl⟩
      rw [← hz_58]
      have hrz_58 : -2147483648 ≤ z_58 ∧ z_58 ≤ 2147483647 := by rw [hz_58]; exact iN_rng _
      refine lv_aload_n hC.1 hC.2.1 dL_law_1418 rfl (lv_at hl 1 rfl) ?_
      refine lv_iload hC.1 hC.2.1 dL_law_1419 (lv_at hl 5 rfl) ?_
      refine x_const hC dL_law_1421 ?_
      refine x_iadd hC dL_law_1422 ?_
      refine x_sld hC hw hX hbl hbA (by omega) (by omega) (by omega) dL_law_1423 ?_
      obtain ⟨z_59, hz_59⟩ : ∃ z : Int, z = (xs (i + 3).toNat).toInt := ⟨_, rfl⟩
      rw [← hz_59]
      have hrz_59 : -2147483648 ≤ z_59 ∧ z_59 ≤ 2147483647 := by rw [hz_59]; exact iN_rng _
      refine x_if_eq (tgt := 1431) hC ⟨by omega, by omega⟩ dL_law_1424 (by decide) (fun c_60 => ?_) (fun c_60 => ?_)
      · refine x_const hC dL_law_1431 ?_
        refine lv_aload_n hC.1 hC.2.1 dL_law_1432 rfl (lv_at hl 1 rfl) ?_
        refine lv_iload hC.1 hC.2.1 dL_law_1433 (lv_at hl 5 rfl) ?_
        refine x_const hC dL_law_1435 ?_
        refine x_iadd hC dL_law_1436 ?_
        refine x_sld hC hw hX hbl hbA (by omega) (by omega) (by omega) dL_law_1437 ?_
        obtain ⟨z_61, hz_61⟩ : ∃ z : Int, z = (xs (i + 4).toNat).toInt := ⟨_, rfl⟩
        rw [← hz_61]
        have hrz_61 : -2147483648 ≤ z_61 ∧ z_61 ≤ 2147483647 := by rw [hz_61]; exact iN_rng _
        refine lv_aload_n hC.1 hC.2.1 dL_law_1438 rfl (lv_at hl 1 rfl) ?_
        refine lv_iload hC.1 hC.2.1 dL_law_1439 (lv_at hl 5 rfl) ?_
        refine x_const hC dL_law_1441 ?_
        refine x_iadd hC dL_law_1442 ?_
        refine x_sld hC hw hX hbl hbA (by omega) (by omega) (by omega) dL_law_1443 ?_
        obtain ⟨z_62, hz_62⟩ : ∃ z : Int, z = (xs (i + 5).toNat).toInt := ⟨_, rfl⟩
        rw [← hz_62]
        have hrz_62 : -2147483648 ≤ z_62 ∧ z_62 ≤ 2147483647 := by rw [hz_62]; exact iN_rng _
        refine x_if_eq (tgt := 1451) hC ⟨by omega, by omega⟩ dL_law_1444 (by decide) (fun c_63 => ?_) (fun c_63 => ?_)
        · refine x_const hC dL_law_1451 ?_
          rw [xU_comm hdB] at hw
          obtain ⟨va, oa, wa, ya, wk, th, br, re, la, ha, kp, kv, qv, qw, fa, fb, fvv, fw, fo, fy, hR⟩ := hm
          refine x_callV hC hw (lv_size hl) ((c_X5_part l G hR (p0 := z_57) (by omega) (p1 := z_58) (by omega) (p2 := 0) (by omega) (p3 := z_61) (by omega) (p4 := 0) (by omega) (by omega) (by omega)).frame hdB.symm) gL_law_X5_part rfl dv_X5_part (xU_l hR.1.1) rfl rfl (Nat.le_of_ble_eq_true rfl) (by rw [hRf]; decide) (by rw [hRl]; decide) (by omega) (by omega) dL_law_1452 (fun r9 M1 H locs hq hw => ?_)
          obtain ⟨Bk_64, ⟨zk_64, hrk_64, hzk_64, hm⟩, hMk_64, hdB9⟩ := hq
          subst hrk_64
          subst hMk_64
          have hdB := hdB9.symm
          rw [xU_comm hdB9] at hw
          show W p l e R s m args below meth c H locs _ _ _ (F0 m 1455 ls [.int (iN (zk_64))])
          refine lv_istore (lv' := [(6, .int (iN (zk_64))), (5, .int (iN (zk_56))), (0, .ref b), (1, .ref h0), (2, .ref a), (3, .ref o), (4, .int (iN (i)))]) hC.1 hC.2.1 dL_law_1455 hl (by decide) rfl (fun ls hl => ?_)
          refine lv_goto (tgt := 2555) hC.1 hC.2.1 dL_law_1457 (by decide) ?_
          refine W.widen (k := cu + 7) (n := su + (42)) (by omega) (by omega) ?_
          exact kk _ _ _ _ rf S hw ⟨_, _, _, _, rfl, hG, hm, hdA, hdB⟩ (lv_sub hl [2, 3, 4, 5, 6] rfl) (Nat.le_refl _)
        · refine x_const hC dL_law_1447 ?_
          refine lv_goto (tgt := 1452) hC.1 hC.2.1 dL_law_1448 (by decide) ?_
          rw [xU_comm hdB] at hw
          obtain ⟨va, oa, wa, ya, wk, th, br, re, la, ha, kp, kv, qv, qw, fa, fb, fvv, fw, fo, fy, hR⟩ := hm
          refine x_callV hC hw (lv_size hl) ((c_X5_part l G hR (p0 := z_57) (by omega) (p1 := z_58) (by omega) (p2 := 0) (by omega) (p3 := z_61) (by omega) (p4 := 1) (by omega) (by omega) (by omega)).frame hdB.symm) gL_law_X5_part rfl dv_X5_part (xU_l hR.1.1) rfl rfl (Nat.le_of_ble_eq_true rfl) (by rw [hRf]; decide) (by rw [hRl]; decide) (by omega) (by omega) dL_law_1452 (fun r9 M1 H locs hq hw => ?_)
          obtain ⟨Bk_65, ⟨zk_65, hrk_65, hzk_65, hm⟩, hMk_65, hdB9⟩ := hq
          subst hrk_65
          subst hMk_65
          have hdB := hdB9.symm
          rw [xU_comm hdB9] at hw
          show W p l e R s m args below meth c H locs _ _ _ (F0 m 1455 ls [.int (iN (zk_65))])
          refine lv_istore (lv' := [(6, .int (iN (zk_65))), (5, .int (iN (zk_56))), (0, .ref b), (1, .ref h0), (2, .ref a), (3, .ref o), (4, .int (iN (i)))]) hC.1 hC.2.1 dL_law_1455 hl (by decide) rfl (fun ls hl => ?_)
          refine lv_goto (tgt := 2555) hC.1 hC.2.1 dL_law_1457 (by decide) ?_
          refine W.widen (k := cu + 7) (n := su + (42)) (by omega) (by omega) ?_
          exact kk _ _ _ _ rf S hw ⟨_, _, _, _, rfl, hG, hm, hdA, hdB⟩ (lv_sub hl [2, 3, 4, 5, 6] rfl) (Nat.le_refl _)
      · refine x_const hC dL_law_1427 ?_
        refine lv_goto (tgt := 1432) hC.1 hC.2.1 dL_law_1428 (by decide) ?_
        refine lv_aload_n hC.1 hC.2.1 dL_law_1432 rfl (lv_at hl 1 rfl) ?_
        refine lv_iload hC.1 hC.2.1 dL_law_1433 (lv_at hl 5 rfl) ?_
        refine x_const hC dL_law_1435 ?_
        refine x_iadd hC dL_law_1436 ?_
        refine x_sld hC hw hX hbl hbA (by omega) (by omega) (by omega) dL_law_1437 ?_
        obtain ⟨z_66, hz_66⟩ : ∃ z : Int, z = (xs (i + 4).toNat).toInt := ⟨_, rfl⟩
        rw [← hz_66]
        have hrz_66 : -2147483648 ≤ z_66 ∧ z_66 ≤ 2147483647 := by rw [hz_66]; exact iN_rng _
        refine lv_aload_n hC.1 hC.2.1 dL_law_1438 rfl (lv_at hl 1 rfl) ?_
        refine lv_iload hC.1 hC.2.1 dL_law_1439 (lv_at hl 5 rfl) ?_
        refine x_const hC dL_law_1441 ?_
        refine x_iadd hC dL_law_1442 ?_
        refine x_sld hC hw hX hbl hbA (by omega) (by omega) (by omega) dL_law_1443 ?_
        obtain ⟨z_67, hz_67⟩ : ∃ z : Int, z = (xs (i + 5).toNat).toInt := ⟨_, rfl⟩
        rw [← hz_67]
        have hrz_67 : -2147483648 ≤ z_67 ∧ z_67 ≤ 2147483647 := by rw [hz_67]; exact iN_rng _
        refine x_if_eq (tgt := 1451) hC ⟨by omega, by omega⟩ dL_law_1444 (by decide) (fun c_68 => ?_) (fun c_68 => ?_)
        · refine x_const hC dL_law_1451 ?_
          rw [xU_comm hdB] at hw
          obtain ⟨va, oa, wa, ya, wk, th, br, re, la, ha, kp, kv, qv, qw, fa, fb, fvv, fw, fo, fy, hR⟩ := hm
          refine x_callV hC hw (lv_size hl) ((c_X5_part l G hR (p0 := z_57) (by omega) (p1 := z_58) (by omega) (p2 := 1) (by omega) (p3 := z_66) (by omega) (p4 := 0) (by omega) (by omega) (by omega)).frame hdB.symm) gL_law_X5_part rfl dv_X5_part (xU_l hR.1.1) rfl rfl (Nat.le_of_ble_eq_true rfl) (by rw [hRf]; decide) (by rw [hRl]; decide) (by omega) (by omega) dL_law_1452 (fun r9 M1 H locs hq hw => ?_)
          obtain ⟨Bk_69, ⟨zk_69, hrk_69, hzk_69, hm⟩, hMk_69, hdB9⟩ := hq
          subst hrk_69
          subst hMk_69
          have hdB := hdB9.symm
          rw [xU_comm hdB9] at hw
          show W p l e R s m args below meth c H locs _ _ _ (F0 m 1455 ls [.int (iN (zk_69))])
          refine lv_istore (lv' := [(6, .int (iN (zk_69))), (5, .int (iN (zk_56))), (0, .ref b), (1, .ref h0), (2, .ref a), (3, .ref o), (4, .int (iN (i)))]) hC.1 hC.2.1 dL_law_1455 hl (by decide) rfl (fun ls hl => ?_)
          refine lv_goto (tgt := 2555) hC.1 hC.2.1 dL_law_1457 (by decide) ?_
          refine W.widen (k := cu + 7) (n := su + (42)) (by omega) (by omega) ?_
          exact kk _ _ _ _ rf S hw ⟨_, _, _, _, rfl, hG, hm, hdA, hdB⟩ (lv_sub hl [2, 3, 4, 5, 6] rfl) (Nat.le_refl _)
        · refine x_const hC dL_law_1447 ?_
          refine lv_goto (tgt := 1452) hC.1 hC.2.1 dL_law_1448 (by decide) ?_
          rw [xU_comm hdB] at hw
          obtain ⟨va, oa, wa, ya, wk, th, br, re, la, ha, kp, kv, qv, qw, fa, fb, fvv, fw, fo, fy, hR⟩ := hm
          refine x_callV hC hw (lv_size hl) ((c_X5_part l G hR (p0 := z_57) (by omega) (p1 := z_58) (by omega) (p2 := 1) (by omega) (p3 := z_66) (by omega) (p4 := 1) (by omega) (by omega) (by omega)).frame hdB.symm) gL_law_X5_part rfl dv_X5_part (xU_l hR.1.1) rfl rfl (Nat.le_of_ble_eq_true rfl) (by rw [hRf]; decide) (by rw [hRl]; decide) (by omega) (by omega) dL_law_1452 (fun r9 M1 H locs hq hw => ?_)
          obtain ⟨Bk_70, ⟨zk_70, hrk_70, hzk_70, hm⟩, hMk_70, hdB9⟩ := hq
          subst hrk_70
          subst hMk_70
          have hdB := hdB9.symm
          rw [xU_comm hdB9] at hw
          show W p l e R s m args below meth c H locs _ _ _ (F0 m 1455 ls [.int (iN (zk_70))])
          refine lv_istore (lv' := [(6, .int (iN (zk_70))), (5, .int (iN (zk_56))), (0, .ref b), (1, .ref h0), (2, .ref a), (3, .ref o), (4, .int (iN (i)))]) hC.1 hC.2.1 dL_law_1455 hl (by decide) rfl (fun ls hl => ?_)
          refine lv_goto (tgt := 2555) hC.1 hC.2.1 dL_law_1457 (by decide) ?_
          refine W.widen (k := cu + 7) (n := su + (42)) (by omega) (by omega) ?_
          exact kk _ _ _ _ rf S hw ⟨_, _, _, _, rfl, hG, hm, hdA, hdB⟩ (lv_sub hl [2, 3, 4, 5, 6] rfl) (Nat.le_refl _)
set_option maxHeartbeats 8000000 in
set_option maxRecDepth 100000 in
theorem k_22 {p : Program} {l : Launch} {e : Env} {R : Room} {s : State} {m : MethodId} {args : Array Value} {below : List Frame} {meth : Method} {c : Code} {Q : State → Prop} {G : xG} {b L : Nat} {xs : Nat → Int32} {nm : String} (hst : l.stackTraces = false) (hRf : R.frames = 2048) {C9 S9 : Nat} (hRc : R.cells = C9) (hRs : R.slots = S9) (hC9 : 600000 ≤ C9) (hS9 : 7060000 ≤ S9) (hRl : R.locals = 84000) (hC : xB p s m args meth c cL_law 7 "RangeledgerLaw" nm wsL_law (some .boolean) G (xA (fun _ => none) s.heap.size)) (hX : va_X b L xs s s.heap) (hbl : b < s.heap.size) (hL : L ≤ 3072) {h0 a o : Nat} {rf : Int32} {S : Nat → Bool} {M : HM} {H : Heap} {locs : List Loc} {ls : Array Slot} {i : Int} {cu su : Nat} (hw : xD G (xA (fun _ => none) s.heap.size) s M H locs) (hS : LwS G M h0 a o rf S) (hl : lv_has ls 7 [(0, .ref b), (1, .ref h0), (2, .ref a), (3, .ref o), (4, .int (iN (i)))]) (hi : 0 ≤ i ∧ i + 6 ≤ L) (hcu : cu + 1000 ≤ C9) (hsu : su + 15590 ≤ S9) (kk : ∀ (M1 : HM) (H1 : Heap) (locs1 : List Loc) (ls1 : Array Slot) (rf1 : Int32) (S1 : Nat → Bool), xD G (xA (fun _ => none) s.heap.size) s M1 H1 locs1 → LwS G M1 h0 a o rf1 S1 → lv_has ls1 7 [(0, .ref b), (1, .ref h0), (2, .ref a), (3, .ref o), (4, .int (iN (i)))] → mC S1 100 ≤ mC S 100 + 0 → W p l e R s m args below meth c H1 locs1 (cu + 1) (su + (6)) Q (F0 m 2555 ls1 [])) : W p l e R s m args below meth c H locs cu su Q (F0 m 1460 ls []) := by
  obtain ⟨A, B, d, sv, hM, hG, hm, hdA, hdB⟩ := hS
  subst hM
  have hbA : ¬ (xA (fun _ => none) s.heap.size) b := fun h9 => h9.elim (fun h8 => h8 rfl) (fun h8 => by omega)
  refine lv_aload_n hC.1 hC.2.1 dL_law_1460 rfl (lv_at hl 1 rfl) ?_
  refine lv_aload_n hC.1 hC.2.1 dL_law_1461 rfl (lv_at hl 0 rfl) ?_
  refine lv_iload hC.1 hC.2.1 dL_law_1462 (lv_at hl 4 rfl) ?_
  refine x_const hC dL_law_1464 ?_
  refine x_iadd hC dL_law_1465 ?_
  refine x_sld hC hw hX hbl hbA (by omega) (by omega) (by omega) dL_law_1466 ?_
  obtain ⟨z_1, hz_1⟩ : ∃ z : Int, z = (xs (i + 1).toNat).toInt := ⟨_, rfl⟩
  rw [← hz_1]
  have hrz_1 : -2147483648 ≤ z_1 ∧ z_1 ≤ 2147483647 := by rw [hz_1]; exact iN_rng _
  refine lv_aload_n hC.1 hC.2.1 dL_law_1467 rfl (lv_at hl 3 rfl) ?_
  refine x_callSW hC hw (lv_size hl) ((c_L_shut l G hst hG hdA (p0 := z_1) (by omega)).frame hdB) gL_law_L_shut rfl dv_L_shut_s rfl (Nat.le_of_ble_eq_true rfl) (by rw [hRf]; decide) (by rw [hRl]; decide) (by omega) (by omega) dL_law_1468 (fun r9 M1 H locs hq hw => ?_)
  obtain ⟨Ck_2, ⟨⟨zk_2, hrk_2⟩, Ak_2, dk_2, svk_2, hG, hCk_2, hdA⟩, hMk_2, hdB⟩ := hq
  subst hrk_2
  subst hCk_2
  subst hMk_2
  show W p l e R s m args below meth c H locs _ _ _ (F0 m 1471 ls [.int (iN (zk_2))])
  refine lv_istore (lv' := [(5, .int (iN (zk_2))), (0, .ref b), (1, .ref h0), (2, .ref a), (3, .ref o), (4, .int (iN (i)))]) hC.1 hC.2.1 dL_law_1471 hl (by decide) rfl (fun ls hl => ?_)
  refine lv_aload_n hC.1 hC.2.1 dL_law_1473 rfl (lv_at hl 3 rfl) ?_
  refine lv_aload_n hC.1 hC.2.1 dL_law_1474 rfl (lv_at hl 1 rfl) ?_
  refine lv_iload hC.1 hC.2.1 dL_law_1475 (lv_at hl 5 rfl) ?_
  refine x_const hC dL_law_1477 ?_
  refine x_iadd hC dL_law_1478 ?_
  refine x_sld hC hw hX hbl hbA (by omega) (by omega) (by omega) dL_law_1479 ?_
  obtain ⟨z_3, hz_3⟩ : ∃ z : Int, z = (xs (i + 1).toNat).toInt := ⟨_, rfl⟩
  rw [← hz_3]
  have hrz_3 : -2147483648 ≤ z_3 ∧ z_3 ≤ 2147483647 := by rw [hz_3]; exact iN_rng _
  rw [xU_comm hdB] at hw
  obtain ⟨va, oa, wa, ya, wk, th, br, re, la, ha, kp, kv, qv, qw, fa, fb, fvv, fw, fo, fy, hR⟩ := hm
  refine x_callV hC hw (lv_size hl) ((c_X5_shut l G hR (p0 := z_3) (by omega)).frame hdB.symm) gL_law_X5_shut rfl dv_X5_shut (xU_l hR.1.1) rfl rfl (Nat.le_of_ble_eq_true rfl) (by rw [hRf]; decide) (by rw [hRl]; decide) (by omega) (by omega) dL_law_1480 (fun r9 M1 H locs hq hw => ?_)
  obtain ⟨Bk_4, ⟨zk_4, hrk_4, hzk_4, hm⟩, hMk_4, hdB9⟩ := hq
  subst hrk_4
  subst hMk_4
  have hdB := hdB9.symm
  rw [xU_comm hdB9] at hw
  show W p l e R s m args below meth c H locs _ _ _ (F0 m 1483 ls [.int (iN (zk_4))])
  refine lv_istore (lv' := [(6, .int (iN (zk_4))), (5, .int (iN (zk_2))), (0, .ref b), (1, .ref h0), (2, .ref a), (3, .ref o), (4, .int (iN (i)))]) hC.1 hC.2.1 dL_law_1483 hl (by decide) rfl (fun ls hl => ?_)
  refine lv_goto (tgt := 2555) hC.1 hC.2.1 dL_law_1485 (by decide) ?_
  refine W.widen (k := cu + 1) (n := su + (6)) (by omega) (by omega) ?_
  exact kk _ _ _ _ rf S hw ⟨_, _, _, _, rfl, hG, hm, hdA, hdB⟩ (lv_sub hl [2, 3, 4, 5, 6] rfl) (Nat.le_refl _)
set_option maxHeartbeats 8000000 in
set_option maxRecDepth 100000 in
theorem k_23 {p : Program} {l : Launch} {e : Env} {R : Room} {s : State} {m : MethodId} {args : Array Value} {below : List Frame} {meth : Method} {c : Code} {Q : State → Prop} {G : xG} {b L : Nat} {xs : Nat → Int32} {nm : String} (hst : l.stackTraces = false) (hRf : R.frames = 2048) {C9 S9 : Nat} (hRc : R.cells = C9) (hRs : R.slots = S9) (hC9 : 600000 ≤ C9) (hS9 : 7060000 ≤ S9) (hRl : R.locals = 84000) (hC : xB p s m args meth c cL_law 7 "RangeledgerLaw" nm wsL_law (some .boolean) G (xA (fun _ => none) s.heap.size)) (hX : va_X b L xs s s.heap) (hbl : b < s.heap.size) (hL : L ≤ 3072) {h0 a o : Nat} {rf : Int32} {S : Nat → Bool} {M : HM} {H : Heap} {locs : List Loc} {ls : Array Slot} {i : Int} {cu su : Nat} (hw : xD G (xA (fun _ => none) s.heap.size) s M H locs) (hS : LwS G M h0 a o rf S) (hl : lv_has ls 7 [(0, .ref b), (1, .ref h0), (2, .ref a), (3, .ref o), (4, .int (iN (i)))]) (hi : 0 ≤ i ∧ i + 6 ≤ L) (hcu : cu + 1000 ≤ C9) (hsu : su + 15590 ≤ S9) (kk : ∀ (M1 : HM) (H1 : Heap) (locs1 : List Loc) (ls1 : Array Slot) (rf1 : Int32) (S1 : Nat → Bool), xD G (xA (fun _ => none) s.heap.size) s M1 H1 locs1 → LwS G M1 h0 a o rf1 S1 → lv_has ls1 7 [(0, .ref b), (1, .ref h0), (2, .ref a), (3, .ref o), (4, .int (iN (i)))] → mC S1 100 ≤ mC S 100 + 1 → W p l e R s m args below meth c H1 locs1 (cu + 3) (su + (18)) Q (F0 m 2555 ls1 [])) : W p l e R s m args below meth c H locs cu su Q (F0 m 1488 ls []) := by
  obtain ⟨A, B, d, sv, hM, hG, hm, hdA, hdB⟩ := hS
  subst hM
  have hbA : ¬ (xA (fun _ => none) s.heap.size) b := fun h9 => h9.elim (fun h8 => h8 rfl) (fun h8 => by omega)
  refine lv_aload_n hC.1 hC.2.1 dL_law_1488 rfl (lv_at hl 1 rfl) ?_
  refine lv_aload_n hC.1 hC.2.1 dL_law_1489 rfl (lv_at hl 0 rfl) ?_
  refine lv_iload hC.1 hC.2.1 dL_law_1490 (lv_at hl 4 rfl) ?_
  refine x_const hC dL_law_1492 ?_
  refine x_iadd hC dL_law_1493 ?_
  refine x_sld hC hw hX hbl hbA (by omega) (by omega) (by omega) dL_law_1494 ?_
  obtain ⟨z_1, hz_1⟩ : ∃ z : Int, z = (xs (i + 1).toNat).toInt := ⟨_, rfl⟩
  rw [← hz_1]
  have hrz_1 : -2147483648 ≤ z_1 ∧ z_1 ≤ 2147483647 := by rw [hz_1]; exact iN_rng _
  refine lv_aload_n hC.1 hC.2.1 dL_law_1495 rfl (lv_at hl 0 rfl) ?_
  refine lv_iload hC.1 hC.2.1 dL_law_1496 (lv_at hl 4 rfl) ?_
  refine x_const hC dL_law_1498 ?_
  refine x_iadd hC dL_law_1499 ?_
  refine x_sld hC hw hX hbl hbA (by omega) (by omega) (by omega) dL_law_1500 ?_
  obtain ⟨z_2, hz_2⟩ : ∃ z : Int, z = (xs (i + 2).toNat).toInt := ⟨_, rfl⟩
  rw [← hz_2]
  have hrz_2 : -2147483648 ≤ z_2 ∧ z_2 ≤ 2147483647 := by rw [hz_2]; exact iN_rng _
  refine lv_aload_n hC.1 hC.2.1 dL_law_1501 rfl (lv_at hl 0 rfl) ?_
  refine lv_iload hC.1 hC.2.1 dL_law_1502 (lv_at hl 4 rfl) ?_
  refine x_const hC dL_law_1504 ?_
  refine x_iadd hC dL_law_1505 ?_
  refine x_sld hC hw hX hbl hbA (by omega) (by omega) (by omega) dL_law_1506 ?_
  obtain ⟨z_3, hz_3⟩ : ∃ z : Int, z = (xs (i + 3).toNat).toInt := ⟨_, rfl⟩
  rw [← hz_3]
  have hrz_3 : -2147483648 ≤ z_3 ∧ z_3 ≤ 2147483647 := by rw [hz_3]; exact iN_rng _
  refine lv_aload_n hC.1 hC.2.1 dL_law_1507 rfl (lv_at hl 3 rfl) ?_
  refine x_callSW hC hw (lv_size hl) ((c_L_viewPut l G hst hG hdA (p0 := z_1) (by omega) (p1 := z_2) (by omega) (p2 := z_3) (by omega)).frame hdB) gL_law_L_viewPut rfl dv_L_viewPut_s rfl (Nat.le_of_ble_eq_true rfl) (by rw [hRf]; decide) (by rw [hRl]; decide) (by omega) (by omega) dL_law_1508 (fun r9 M1 H locs hq hw => ?_)
  obtain ⟨Ck_4, ⟨⟨zk_4, hrk_4⟩, Ak_4, dk_4, svk_4, hG, hCk_4, hdA⟩, hMk_4, hdB⟩ := hq
  subst hrk_4
  subst hCk_4
  subst hMk_4
  show W p l e R s m args below meth c H locs _ _ _ (F0 m 1511 ls [.int (iN (zk_4))])
  refine lv_istore (lv' := [(5, .int (iN (zk_4))), (0, .ref b), (1, .ref h0), (2, .ref a), (3, .ref o), (4, .int (iN (i)))]) hC.1 hC.2.1 dL_law_1511 hl (by decide) rfl (fun ls hl => ?_)
  refine lv_aload_n hC.1 hC.2.1 dL_law_1513 rfl (lv_at hl 3 rfl) ?_
  refine lv_aload_n hC.1 hC.2.1 dL_law_1514 rfl (lv_at hl 1 rfl) ?_
  refine lv_iload hC.1 hC.2.1 dL_law_1515 (lv_at hl 5 rfl) ?_
  refine x_const hC dL_law_1517 ?_
  refine x_iadd hC dL_law_1518 ?_
  refine x_sld hC hw hX hbl hbA (by omega) (by omega) (by omega) dL_law_1519 ?_
  obtain ⟨z_5, hz_5⟩ : ∃ z : Int, z = (xs (i + 1).toNat).toInt := ⟨_, rfl⟩
  rw [← hz_5]
  have hrz_5 : -2147483648 ≤ z_5 ∧ z_5 ≤ 2147483647 := by rw [hz_5]; exact iN_rng _
  refine lv_aload_n hC.1 hC.2.1 dL_law_1520 rfl (lv_at hl 1 rfl) ?_
  refine lv_iload hC.1 hC.2.1 dL_law_1521 (lv_at hl 5 rfl) ?_
  refine x_const hC dL_law_1523 ?_
  refine x_iadd hC dL_law_1524 ?_
  refine x_sld hC hw hX hbl hbA (by omega) (by omega) (by omega) dL_law_1525 ?_
  obtain ⟨z_6, hz_6⟩ : ∃ z : Int, z = (xs (i + 2).toNat).toInt := ⟨_, rfl⟩
  rw [← hz_6]
  have hrz_6 : -2147483648 ≤ z_6 ∧ z_6 ≤ 2147483647 := by rw [hz_6]; exact iN_rng _
  refine lv_aload_n hC.1 hC.2.1 dL_law_1526 rfl (lv_at hl 1 rfl) ?_
  refine lv_iload hC.1 hC.2.1 dL_law_1527 (lv_at hl 5 rfl) ?_
  refine x_const hC dL_law_1529 ?_
  refine x_iadd hC dL_law_1530 ?_
  refine x_sld hC hw hX hbl hbA (by omega) (by omega) (by omega) dL_law_1531 ?_
  obtain ⟨z_7, hz_7⟩ : ∃ z : Int, z = (xs (i + 3).toNat).toInt := ⟨_, rfl⟩
  rw [← hz_7]
  have hrz_7 : -2147483648 ≤ z_7 ∧ z_7 ≤ 2147483647 := by rw [hz_7]; exact iN_rng _
  rw [xU_comm hdB] at hw
  have hm := hm.add (z_6).toNat
  obtain ⟨va, oa, wa, ya, wk, th, br, re, la, ha, kp, kv, qv, qw, fa, fb, fvv, fw, fo, fy, hR⟩ := hm
  refine x_callV hC hw (lv_size hl) ((c_X5_viewPut l G hR (p0 := z_5) (by omega) (p1 := z_6) (by omega) (p2 := z_7) (by omega) (fun _ => by simp [sAdd])).frame hdB.symm) gL_law_X5_viewPut rfl dv_X5_viewPut (xU_l hR.1.1) rfl rfl (Nat.le_of_ble_eq_true rfl) (by rw [hRf]; decide) (by rw [hRl]; decide) (by omega) (by omega) dL_law_1532 (fun r9 M1 H locs hq hw => ?_)
  obtain ⟨Bk_8, ⟨zk_8, hrk_8, hzk_8, hm⟩, hMk_8, hdB9⟩ := hq
  subst hrk_8
  subst hMk_8
  have hdB := hdB9.symm
  rw [xU_comm hdB9] at hw
  show W p l e R s m args below meth c H locs _ _ _ (F0 m 1535 ls [.int (iN (zk_8))])
  refine lv_istore (lv' := [(6, .int (iN (zk_8))), (5, .int (iN (zk_4))), (0, .ref b), (1, .ref h0), (2, .ref a), (3, .ref o), (4, .int (iN (i)))]) hC.1 hC.2.1 dL_law_1535 hl (by decide) rfl (fun ls hl => ?_)
  refine lv_goto (tgt := 2555) hC.1 hC.2.1 dL_law_1537 (by decide) ?_
  refine W.widen (k := cu + 3) (n := su + (18)) (by omega) (by omega) ?_
  exact kk _ _ _ _ rf (sAdd S (z_6).toNat) hw ⟨_, _, _, _, rfl, hG, hm, hdA, hdB⟩ (lv_sub hl [2, 3, 4, 5, 6] rfl) (mC_add1 _ _)
set_option maxHeartbeats 8000000 in
set_option maxRecDepth 100000 in
theorem k_24 {p : Program} {l : Launch} {e : Env} {R : Room} {s : State} {m : MethodId} {args : Array Value} {below : List Frame} {meth : Method} {c : Code} {Q : State → Prop} {G : xG} {b L : Nat} {xs : Nat → Int32} {nm : String} (hst : l.stackTraces = false) (hRf : R.frames = 2048) {C9 S9 : Nat} (hRc : R.cells = C9) (hRs : R.slots = S9) (hC9 : 600000 ≤ C9) (hS9 : 7060000 ≤ S9) (hRl : R.locals = 84000) (hC : xB p s m args meth c cL_law 7 "RangeledgerLaw" nm wsL_law (some .boolean) G (xA (fun _ => none) s.heap.size)) (hX : va_X b L xs s s.heap) (hbl : b < s.heap.size) (hL : L ≤ 3072) {h0 a o : Nat} {rf : Int32} {S : Nat → Bool} {M : HM} {H : Heap} {locs : List Loc} {ls : Array Slot} {i : Int} {cu su : Nat} (hw : xD G (xA (fun _ => none) s.heap.size) s M H locs) (hS : LwS G M h0 a o rf S) (hl : lv_has ls 7 [(0, .ref b), (1, .ref h0), (2, .ref a), (3, .ref o), (4, .int (iN (i)))]) (hi : 0 ≤ i ∧ i + 6 ≤ L) (hcu : cu + 1000 ≤ C9) (hsu : su + 15590 ≤ S9) (kk : ∀ (M1 : HM) (H1 : Heap) (locs1 : List Loc) (ls1 : Array Slot) (rf1 : Int32) (S1 : Nat → Bool), xD G (xA (fun _ => none) s.heap.size) s M1 H1 locs1 → LwS G M1 h0 a o rf1 S1 → lv_has ls1 7 [(0, .ref b), (1, .ref h0), (2, .ref a), (3, .ref o), (4, .int (iN (i)))] → mC S1 100 ≤ mC S 100 + 0 → W p l e R s m args below meth c H1 locs1 (cu + 2) (su + (12)) Q (F0 m 2555 ls1 [])) : W p l e R s m args below meth c H locs cu su Q (F0 m 1540 ls []) := by
  obtain ⟨A, B, d, sv, hM, hG, hm, hdA, hdB⟩ := hS
  subst hM
  have hbA : ¬ (xA (fun _ => none) s.heap.size) b := fun h9 => h9.elim (fun h8 => h8 rfl) (fun h8 => by omega)
  refine lv_aload_n hC.1 hC.2.1 dL_law_1540 rfl (lv_at hl 1 rfl) ?_
  refine lv_aload_n hC.1 hC.2.1 dL_law_1541 rfl (lv_at hl 0 rfl) ?_
  refine lv_iload hC.1 hC.2.1 dL_law_1542 (lv_at hl 4 rfl) ?_
  refine x_const hC dL_law_1544 ?_
  refine x_iadd hC dL_law_1545 ?_
  refine x_sld hC hw hX hbl hbA (by omega) (by omega) (by omega) dL_law_1546 ?_
  obtain ⟨z_1, hz_1⟩ : ∃ z : Int, z = (xs (i + 1).toNat).toInt := ⟨_, rfl⟩
  rw [← hz_1]
  have hrz_1 : -2147483648 ≤ z_1 ∧ z_1 ≤ 2147483647 := by rw [hz_1]; exact iN_rng _
  refine lv_aload_n hC.1 hC.2.1 dL_law_1547 rfl (lv_at hl 0 rfl) ?_
  refine lv_iload hC.1 hC.2.1 dL_law_1548 (lv_at hl 4 rfl) ?_
  refine x_const hC dL_law_1550 ?_
  refine x_iadd hC dL_law_1551 ?_
  refine x_sld hC hw hX hbl hbA (by omega) (by omega) (by omega) dL_law_1552 ?_
  obtain ⟨z_2, hz_2⟩ : ∃ z : Int, z = (xs (i + 2).toNat).toInt := ⟨_, rfl⟩
  rw [← hz_2]
  have hrz_2 : -2147483648 ≤ z_2 ∧ z_2 ≤ 2147483647 := by rw [hz_2]; exact iN_rng _
  refine lv_aload_n hC.1 hC.2.1 dL_law_1553 rfl (lv_at hl 3 rfl) ?_
  refine x_callSW hC hw (lv_size hl) ((c_L_viewStrike l G hst hG hdA (p0 := z_1) (by omega) (p1 := z_2) (by omega)).frame hdB) gL_law_L_viewStrike rfl dv_L_viewStrike_s rfl (Nat.le_of_ble_eq_true rfl) (by rw [hRf]; decide) (by rw [hRl]; decide) (by omega) (by omega) dL_law_1554 (fun r9 M1 H locs hq hw => ?_)
  obtain ⟨Ck_3, ⟨⟨zk_3, hrk_3⟩, Ak_3, dk_3, svk_3, hG, hCk_3, hdA⟩, hMk_3, hdB⟩ := hq
  subst hrk_3
  subst hCk_3
  subst hMk_3
  show W p l e R s m args below meth c H locs _ _ _ (F0 m 1557 ls [.int (iN (zk_3))])
  refine lv_istore (lv' := [(5, .int (iN (zk_3))), (0, .ref b), (1, .ref h0), (2, .ref a), (3, .ref o), (4, .int (iN (i)))]) hC.1 hC.2.1 dL_law_1557 hl (by decide) rfl (fun ls hl => ?_)
  refine lv_aload_n hC.1 hC.2.1 dL_law_1559 rfl (lv_at hl 3 rfl) ?_
  refine lv_aload_n hC.1 hC.2.1 dL_law_1560 rfl (lv_at hl 1 rfl) ?_
  refine lv_iload hC.1 hC.2.1 dL_law_1561 (lv_at hl 5 rfl) ?_
  refine x_const hC dL_law_1563 ?_
  refine x_iadd hC dL_law_1564 ?_
  refine x_sld hC hw hX hbl hbA (by omega) (by omega) (by omega) dL_law_1565 ?_
  obtain ⟨z_4, hz_4⟩ : ∃ z : Int, z = (xs (i + 1).toNat).toInt := ⟨_, rfl⟩
  rw [← hz_4]
  have hrz_4 : -2147483648 ≤ z_4 ∧ z_4 ≤ 2147483647 := by rw [hz_4]; exact iN_rng _
  refine lv_aload_n hC.1 hC.2.1 dL_law_1566 rfl (lv_at hl 1 rfl) ?_
  refine lv_iload hC.1 hC.2.1 dL_law_1567 (lv_at hl 5 rfl) ?_
  refine x_const hC dL_law_1569 ?_
  refine x_iadd hC dL_law_1570 ?_
  refine x_sld hC hw hX hbl hbA (by omega) (by omega) (by omega) dL_law_1571 ?_
  obtain ⟨z_5, hz_5⟩ : ∃ z : Int, z = (xs (i + 2).toNat).toInt := ⟨_, rfl⟩
  rw [← hz_5]
  have hrz_5 : -2147483648 ≤ z_5 ∧ z_5 ≤ 2147483647 := by rw [hz_5]; exact iN_rng _
  rw [xU_comm hdB] at hw
  obtain ⟨va, oa, wa, ya, wk, th, br, re, la, ha, kp, kv, qv, qw, fa, fb, fvv, fw, fo, fy, hR⟩ := hm
  refine x_callV hC hw (lv_size hl) ((c_X5_viewStrike l G hR (p0 := z_4) (by omega) (p1 := z_5) (by omega)).frame hdB.symm) gL_law_X5_viewStrike rfl dv_X5_viewStrike (xU_l hR.1.1) rfl rfl (Nat.le_of_ble_eq_true rfl) (by rw [hRf]; decide) (by rw [hRl]; decide) (by omega) (by omega) dL_law_1572 (fun r9 M1 H locs hq hw => ?_)
  obtain ⟨Bk_6, ⟨zk_6, hrk_6, hzk_6, hm⟩, hMk_6, hdB9⟩ := hq
  subst hrk_6
  subst hMk_6
  have hdB := hdB9.symm
  rw [xU_comm hdB9] at hw
  show W p l e R s m args below meth c H locs _ _ _ (F0 m 1575 ls [.int (iN (zk_6))])
  refine lv_istore (lv' := [(6, .int (iN (zk_6))), (5, .int (iN (zk_3))), (0, .ref b), (1, .ref h0), (2, .ref a), (3, .ref o), (4, .int (iN (i)))]) hC.1 hC.2.1 dL_law_1575 hl (by decide) rfl (fun ls hl => ?_)
  refine lv_goto (tgt := 2555) hC.1 hC.2.1 dL_law_1577 (by decide) ?_
  refine W.widen (k := cu + 2) (n := su + (12)) (by omega) (by omega) ?_
  exact kk _ _ _ _ rf S hw ⟨_, _, _, _, rfl, hG, hm, hdA, hdB⟩ (lv_sub hl [2, 3, 4, 5, 6] rfl) (Nat.le_refl _)
set_option maxHeartbeats 8000000 in
set_option maxRecDepth 100000 in
theorem k_25 {p : Program} {l : Launch} {e : Env} {R : Room} {s : State} {m : MethodId} {args : Array Value} {below : List Frame} {meth : Method} {c : Code} {Q : State → Prop} {G : xG} {b L : Nat} {xs : Nat → Int32} {nm : String} (hst : l.stackTraces = false) (hRf : R.frames = 2048) {C9 S9 : Nat} (hRc : R.cells = C9) (hRs : R.slots = S9) (hC9 : 600000 ≤ C9) (hS9 : 7060000 ≤ S9) (hRl : R.locals = 84000) (hC : xB p s m args meth c cL_law 7 "RangeledgerLaw" nm wsL_law (some .boolean) G (xA (fun _ => none) s.heap.size)) (hX : va_X b L xs s s.heap) (hbl : b < s.heap.size) (hL : L ≤ 3072) {h0 a o : Nat} {rf : Int32} {S : Nat → Bool} {M : HM} {H : Heap} {locs : List Loc} {ls : Array Slot} {i : Int} {cu su : Nat} (hw : xD G (xA (fun _ => none) s.heap.size) s M H locs) (hS : LwS G M h0 a o rf S) (hl : lv_has ls 7 [(0, .ref b), (1, .ref h0), (2, .ref a), (3, .ref o), (4, .int (iN (i)))]) (hi : 0 ≤ i ∧ i + 6 ≤ L) (hcu : cu + 1000 ≤ C9) (hsu : su + 15590 ≤ S9) (kk : ∀ (M1 : HM) (H1 : Heap) (locs1 : List Loc) (ls1 : Array Slot) (rf1 : Int32) (S1 : Nat → Bool), xD G (xA (fun _ => none) s.heap.size) s M1 H1 locs1 → LwS G M1 h0 a o rf1 S1 → lv_has ls1 7 [(0, .ref b), (1, .ref h0), (2, .ref a), (3, .ref o), (4, .int (iN (i)))] → mC S1 100 ≤ mC S 100 + 1 → W p l e R s m args below meth c H1 locs1 (cu + 3) (su + (18)) Q (F0 m 2555 ls1 [])) : W p l e R s m args below meth c H locs cu su Q (F0 m 1580 ls []) := by
  obtain ⟨A, B, d, sv, hM, hG, hm, hdA, hdB⟩ := hS
  subst hM
  have hbA : ¬ (xA (fun _ => none) s.heap.size) b := fun h9 => h9.elim (fun h8 => h8 rfl) (fun h8 => by omega)
  refine lv_aload_n hC.1 hC.2.1 dL_law_1580 rfl (lv_at hl 1 rfl) ?_
  refine lv_aload_n hC.1 hC.2.1 dL_law_1581 rfl (lv_at hl 0 rfl) ?_
  refine lv_iload hC.1 hC.2.1 dL_law_1582 (lv_at hl 4 rfl) ?_
  refine x_const hC dL_law_1584 ?_
  refine x_iadd hC dL_law_1585 ?_
  refine x_sld hC hw hX hbl hbA (by omega) (by omega) (by omega) dL_law_1586 ?_
  obtain ⟨z_1, hz_1⟩ : ∃ z : Int, z = (xs (i + 1).toNat).toInt := ⟨_, rfl⟩
  rw [← hz_1]
  have hrz_1 : -2147483648 ≤ z_1 ∧ z_1 ≤ 2147483647 := by rw [hz_1]; exact iN_rng _
  refine lv_aload_n hC.1 hC.2.1 dL_law_1587 rfl (lv_at hl 0 rfl) ?_
  refine lv_iload hC.1 hC.2.1 dL_law_1588 (lv_at hl 4 rfl) ?_
  refine x_const hC dL_law_1590 ?_
  refine x_iadd hC dL_law_1591 ?_
  refine x_sld hC hw hX hbl hbA (by omega) (by omega) (by omega) dL_law_1592 ?_
  obtain ⟨z_2, hz_2⟩ : ∃ z : Int, z = (xs (i + 2).toNat).toInt := ⟨_, rfl⟩
  rw [← hz_2]
  have hrz_2 : -2147483648 ≤ z_2 ∧ z_2 ≤ 2147483647 := by rw [hz_2]; exact iN_rng _
  refine lv_aload_n hC.1 hC.2.1 dL_law_1593 rfl (lv_at hl 0 rfl) ?_
  refine lv_iload hC.1 hC.2.1 dL_law_1594 (lv_at hl 4 rfl) ?_
  refine x_const hC dL_law_1596 ?_
  refine x_iadd hC dL_law_1597 ?_
  refine x_sld hC hw hX hbl hbA (by omega) (by omega) (by omega) dL_law_1598 ?_
  obtain ⟨z_3, hz_3⟩ : ∃ z : Int, z = (xs (i + 3).toNat).toInt := ⟨_, rfl⟩
  rw [← hz_3]
  have hrz_3 : -2147483648 ≤ z_3 ∧ z_3 ≤ 2147483647 := by rw [hz_3]; exact iN_rng _
  refine lv_aload_n hC.1 hC.2.1 dL_law_1599 rfl (lv_at hl 3 rfl) ?_
  refine x_callSW hC hw (lv_size hl) ((c_L_viewMerge l G hst hG hdA (p0 := z_1) (by omega) (p1 := z_2) (by omega) (p2 := z_3) (by omega)).frame hdB) gL_law_L_viewMerge rfl dv_L_viewMerge_s rfl (Nat.le_of_ble_eq_true rfl) (by rw [hRf]; decide) (by rw [hRl]; decide) (by omega) (by omega) dL_law_1600 (fun r9 M1 H locs hq hw => ?_)
  obtain ⟨Ck_4, ⟨⟨zk_4, hrk_4⟩, Ak_4, dk_4, svk_4, hG, hCk_4, hdA⟩, hMk_4, hdB⟩ := hq
  subst hrk_4
  subst hCk_4
  subst hMk_4
  show W p l e R s m args below meth c H locs _ _ _ (F0 m 1603 ls [.int (iN (zk_4))])
  refine lv_istore (lv' := [(5, .int (iN (zk_4))), (0, .ref b), (1, .ref h0), (2, .ref a), (3, .ref o), (4, .int (iN (i)))]) hC.1 hC.2.1 dL_law_1603 hl (by decide) rfl (fun ls hl => ?_)
  refine lv_aload_n hC.1 hC.2.1 dL_law_1605 rfl (lv_at hl 3 rfl) ?_
  refine lv_aload_n hC.1 hC.2.1 dL_law_1606 rfl (lv_at hl 1 rfl) ?_
  refine lv_iload hC.1 hC.2.1 dL_law_1607 (lv_at hl 5 rfl) ?_
  refine x_const hC dL_law_1609 ?_
  refine x_iadd hC dL_law_1610 ?_
  refine x_sld hC hw hX hbl hbA (by omega) (by omega) (by omega) dL_law_1611 ?_
  obtain ⟨z_5, hz_5⟩ : ∃ z : Int, z = (xs (i + 1).toNat).toInt := ⟨_, rfl⟩
  rw [← hz_5]
  have hrz_5 : -2147483648 ≤ z_5 ∧ z_5 ≤ 2147483647 := by rw [hz_5]; exact iN_rng _
  refine lv_aload_n hC.1 hC.2.1 dL_law_1612 rfl (lv_at hl 1 rfl) ?_
  refine lv_iload hC.1 hC.2.1 dL_law_1613 (lv_at hl 5 rfl) ?_
  refine x_const hC dL_law_1615 ?_
  refine x_iadd hC dL_law_1616 ?_
  refine x_sld hC hw hX hbl hbA (by omega) (by omega) (by omega) dL_law_1617 ?_
  obtain ⟨z_6, hz_6⟩ : ∃ z : Int, z = (xs (i + 2).toNat).toInt := ⟨_, rfl⟩
  rw [← hz_6]
  have hrz_6 : -2147483648 ≤ z_6 ∧ z_6 ≤ 2147483647 := by rw [hz_6]; exact iN_rng _
  refine lv_aload_n hC.1 hC.2.1 dL_law_1618 rfl (lv_at hl 1 rfl) ?_
  refine lv_iload hC.1 hC.2.1 dL_law_1619 (lv_at hl 5 rfl) ?_
  refine x_const hC dL_law_1621 ?_
  refine x_iadd hC dL_law_1622 ?_
  refine x_sld hC hw hX hbl hbA (by omega) (by omega) (by omega) dL_law_1623 ?_
  obtain ⟨z_7, hz_7⟩ : ∃ z : Int, z = (xs (i + 3).toNat).toInt := ⟨_, rfl⟩
  rw [← hz_7]
  have hrz_7 : -2147483648 ≤ z_7 ∧ z_7 ≤ 2147483647 := by rw [hz_7]; exact iN_rng _
  rw [xU_comm hdB] at hw
  have hm := hm.add (z_6).toNat
  obtain ⟨va, oa, wa, ya, wk, th, br, re, la, ha, kp, kv, qv, qw, fa, fb, fvv, fw, fo, fy, hR⟩ := hm
  refine x_callV hC hw (lv_size hl) ((c_X5_viewMerge l G hR (p0 := z_5) (by omega) (p1 := z_6) (by omega) (p2 := z_7) (by omega) (fun _ => by simp [sAdd])).frame hdB.symm) gL_law_X5_viewMerge rfl dv_X5_viewMerge (xU_l hR.1.1) rfl rfl (Nat.le_of_ble_eq_true rfl) (by rw [hRf]; decide) (by rw [hRl]; decide) (by omega) (by omega) dL_law_1624 (fun r9 M1 H locs hq hw => ?_)
  obtain ⟨Bk_8, ⟨zk_8, hrk_8, hzk_8, hm⟩, hMk_8, hdB9⟩ := hq
  subst hrk_8
  subst hMk_8
  have hdB := hdB9.symm
  rw [xU_comm hdB9] at hw
  show W p l e R s m args below meth c H locs _ _ _ (F0 m 1627 ls [.int (iN (zk_8))])
  refine lv_istore (lv' := [(6, .int (iN (zk_8))), (5, .int (iN (zk_4))), (0, .ref b), (1, .ref h0), (2, .ref a), (3, .ref o), (4, .int (iN (i)))]) hC.1 hC.2.1 dL_law_1627 hl (by decide) rfl (fun ls hl => ?_)
  refine lv_goto (tgt := 2555) hC.1 hC.2.1 dL_law_1629 (by decide) ?_
  refine W.widen (k := cu + 3) (n := su + (18)) (by omega) (by omega) ?_
  exact kk _ _ _ _ rf (sAdd S (z_6).toNat) hw ⟨_, _, _, _, rfl, hG, hm, hdA, hdB⟩ (lv_sub hl [2, 3, 4, 5, 6] rfl) (mC_add1 _ _)
set_option maxHeartbeats 8000000 in
set_option maxRecDepth 100000 in
theorem k_26 {p : Program} {l : Launch} {e : Env} {R : Room} {s : State} {m : MethodId} {args : Array Value} {below : List Frame} {meth : Method} {c : Code} {Q : State → Prop} {G : xG} {b L : Nat} {xs : Nat → Int32} {nm : String} (hst : l.stackTraces = false) (hRf : R.frames = 2048) {C9 S9 : Nat} (hRc : R.cells = C9) (hRs : R.slots = S9) (hC9 : 600000 ≤ C9) (hS9 : 7060000 ≤ S9) (hRl : R.locals = 84000) (hC : xB p s m args meth c cL_law 7 "RangeledgerLaw" nm wsL_law (some .boolean) G (xA (fun _ => none) s.heap.size)) (hX : va_X b L xs s s.heap) (hbl : b < s.heap.size) (hL : L ≤ 3072) {h0 a o : Nat} {rf : Int32} {S : Nat → Bool} {M : HM} {H : Heap} {locs : List Loc} {ls : Array Slot} {i : Int} {cu su : Nat} (hw : xD G (xA (fun _ => none) s.heap.size) s M H locs) (hS : LwS G M h0 a o rf S) (hl : lv_has ls 7 [(0, .ref b), (1, .ref h0), (2, .ref a), (3, .ref o), (4, .int (iN (i)))]) (hi : 0 ≤ i ∧ i + 6 ≤ L) (hcu : cu + 1000 ≤ C9) (hsu : su + 15590 ≤ S9) (kk : ∀ (M1 : HM) (H1 : Heap) (locs1 : List Loc) (ls1 : Array Slot) (rf1 : Int32) (S1 : Nat → Bool), xD G (xA (fun _ => none) s.heap.size) s M1 H1 locs1 → LwS G M1 h0 a o rf1 S1 → lv_has ls1 7 [(0, .ref b), (1, .ref h0), (2, .ref a), (3, .ref o), (4, .int (iN (i)))] → mC S1 100 ≤ mC S 100 + 0 → W p l e R s m args below meth c H1 locs1 (cu + 1) (su + (6)) Q (F0 m 2555 ls1 [])) : W p l e R s m args below meth c H locs cu su Q (F0 m 1632 ls []) := by
  obtain ⟨A, B, d, sv, hM, hG, hm, hdA, hdB⟩ := hS
  subst hM
  have hbA : ¬ (xA (fun _ => none) s.heap.size) b := fun h9 => h9.elim (fun h8 => h8 rfl) (fun h8 => by omega)
  refine lv_aload_n hC.1 hC.2.1 dL_law_1632 rfl (lv_at hl 1 rfl) ?_
  refine lv_aload_n hC.1 hC.2.1 dL_law_1633 rfl (lv_at hl 0 rfl) ?_
  refine lv_iload hC.1 hC.2.1 dL_law_1634 (lv_at hl 4 rfl) ?_
  refine x_const hC dL_law_1636 ?_
  refine x_iadd hC dL_law_1637 ?_
  refine x_sld hC hw hX hbl hbA (by omega) (by omega) (by omega) dL_law_1638 ?_
  obtain ⟨z_1, hz_1⟩ : ∃ z : Int, z = (xs (i + 1).toNat).toInt := ⟨_, rfl⟩
  rw [← hz_1]
  have hrz_1 : -2147483648 ≤ z_1 ∧ z_1 ≤ 2147483647 := by rw [hz_1]; exact iN_rng _
  refine lv_aload_n hC.1 hC.2.1 dL_law_1639 rfl (lv_at hl 0 rfl) ?_
  refine lv_iload hC.1 hC.2.1 dL_law_1640 (lv_at hl 4 rfl) ?_
  refine x_const hC dL_law_1642 ?_
  refine x_iadd hC dL_law_1643 ?_
  refine x_sld hC hw hX hbl hbA (by omega) (by omega) (by omega) dL_law_1644 ?_
  obtain ⟨z_2, hz_2⟩ : ∃ z : Int, z = (xs (i + 2).toNat).toInt := ⟨_, rfl⟩
  rw [← hz_2]
  have hrz_2 : -2147483648 ≤ z_2 ∧ z_2 ≤ 2147483647 := by rw [hz_2]; exact iN_rng _
  refine x_if_eq (tgt := 1652) hC ⟨by omega, by omega⟩ dL_law_1645 (by decide) (fun c_3 => ?_) (fun c_3 => ?_)
  · refine x_const hC dL_law_1652 ?_
    refine lv_aload_n hC.1 hC.2.1 dL_law_1653 rfl (lv_at hl 3 rfl) ?_
    refine x_callSW hC hw (lv_size hl) ((c_L_viewPoll l G hst hG hdA (p0 := z_1) (by omega) (p1 := 0) (by omega) (by omega)).frame hdB) gL_law_L_viewPoll rfl dv_L_viewPoll_s rfl (Nat.le_of_ble_eq_true rfl) (by rw [hRf]; decide) (by rw [hRl]; decide) (by omega) (by omega) dL_law_1654 (fun r9 M1 H locs hq hw => ?_)
    obtain ⟨Ck_4, ⟨⟨zk_4, hrk_4⟩, Ak_4, dk_4, svk_4, hG, hCk_4, hdA⟩, hMk_4, hdB⟩ := hq
    subst hrk_4
    subst hCk_4
    subst hMk_4
    show W p l e R s m args below meth c H locs _ _ _ (F0 m 1657 ls [.int (iN (zk_4))])
    refine lv_istore (lv' := [(5, .int (iN (zk_4))), (0, .ref b), (1, .ref h0), (2, .ref a), (3, .ref o), (4, .int (iN (i)))]) hC.1 hC.2.1 dL_law_1657 hl (by decide) rfl (fun ls hl => ?_)
    refine lv_aload_n hC.1 hC.2.1 dL_law_1659 rfl (lv_at hl 3 rfl) ?_
    refine lv_aload_n hC.1 hC.2.1 dL_law_1660 rfl (lv_at hl 1 rfl) ?_
    refine lv_iload hC.1 hC.2.1 dL_law_1661 (lv_at hl 5 rfl) ?_
    refine x_const hC dL_law_1663 ?_
    refine x_iadd hC dL_law_1664 ?_
    refine x_sld hC hw hX hbl hbA (by omega) (by omega) (by omega) dL_law_1665 ?_
    obtain ⟨z_5, hz_5⟩ : ∃ z : Int, z = (xs (i + 1).toNat).toInt := ⟨_, rfl⟩
    rw [← hz_5]
    have hrz_5 : -2147483648 ≤ z_5 ∧ z_5 ≤ 2147483647 := by rw [hz_5]; exact iN_rng _
    refine lv_aload_n hC.1 hC.2.1 dL_law_1666 rfl (lv_at hl 1 rfl) ?_
    refine lv_iload hC.1 hC.2.1 dL_law_1667 (lv_at hl 5 rfl) ?_
    refine x_const hC dL_law_1669 ?_
    refine x_iadd hC dL_law_1670 ?_
    refine x_sld hC hw hX hbl hbA (by omega) (by omega) (by omega) dL_law_1671 ?_
    obtain ⟨z_6, hz_6⟩ : ∃ z : Int, z = (xs (i + 2).toNat).toInt := ⟨_, rfl⟩
    rw [← hz_6]
    have hrz_6 : -2147483648 ≤ z_6 ∧ z_6 ≤ 2147483647 := by rw [hz_6]; exact iN_rng _
    refine x_if_eq (tgt := 1679) hC ⟨by omega, by omega⟩ dL_law_1672 (by decide) (fun c_7 => ?_) (fun c_7 => ?_)
    · refine x_const hC dL_law_1679 ?_
      rw [xU_comm hdB] at hw
      obtain ⟨va, oa, wa, ya, wk, th, br, re, la, ha, kp, kv, qv, qw, fa, fb, fvv, fw, fo, fy, hR⟩ := hm
      refine x_callV hC hw (lv_size hl) ((c_X5_viewPoll l G hR (p0 := z_5) (by omega) (p1 := 0) (by omega)).frame hdB.symm) gL_law_X5_viewPoll rfl dv_X5_viewPoll (xU_l hR.1.1) rfl rfl (Nat.le_of_ble_eq_true rfl) (by rw [hRf]; decide) (by rw [hRl]; decide) (by omega) (by omega) dL_law_1680 (fun r9 M1 H locs hq hw => ?_)
      obtain ⟨Bk_8, ⟨zk_8, hrk_8, hzk_8, hm⟩, hMk_8, hdB9⟩ := hq
      subst hrk_8
      subst hMk_8
      have hdB := hdB9.symm
      rw [xU_comm hdB9] at hw
      show W p l e R s m args below meth c H locs _ _ _ (F0 m 1683 ls [.int (iN (zk_8))])
      refine lv_istore (lv' := [(6, .int (iN (zk_8))), (5, .int (iN (zk_4))), (0, .ref b), (1, .ref h0), (2, .ref a), (3, .ref o), (4, .int (iN (i)))]) hC.1 hC.2.1 dL_law_1683 hl (by decide) rfl (fun ls hl => ?_)
      refine lv_goto (tgt := 2555) hC.1 hC.2.1 dL_law_1685 (by decide) ?_
      refine W.widen (k := cu + 1) (n := su + (6)) (by omega) (by omega) ?_
      exact kk _ _ _ _ rf S hw ⟨_, _, _, _, rfl, hG, hm, hdA, hdB⟩ (lv_sub hl [2, 3, 4, 5, 6] rfl) (Nat.le_refl _)
    · refine x_const hC dL_law_1675 ?_
      refine lv_goto (tgt := 1680) hC.1 hC.2.1 dL_law_1676 (by decide) ?_
      rw [xU_comm hdB] at hw
      obtain ⟨va, oa, wa, ya, wk, th, br, re, la, ha, kp, kv, qv, qw, fa, fb, fvv, fw, fo, fy, hR⟩ := hm
      refine x_callV hC hw (lv_size hl) ((c_X5_viewPoll l G hR (p0 := z_5) (by omega) (p1 := 1) (by omega)).frame hdB.symm) gL_law_X5_viewPoll rfl dv_X5_viewPoll (xU_l hR.1.1) rfl rfl (Nat.le_of_ble_eq_true rfl) (by rw [hRf]; decide) (by rw [hRl]; decide) (by omega) (by omega) dL_law_1680 (fun r9 M1 H locs hq hw => ?_)
      obtain ⟨Bk_9, ⟨zk_9, hrk_9, hzk_9, hm⟩, hMk_9, hdB9⟩ := hq
      subst hrk_9
      subst hMk_9
      have hdB := hdB9.symm
      rw [xU_comm hdB9] at hw
      show W p l e R s m args below meth c H locs _ _ _ (F0 m 1683 ls [.int (iN (zk_9))])
      refine lv_istore (lv' := [(6, .int (iN (zk_9))), (5, .int (iN (zk_4))), (0, .ref b), (1, .ref h0), (2, .ref a), (3, .ref o), (4, .int (iN (i)))]) hC.1 hC.2.1 dL_law_1683 hl (by decide) rfl (fun ls hl => ?_)
      refine lv_goto (tgt := 2555) hC.1 hC.2.1 dL_law_1685 (by decide) ?_
      refine W.widen (k := cu + 1) (n := su + (6)) (by omega) (by omega) ?_
      exact kk _ _ _ _ rf S hw ⟨_, _, _, _, rfl, hG, hm, hdA, hdB⟩ (lv_sub hl [2, 3, 4, 5, 6] rfl) (Nat.le_refl _)
  · refine x_const hC dL_law_1648 ?_
    refine lv_goto (tgt := 1653) hC.1 hC.2.1 dL_law_1649 (by decide) ?_
    refine lv_aload_n hC.1 hC.2.1 dL_law_1653 rfl (lv_at hl 3 rfl) ?_
    refine x_callSW hC hw (lv_size hl) ((c_L_viewPoll l G hst hG hdA (p0 := z_1) (by omega) (p1 := 1) (by omega) (by omega)).frame hdB) gL_law_L_viewPoll rfl dv_L_viewPoll_s rfl (Nat.le_of_ble_eq_true rfl) (by rw [hRf]; decide) (by rw [hRl]; decide) (by omega) (by omega) dL_law_1654 (fun r9 M1 H locs hq hw => ?_)
    obtain ⟨Ck_10, ⟨⟨zk_10, hrk_10⟩, Ak_10, dk_10, svk_10, hG, hCk_10, hdA⟩, hMk_10, hdB⟩ := hq
    subst hrk_10
    subst hCk_10
    subst hMk_10
    show W p l e R s m args below meth c H locs _ _ _ (F0 m 1657 ls [.int (iN (zk_10))])
    refine lv_istore (lv' := [(5, .int (iN (zk_10))), (0, .ref b), (1, .ref h0), (2, .ref a), (3, .ref o), (4, .int (iN (i)))]) hC.1 hC.2.1 dL_law_1657 hl (by decide) rfl (fun ls hl => ?_)
    refine lv_aload_n hC.1 hC.2.1 dL_law_1659 rfl (lv_at hl 3 rfl) ?_
    refine lv_aload_n hC.1 hC.2.1 dL_law_1660 rfl (lv_at hl 1 rfl) ?_
    refine lv_iload hC.1 hC.2.1 dL_law_1661 (lv_at hl 5 rfl) ?_
    refine x_const hC dL_law_1663 ?_
    refine x_iadd hC dL_law_1664 ?_
    refine x_sld hC hw hX hbl hbA (by omega) (by omega) (by omega) dL_law_1665 ?_
    obtain ⟨z_11, hz_11⟩ : ∃ z : Int, z = (xs (i + 1).toNat).toInt := ⟨_, rfl⟩
    rw [← hz_11]
    have hrz_11 : -2147483648 ≤ z_11 ∧ z_11 ≤ 2147483647 := by rw [hz_11]; exact iN_rng _
    refine lv_aload_n hC.1 hC.2.1 dL_law_1666 rfl (lv_at hl 1 rfl) ?_
    refine lv_iload hC.1 hC.2.1 dL_law_1667 (lv_at hl 5 rfl) ?_
    refine x_const hC dL_law_1669 ?_
    refine x_iadd hC dL_law_1670 ?_
    refine x_sld hC hw hX hbl hbA (by omega) (by omega) (by omega) dL_law_1671 ?_
    obtain ⟨z_12, hz_12⟩ : ∃ z : Int, z = (xs (i + 2).toNat).toInt := ⟨_, rfl⟩
    rw [← hz_12]
    have hrz_12 : -2147483648 ≤ z_12 ∧ z_12 ≤ 2147483647 := by rw [hz_12]; exact iN_rng _
    refine x_if_eq (tgt := 1679) hC ⟨by omega, by omega⟩ dL_law_1672 (by decide) (fun c_13 => ?_) (fun c_13 => ?_)
    · refine x_const hC dL_law_1679 ?_
      rw [xU_comm hdB] at hw
      obtain ⟨va, oa, wa, ya, wk, th, br, re, la, ha, kp, kv, qv, qw, fa, fb, fvv, fw, fo, fy, hR⟩ := hm
      refine x_callV hC hw (lv_size hl) ((c_X5_viewPoll l G hR (p0 := z_11) (by omega) (p1 := 0) (by omega)).frame hdB.symm) gL_law_X5_viewPoll rfl dv_X5_viewPoll (xU_l hR.1.1) rfl rfl (Nat.le_of_ble_eq_true rfl) (by rw [hRf]; decide) (by rw [hRl]; decide) (by omega) (by omega) dL_law_1680 (fun r9 M1 H locs hq hw => ?_)
      obtain ⟨Bk_14, ⟨zk_14, hrk_14, hzk_14, hm⟩, hMk_14, hdB9⟩ := hq
      subst hrk_14
      subst hMk_14
      have hdB := hdB9.symm
      rw [xU_comm hdB9] at hw
      show W p l e R s m args below meth c H locs _ _ _ (F0 m 1683 ls [.int (iN (zk_14))])
      refine lv_istore (lv' := [(6, .int (iN (zk_14))), (5, .int (iN (zk_10))), (0, .ref b), (1, .ref h0), (2, .ref a), (3, .ref o), (4, .int (iN (i)))]) hC.1 hC.2.1 dL_law_1683 hl (by decide) rfl (fun ls hl => ?_)
      refine lv_goto (tgt := 2555) hC.1 hC.2.1 dL_law_1685 (by decide) ?_
      refine W.widen (k := cu + 1) (n := su + (6)) (by omega) (by omega) ?_
      exact kk _ _ _ _ rf S hw ⟨_, _, _, _, rfl, hG, hm, hdA, hdB⟩ (lv_sub hl [2, 3, 4, 5, 6] rfl) (Nat.le_refl _)
    · refine x_const hC dL_law_1675 ?_
      refine lv_goto (tgt := 1680) hC.1 hC.2.1 dL_law_1676 (by decide) ?_
      rw [xU_comm hdB] at hw
      obtain ⟨va, oa, wa, ya, wk, th, br, re, la, ha, kp, kv, qv, qw, fa, fb, fvv, fw, fo, fy, hR⟩ := hm
      refine x_callV hC hw (lv_size hl) ((c_X5_viewPoll l G hR (p0 := z_11) (by omega) (p1 := 1) (by omega)).frame hdB.symm) gL_law_X5_viewPoll rfl dv_X5_viewPoll (xU_l hR.1.1) rfl rfl (Nat.le_of_ble_eq_true rfl) (by rw [hRf]; decide) (by rw [hRl]; decide) (by omega) (by omega) dL_law_1680 (fun r9 M1 H locs hq hw => ?_)
      obtain ⟨Bk_15, ⟨zk_15, hrk_15, hzk_15, hm⟩, hMk_15, hdB9⟩ := hq
      subst hrk_15
      subst hMk_15
      have hdB := hdB9.symm
      rw [xU_comm hdB9] at hw
      show W p l e R s m args below meth c H locs _ _ _ (F0 m 1683 ls [.int (iN (zk_15))])
      refine lv_istore (lv' := [(6, .int (iN (zk_15))), (5, .int (iN (zk_10))), (0, .ref b), (1, .ref h0), (2, .ref a), (3, .ref o), (4, .int (iN (i)))]) hC.1 hC.2.1 dL_law_1683 hl (by decide) rfl (fun ls hl => ?_)
      refine lv_goto (tgt := 2555) hC.1 hC.2.1 dL_law_1685 (by decide) ?_
      refine W.widen (k := cu + 1) (n := su + (6)) (by omega) (by omega) ?_
      exact kk _ _ _ _ rf S hw ⟨_, _, _, _, rfl, hG, hm, hdA, hdB⟩ (lv_sub hl [2, 3, 4, 5, 6] rfl) (Nat.le_refl _)
set_option maxHeartbeats 8000000 in
set_option maxRecDepth 100000 in
theorem k_27 {p : Program} {l : Launch} {e : Env} {R : Room} {s : State} {m : MethodId} {args : Array Value} {below : List Frame} {meth : Method} {c : Code} {Q : State → Prop} {G : xG} {b L : Nat} {xs : Nat → Int32} {nm : String} (hst : l.stackTraces = false) (hRf : R.frames = 2048) {C9 S9 : Nat} (hRc : R.cells = C9) (hRs : R.slots = S9) (hC9 : 600000 ≤ C9) (hS9 : 7060000 ≤ S9) (hRl : R.locals = 84000) (hC : xB p s m args meth c cL_law 7 "RangeledgerLaw" nm wsL_law (some .boolean) G (xA (fun _ => none) s.heap.size)) (hX : va_X b L xs s s.heap) (hbl : b < s.heap.size) (hL : L ≤ 3072) {h0 a o : Nat} {rf : Int32} {S : Nat → Bool} {M : HM} {H : Heap} {locs : List Loc} {ls : Array Slot} {i : Int} {cu su : Nat} (hw : xD G (xA (fun _ => none) s.heap.size) s M H locs) (hS : LwS G M h0 a o rf S) (hl : lv_has ls 7 [(0, .ref b), (1, .ref h0), (2, .ref a), (3, .ref o), (4, .int (iN (i)))]) (hi : 0 ≤ i ∧ i + 6 ≤ L) (hcu : cu + 1000 ≤ C9) (hsu : su + 15590 ≤ S9) (kk : ∀ (M1 : HM) (H1 : Heap) (locs1 : List Loc) (ls1 : Array Slot) (rf1 : Int32) (S1 : Nat → Bool), xD G (xA (fun _ => none) s.heap.size) s M1 H1 locs1 → LwS G M1 h0 a o rf1 S1 → lv_has ls1 7 [(0, .ref b), (1, .ref h0), (2, .ref a), (3, .ref o), (4, .int (iN (i)))] → mC S1 100 ≤ mC S 100 + 0 → W p l e R s m args below meth c H1 locs1 (cu + 1) (su + (6)) Q (F0 m 2555 ls1 [])) : W p l e R s m args below meth c H locs cu su Q (F0 m 1688 ls []) := by
  obtain ⟨A, B, d, sv, hM, hG, hm, hdA, hdB⟩ := hS
  subst hM
  have hbA : ¬ (xA (fun _ => none) s.heap.size) b := fun h9 => h9.elim (fun h8 => h8 rfl) (fun h8 => by omega)
  refine lv_aload_n hC.1 hC.2.1 dL_law_1688 rfl (lv_at hl 1 rfl) ?_
  refine lv_aload_n hC.1 hC.2.1 dL_law_1689 rfl (lv_at hl 0 rfl) ?_
  refine lv_iload hC.1 hC.2.1 dL_law_1690 (lv_at hl 4 rfl) ?_
  refine x_const hC dL_law_1692 ?_
  refine x_iadd hC dL_law_1693 ?_
  refine x_sld hC hw hX hbl hbA (by omega) (by omega) (by omega) dL_law_1694 ?_
  obtain ⟨z_1, hz_1⟩ : ∃ z : Int, z = (xs (i + 1).toNat).toInt := ⟨_, rfl⟩
  rw [← hz_1]
  have hrz_1 : -2147483648 ≤ z_1 ∧ z_1 ≤ 2147483647 := by rw [hz_1]; exact iN_rng _
  refine lv_aload_n hC.1 hC.2.1 dL_law_1695 rfl (lv_at hl 3 rfl) ?_
  refine x_callSW hC hw (lv_size hl) ((c_L_viewClear l G hst hG hdA (p0 := z_1) (by omega)).frame hdB) gL_law_L_viewClear rfl dv_L_viewClear_s rfl (Nat.le_of_ble_eq_true rfl) (by rw [hRf]; decide) (by rw [hRl]; decide) (by omega) (by omega) dL_law_1696 (fun r9 M1 H locs hq hw => ?_)
  obtain ⟨Ck_2, ⟨⟨zk_2, hrk_2⟩, Ak_2, dk_2, svk_2, hG, hCk_2, hdA⟩, hMk_2, hdB⟩ := hq
  subst hrk_2
  subst hCk_2
  subst hMk_2
  show W p l e R s m args below meth c H locs _ _ _ (F0 m 1699 ls [.int (iN (zk_2))])
  refine lv_istore (lv' := [(5, .int (iN (zk_2))), (0, .ref b), (1, .ref h0), (2, .ref a), (3, .ref o), (4, .int (iN (i)))]) hC.1 hC.2.1 dL_law_1699 hl (by decide) rfl (fun ls hl => ?_)
  refine lv_aload_n hC.1 hC.2.1 dL_law_1701 rfl (lv_at hl 3 rfl) ?_
  refine lv_aload_n hC.1 hC.2.1 dL_law_1702 rfl (lv_at hl 1 rfl) ?_
  refine lv_iload hC.1 hC.2.1 dL_law_1703 (lv_at hl 5 rfl) ?_
  refine x_const hC dL_law_1705 ?_
  refine x_iadd hC dL_law_1706 ?_
  refine x_sld hC hw hX hbl hbA (by omega) (by omega) (by omega) dL_law_1707 ?_
  obtain ⟨z_3, hz_3⟩ : ∃ z : Int, z = (xs (i + 1).toNat).toInt := ⟨_, rfl⟩
  rw [← hz_3]
  have hrz_3 : -2147483648 ≤ z_3 ∧ z_3 ≤ 2147483647 := by rw [hz_3]; exact iN_rng _
  rw [xU_comm hdB] at hw
  obtain ⟨va, oa, wa, ya, wk, th, br, re, la, ha, kp, kv, qv, qw, fa, fb, fvv, fw, fo, fy, hR⟩ := hm
  refine x_callV hC hw (lv_size hl) ((c_X5_viewClear l G hR (p0 := z_3) (by omega)).frame hdB.symm) gL_law_X5_viewClear rfl dv_X5_viewClear (xU_l hR.1.1) rfl rfl (Nat.le_of_ble_eq_true rfl) (by rw [hRf]; decide) (by rw [hRl]; decide) (by omega) (by omega) dL_law_1708 (fun r9 M1 H locs hq hw => ?_)
  obtain ⟨Bk_4, ⟨zk_4, hrk_4, hzk_4, hm⟩, hMk_4, hdB9⟩ := hq
  subst hrk_4
  subst hMk_4
  have hdB := hdB9.symm
  rw [xU_comm hdB9] at hw
  show W p l e R s m args below meth c H locs _ _ _ (F0 m 1711 ls [.int (iN (zk_4))])
  refine lv_istore (lv' := [(6, .int (iN (zk_4))), (5, .int (iN (zk_2))), (0, .ref b), (1, .ref h0), (2, .ref a), (3, .ref o), (4, .int (iN (i)))]) hC.1 hC.2.1 dL_law_1711 hl (by decide) rfl (fun ls hl => ?_)
  refine lv_goto (tgt := 2555) hC.1 hC.2.1 dL_law_1713 (by decide) ?_
  refine W.widen (k := cu + 1) (n := su + (6)) (by omega) (by omega) ?_
  exact kk _ _ _ _ rf S hw ⟨_, _, _, _, rfl, hG, hm, hdA, hdB⟩ (lv_sub hl [2, 3, 4, 5, 6] rfl) (Nat.le_refl _)
set_option maxHeartbeats 8000000 in
set_option maxRecDepth 100000 in
theorem k_28 {p : Program} {l : Launch} {e : Env} {R : Room} {s : State} {m : MethodId} {args : Array Value} {below : List Frame} {meth : Method} {c : Code} {Q : State → Prop} {G : xG} {b L : Nat} {xs : Nat → Int32} {nm : String} (hst : l.stackTraces = false) (hRf : R.frames = 2048) {C9 S9 : Nat} (hRc : R.cells = C9) (hRs : R.slots = S9) (hC9 : 600000 ≤ C9) (hS9 : 7060000 ≤ S9) (hRl : R.locals = 84000) (hC : xB p s m args meth c cL_law 7 "RangeledgerLaw" nm wsL_law (some .boolean) G (xA (fun _ => none) s.heap.size)) (hX : va_X b L xs s s.heap) (hbl : b < s.heap.size) (hL : L ≤ 3072) {h0 a o : Nat} {rf : Int32} {S : Nat → Bool} {M : HM} {H : Heap} {locs : List Loc} {ls : Array Slot} {i : Int} {cu su : Nat} (hw : xD G (xA (fun _ => none) s.heap.size) s M H locs) (hS : LwS G M h0 a o rf S) (hl : lv_has ls 7 [(0, .ref b), (1, .ref h0), (2, .ref a), (3, .ref o), (4, .int (iN (i)))]) (hi : 0 ≤ i ∧ i + 6 ≤ L) (hcu : cu + 1000 ≤ C9) (hsu : su + 15590 ≤ S9) (kk : ∀ (M1 : HM) (H1 : Heap) (locs1 : List Loc) (ls1 : Array Slot) (rf1 : Int32) (S1 : Nat → Bool), xD G (xA (fun _ => none) s.heap.size) s M1 H1 locs1 → LwS G M1 h0 a o rf1 S1 → lv_has ls1 7 [(0, .ref b), (1, .ref h0), (2, .ref a), (3, .ref o), (4, .int (iN (i)))] → mC S1 100 ≤ mC S 100 + 0 → W p l e R s m args below meth c H1 locs1 (cu + 4) (su + (23)) Q (F0 m 2555 ls1 [])) : W p l e R s m args below meth c H locs cu su Q (F0 m 1716 ls []) := by
  obtain ⟨A, B, d, sv, hM, hG, hm, hdA, hdB⟩ := hS
  subst hM
  have hbA : ¬ (xA (fun _ => none) s.heap.size) b := fun h9 => h9.elim (fun h8 => h8 rfl) (fun h8 => by omega)
  refine lv_aload_n hC.1 hC.2.1 dL_law_1716 rfl (lv_at hl 1 rfl) ?_
  refine lv_aload_n hC.1 hC.2.1 dL_law_1717 rfl (lv_at hl 0 rfl) ?_
  refine lv_iload hC.1 hC.2.1 dL_law_1718 (lv_at hl 4 rfl) ?_
  refine x_const hC dL_law_1720 ?_
  refine x_iadd hC dL_law_1721 ?_
  refine x_sld hC hw hX hbl hbA (by omega) (by omega) (by omega) dL_law_1722 ?_
  obtain ⟨z_1, hz_1⟩ : ∃ z : Int, z = (xs (i + 1).toNat).toInt := ⟨_, rfl⟩
  rw [← hz_1]
  have hrz_1 : -2147483648 ≤ z_1 ∧ z_1 ≤ 2147483647 := by rw [hz_1]; exact iN_rng _
  refine lv_aload_n hC.1 hC.2.1 dL_law_1723 rfl (lv_at hl 3 rfl) ?_
  refine x_callSW hC hw (lv_size hl) ((c_L_walk l G hst hG hdA (p0 := z_1) (by omega)).frame hdB) gL_law_L_walk rfl dv_L_walk_s rfl (Nat.le_of_ble_eq_true rfl) (by rw [hRf]; decide) (by rw [hRl]; decide) (by omega) (by omega) dL_law_1724 (fun r9 M1 H locs hq hw => ?_)
  obtain ⟨Ck_2, ⟨⟨zk_2, hrk_2⟩, Ak_2, dk_2, svk_2, hG, hCk_2, hdA⟩, hMk_2, hdB⟩ := hq
  subst hrk_2
  subst hCk_2
  subst hMk_2
  show W p l e R s m args below meth c H locs _ _ _ (F0 m 1727 ls [.int (iN (zk_2))])
  refine lv_istore (lv' := [(5, .int (iN (zk_2))), (0, .ref b), (1, .ref h0), (2, .ref a), (3, .ref o), (4, .int (iN (i)))]) hC.1 hC.2.1 dL_law_1727 hl (by decide) rfl (fun ls hl => ?_)
  refine lv_aload_n hC.1 hC.2.1 dL_law_1729 rfl (lv_at hl 3 rfl) ?_
  refine lv_aload_n hC.1 hC.2.1 dL_law_1730 rfl (lv_at hl 1 rfl) ?_
  refine lv_iload hC.1 hC.2.1 dL_law_1731 (lv_at hl 5 rfl) ?_
  refine x_const hC dL_law_1733 ?_
  refine x_iadd hC dL_law_1734 ?_
  refine x_sld hC hw hX hbl hbA (by omega) (by omega) (by omega) dL_law_1735 ?_
  obtain ⟨z_3, hz_3⟩ : ∃ z : Int, z = (xs (i + 1).toNat).toInt := ⟨_, rfl⟩
  rw [← hz_3]
  have hrz_3 : -2147483648 ≤ z_3 ∧ z_3 ≤ 2147483647 := by rw [hz_3]; exact iN_rng _
  rw [xU_comm hdB] at hw
  obtain ⟨va, oa, wa, ya, wk, th, br, re, la, ha, kp, kv, qv, qw, fa, fb, fvv, fw, fo, fy, hR⟩ := hm
  refine x_callV hC hw (lv_size hl) ((c_X5_walk l G hR (p0 := z_3) (by omega)).frame hdB.symm) gL_law_X5_walk rfl dv_X5_walk (xU_l hR.1.1) rfl rfl (Nat.le_of_ble_eq_true rfl) (by rw [hRf]; decide) (by rw [hRl]; decide) (by omega) (by omega) dL_law_1736 (fun r9 M1 H locs hq hw => ?_)
  obtain ⟨Bk_4, ⟨zk_4, hrk_4, hzk_4, hm⟩, hMk_4, hdB9⟩ := hq
  subst hrk_4
  subst hMk_4
  have hdB := hdB9.symm
  rw [xU_comm hdB9] at hw
  show W p l e R s m args below meth c H locs _ _ _ (F0 m 1739 ls [.int (iN (zk_4))])
  refine lv_istore (lv' := [(6, .int (iN (zk_4))), (5, .int (iN (zk_2))), (0, .ref b), (1, .ref h0), (2, .ref a), (3, .ref o), (4, .int (iN (i)))]) hC.1 hC.2.1 dL_law_1739 hl (by decide) rfl (fun ls hl => ?_)
  refine lv_goto (tgt := 2555) hC.1 hC.2.1 dL_law_1741 (by decide) ?_
  refine W.widen (k := cu + 4) (n := su + (23)) (by omega) (by omega) ?_
  exact kk _ _ _ _ rf S hw ⟨_, _, _, _, rfl, hG, hm, hdA, hdB⟩ (lv_sub hl [2, 3, 4, 5, 6] rfl) (Nat.le_refl _)
set_option maxHeartbeats 8000000 in
set_option maxRecDepth 100000 in
theorem k_29 {p : Program} {l : Launch} {e : Env} {R : Room} {s : State} {m : MethodId} {args : Array Value} {below : List Frame} {meth : Method} {c : Code} {Q : State → Prop} {G : xG} {b L : Nat} {xs : Nat → Int32} {nm : String} (hst : l.stackTraces = false) (hRf : R.frames = 2048) {C9 S9 : Nat} (hRc : R.cells = C9) (hRs : R.slots = S9) (hC9 : 600000 ≤ C9) (hS9 : 7060000 ≤ S9) (hRl : R.locals = 84000) (hC : xB p s m args meth c cL_law 7 "RangeledgerLaw" nm wsL_law (some .boolean) G (xA (fun _ => none) s.heap.size)) (hX : va_X b L xs s s.heap) (hbl : b < s.heap.size) (hL : L ≤ 3072) {h0 a o : Nat} {rf : Int32} {S : Nat → Bool} {M : HM} {H : Heap} {locs : List Loc} {ls : Array Slot} {i : Int} {cu su : Nat} (hw : xD G (xA (fun _ => none) s.heap.size) s M H locs) (hS : LwS G M h0 a o rf S) (hl : lv_has ls 7 [(0, .ref b), (1, .ref h0), (2, .ref a), (3, .ref o), (4, .int (iN (i)))]) (hi : 0 ≤ i ∧ i + 6 ≤ L) (hcu : cu + 1000 ≤ C9) (hsu : su + 15590 ≤ S9) (kk : ∀ (M1 : HM) (H1 : Heap) (locs1 : List Loc) (ls1 : Array Slot) (rf1 : Int32) (S1 : Nat → Bool), xD G (xA (fun _ => none) s.heap.size) s M1 H1 locs1 → LwS G M1 h0 a o rf1 S1 → lv_has ls1 7 [(0, .ref b), (1, .ref h0), (2, .ref a), (3, .ref o), (4, .int (iN (i)))] → mC S1 100 ≤ mC S 100 + 0 → W p l e R s m args below meth c H1 locs1 (cu + 3) (su + (16)) Q (F0 m 2555 ls1 [])) : W p l e R s m args below meth c H locs cu su Q (F0 m 1744 ls []) := by
  obtain ⟨A, B, d, sv, hM, hG, hm, hdA, hdB⟩ := hS
  subst hM
  have hbA : ¬ (xA (fun _ => none) s.heap.size) b := fun h9 => h9.elim (fun h8 => h8 rfl) (fun h8 => by omega)
  refine lv_aload_n hC.1 hC.2.1 dL_law_1744 rfl (lv_at hl 1 rfl) ?_
  refine lv_aload_n hC.1 hC.2.1 dL_law_1745 rfl (lv_at hl 0 rfl) ?_
  refine lv_iload hC.1 hC.2.1 dL_law_1746 (lv_at hl 4 rfl) ?_
  refine x_const hC dL_law_1748 ?_
  refine x_iadd hC dL_law_1749 ?_
  refine x_sld hC hw hX hbl hbA (by omega) (by omega) (by omega) dL_law_1750 ?_
  obtain ⟨z_1, hz_1⟩ : ∃ z : Int, z = (xs (i + 1).toNat).toInt := ⟨_, rfl⟩
  rw [← hz_1]
  have hrz_1 : -2147483648 ≤ z_1 ∧ z_1 ≤ 2147483647 := by rw [hz_1]; exact iN_rng _
  refine lv_aload_n hC.1 hC.2.1 dL_law_1751 rfl (lv_at hl 3 rfl) ?_
  refine x_callSW hC hw (lv_size hl) ((c_L_viewWalk l G hst hG hdA (p0 := z_1) (by omega)).frame hdB) gL_law_L_viewWalk rfl dv_L_viewWalk_s rfl (Nat.le_of_ble_eq_true rfl) (by rw [hRf]; decide) (by rw [hRl]; decide) (by omega) (by omega) dL_law_1752 (fun r9 M1 H locs hq hw => ?_)
  obtain ⟨Ck_2, ⟨⟨zk_2, hrk_2⟩, Ak_2, dk_2, svk_2, hG, hCk_2, hdA⟩, hMk_2, hdB⟩ := hq
  subst hrk_2
  subst hCk_2
  subst hMk_2
  show W p l e R s m args below meth c H locs _ _ _ (F0 m 1755 ls [.int (iN (zk_2))])
  refine lv_istore (lv' := [(5, .int (iN (zk_2))), (0, .ref b), (1, .ref h0), (2, .ref a), (3, .ref o), (4, .int (iN (i)))]) hC.1 hC.2.1 dL_law_1755 hl (by decide) rfl (fun ls hl => ?_)
  refine lv_aload_n hC.1 hC.2.1 dL_law_1757 rfl (lv_at hl 3 rfl) ?_
  refine lv_aload_n hC.1 hC.2.1 dL_law_1758 rfl (lv_at hl 1 rfl) ?_
  refine lv_iload hC.1 hC.2.1 dL_law_1759 (lv_at hl 5 rfl) ?_
  refine x_const hC dL_law_1761 ?_
  refine x_iadd hC dL_law_1762 ?_
  refine x_sld hC hw hX hbl hbA (by omega) (by omega) (by omega) dL_law_1763 ?_
  obtain ⟨z_3, hz_3⟩ : ∃ z : Int, z = (xs (i + 1).toNat).toInt := ⟨_, rfl⟩
  rw [← hz_3]
  have hrz_3 : -2147483648 ≤ z_3 ∧ z_3 ≤ 2147483647 := by rw [hz_3]; exact iN_rng _
  rw [xU_comm hdB] at hw
  obtain ⟨va, oa, wa, ya, wk, th, br, re, la, ha, kp, kv, qv, qw, fa, fb, fvv, fw, fo, fy, hR⟩ := hm
  refine x_callV hC hw (lv_size hl) ((c_X5_viewWalk l G hR (p0 := z_3) (by omega)).frame hdB.symm) gL_law_X5_viewWalk rfl dv_X5_viewWalk (xU_l hR.1.1) rfl rfl (Nat.le_of_ble_eq_true rfl) (by rw [hRf]; decide) (by rw [hRl]; decide) (by omega) (by omega) dL_law_1764 (fun r9 M1 H locs hq hw => ?_)
  obtain ⟨Bk_4, ⟨zk_4, hrk_4, hzk_4, hm⟩, hMk_4, hdB9⟩ := hq
  subst hrk_4
  subst hMk_4
  have hdB := hdB9.symm
  rw [xU_comm hdB9] at hw
  show W p l e R s m args below meth c H locs _ _ _ (F0 m 1767 ls [.int (iN (zk_4))])
  refine lv_istore (lv' := [(6, .int (iN (zk_4))), (5, .int (iN (zk_2))), (0, .ref b), (1, .ref h0), (2, .ref a), (3, .ref o), (4, .int (iN (i)))]) hC.1 hC.2.1 dL_law_1767 hl (by decide) rfl (fun ls hl => ?_)
  refine lv_goto (tgt := 2555) hC.1 hC.2.1 dL_law_1769 (by decide) ?_
  refine W.widen (k := cu + 3) (n := su + (16)) (by omega) (by omega) ?_
  exact kk _ _ _ _ rf S hw ⟨_, _, _, _, rfl, hG, hm, hdA, hdB⟩ (lv_sub hl [2, 3, 4, 5, 6] rfl) (Nat.le_refl _)
set_option maxHeartbeats 8000000 in
set_option maxRecDepth 100000 in
theorem k_30 {p : Program} {l : Launch} {e : Env} {R : Room} {s : State} {m : MethodId} {args : Array Value} {below : List Frame} {meth : Method} {c : Code} {Q : State → Prop} {G : xG} {b L : Nat} {xs : Nat → Int32} {nm : String} (hst : l.stackTraces = false) (hRf : R.frames = 2048) {C9 S9 : Nat} (hRc : R.cells = C9) (hRs : R.slots = S9) (hC9 : 600000 ≤ C9) (hS9 : 7060000 ≤ S9) (hRl : R.locals = 84000) (hC : xB p s m args meth c cL_law 7 "RangeledgerLaw" nm wsL_law (some .boolean) G (xA (fun _ => none) s.heap.size)) (hX : va_X b L xs s s.heap) (hbl : b < s.heap.size) (hL : L ≤ 3072) {h0 a o : Nat} {rf : Int32} {S : Nat → Bool} {M : HM} {H : Heap} {locs : List Loc} {ls : Array Slot} {i : Int} {cu su : Nat} (hw : xD G (xA (fun _ => none) s.heap.size) s M H locs) (hS : LwS G M h0 a o rf S) (hl : lv_has ls 7 [(0, .ref b), (1, .ref h0), (2, .ref a), (3, .ref o), (4, .int (iN (i)))]) (hi : 0 ≤ i ∧ i + 6 ≤ L) (hcu : cu + 1000 ≤ C9) (hsu : su + 15590 ≤ S9) (kk : ∀ (M1 : HM) (H1 : Heap) (locs1 : List Loc) (ls1 : Array Slot) (rf1 : Int32) (S1 : Nat → Bool), xD G (xA (fun _ => none) s.heap.size) s M1 H1 locs1 → LwS G M1 h0 a o rf1 S1 → lv_has ls1 7 [(0, .ref b), (1, .ref h0), (2, .ref a), (3, .ref o), (4, .int (iN (i)))] → mC S1 100 ≤ mC S 100 + 0 → W p l e R s m args below meth c H1 locs1 (cu + 1) (su + (6)) Q (F0 m 2555 ls1 [])) : W p l e R s m args below meth c H locs cu su Q (F0 m 1772 ls []) := by
  obtain ⟨A, B, d, sv, hM, hG, hm, hdA, hdB⟩ := hS
  subst hM
  have hbA : ¬ (xA (fun _ => none) s.heap.size) b := fun h9 => h9.elim (fun h8 => h8 rfl) (fun h8 => by omega)
  refine lv_aload_n hC.1 hC.2.1 dL_law_1772 rfl (lv_at hl 1 rfl) ?_
  refine lv_aload_n hC.1 hC.2.1 dL_law_1773 rfl (lv_at hl 3 rfl) ?_
  refine x_callSW hC hw (lv_size hl) ((c_L_step l G hst hG hdA).frame hdB) gL_law_L_step rfl dv_L_step_s rfl (Nat.le_of_ble_eq_true rfl) (by rw [hRf]; decide) (by rw [hRl]; decide) (by omega) (by omega) dL_law_1774 (fun r9 M1 H locs hq hw => ?_)
  obtain ⟨Ck_1, ⟨⟨zk_1, hrk_1⟩, Ak_1, dk_1, svk_1, hG, hCk_1, hdA⟩, hMk_1, hdB⟩ := hq
  subst hrk_1
  subst hCk_1
  subst hMk_1
  show W p l e R s m args below meth c H locs _ _ _ (F0 m 1777 ls [.int (iN (zk_1))])
  refine lv_istore (lv' := [(5, .int (iN (zk_1))), (0, .ref b), (1, .ref h0), (2, .ref a), (3, .ref o), (4, .int (iN (i)))]) hC.1 hC.2.1 dL_law_1777 hl (by decide) rfl (fun ls hl => ?_)
  refine lv_aload_n hC.1 hC.2.1 dL_law_1779 rfl (lv_at hl 3 rfl) ?_
  rw [xU_comm hdB] at hw
  obtain ⟨va, oa, wa, ya, wk, th, br, re, la, ha, kp, kv, qv, qw, fa, fb, fvv, fw, fo, fy, hR⟩ := hm
  refine x_callV hC hw (lv_size hl) ((c_X5_step l G hR).frame hdB.symm) gL_law_X5_step rfl dv_X5_step (xU_l hR.1.1) rfl rfl (Nat.le_of_ble_eq_true rfl) (by rw [hRf]; decide) (by rw [hRl]; decide) (by omega) (by omega) dL_law_1780 (fun r9 M1 H locs hq hw => ?_)
  obtain ⟨Bk_2, ⟨zk_2, hrk_2, hzk_2, hm⟩, hMk_2, hdB9⟩ := hq
  subst hrk_2
  subst hMk_2
  have hdB := hdB9.symm
  rw [xU_comm hdB9] at hw
  show W p l e R s m args below meth c H locs _ _ _ (F0 m 1783 ls [.int (iN (zk_2))])
  refine lv_istore (lv' := [(6, .int (iN (zk_2))), (5, .int (iN (zk_1))), (0, .ref b), (1, .ref h0), (2, .ref a), (3, .ref o), (4, .int (iN (i)))]) hC.1 hC.2.1 dL_law_1783 hl (by decide) rfl (fun ls hl => ?_)
  refine lv_goto (tgt := 2555) hC.1 hC.2.1 dL_law_1785 (by decide) ?_
  refine W.widen (k := cu + 1) (n := su + (6)) (by omega) (by omega) ?_
  exact kk _ _ _ _ rf S hw ⟨_, _, _, _, rfl, hG, hm, hdA, hdB⟩ (lv_sub hl [2, 3, 4, 5, 6] rfl) (Nat.le_refl _)
set_option maxHeartbeats 8000000 in
set_option maxRecDepth 100000 in
theorem k_31 {p : Program} {l : Launch} {e : Env} {R : Room} {s : State} {m : MethodId} {args : Array Value} {below : List Frame} {meth : Method} {c : Code} {Q : State → Prop} {G : xG} {b L : Nat} {xs : Nat → Int32} {nm : String} (hst : l.stackTraces = false) (hRf : R.frames = 2048) {C9 S9 : Nat} (hRc : R.cells = C9) (hRs : R.slots = S9) (hC9 : 600000 ≤ C9) (hS9 : 7060000 ≤ S9) (hRl : R.locals = 84000) (hC : xB p s m args meth c cL_law 7 "RangeledgerLaw" nm wsL_law (some .boolean) G (xA (fun _ => none) s.heap.size)) (hX : va_X b L xs s s.heap) (hbl : b < s.heap.size) (hL : L ≤ 3072) {h0 a o : Nat} {rf : Int32} {S : Nat → Bool} {M : HM} {H : Heap} {locs : List Loc} {ls : Array Slot} {i : Int} {cu su : Nat} (hw : xD G (xA (fun _ => none) s.heap.size) s M H locs) (hS : LwS G M h0 a o rf S) (hl : lv_has ls 7 [(0, .ref b), (1, .ref h0), (2, .ref a), (3, .ref o), (4, .int (iN (i)))]) (hi : 0 ≤ i ∧ i + 6 ≤ L) (hcu : cu + 1000 ≤ C9) (hsu : su + 15590 ≤ S9) (kk : ∀ (M1 : HM) (H1 : Heap) (locs1 : List Loc) (ls1 : Array Slot) (rf1 : Int32) (S1 : Nat → Bool), xD G (xA (fun _ => none) s.heap.size) s M1 H1 locs1 → LwS G M1 h0 a o rf1 S1 → lv_has ls1 7 [(0, .ref b), (1, .ref h0), (2, .ref a), (3, .ref o), (4, .int (iN (i)))] → mC S1 100 ≤ mC S 100 + 1 → W p l e R s m args below meth c H1 locs1 (cu + 3) (su + (18)) Q (F0 m 2555 ls1 [])) : W p l e R s m args below meth c H locs cu su Q (F0 m 1788 ls []) := by
  obtain ⟨A, B, d, sv, hM, hG, hm, hdA, hdB⟩ := hS
  subst hM
  have hbA : ¬ (xA (fun _ => none) s.heap.size) b := fun h9 => h9.elim (fun h8 => h8 rfl) (fun h8 => by omega)
  refine lv_aload_n hC.1 hC.2.1 dL_law_1788 rfl (lv_at hl 1 rfl) ?_
  refine lv_aload_n hC.1 hC.2.1 dL_law_1789 rfl (lv_at hl 0 rfl) ?_
  refine lv_iload hC.1 hC.2.1 dL_law_1790 (lv_at hl 4 rfl) ?_
  refine x_const hC dL_law_1792 ?_
  refine x_iadd hC dL_law_1793 ?_
  refine x_sld hC hw hX hbl hbA (by omega) (by omega) (by omega) dL_law_1794 ?_
  obtain ⟨z_1, hz_1⟩ : ∃ z : Int, z = (xs (i + 1).toNat).toInt := ⟨_, rfl⟩
  rw [← hz_1]
  have hrz_1 : -2147483648 ≤ z_1 ∧ z_1 ≤ 2147483647 := by rw [hz_1]; exact iN_rng _
  refine lv_aload_n hC.1 hC.2.1 dL_law_1795 rfl (lv_at hl 3 rfl) ?_
  refine x_callSW hC hw (lv_size hl) ((c_L_write l G hst hG hdA (p0 := z_1) (by omega)).frame hdB) gL_law_L_write rfl dv_L_write_s rfl (Nat.le_of_ble_eq_true rfl) (by rw [hRf]; decide) (by rw [hRl]; decide) (by omega) (by omega) dL_law_1796 (fun r9 M1 H locs hq hw => ?_)
  obtain ⟨Ck_2, ⟨⟨zk_2, hrk_2⟩, Ak_2, dk_2, svk_2, hG, hCk_2, hdA⟩, hMk_2, hdB⟩ := hq
  subst hrk_2
  subst hCk_2
  subst hMk_2
  show W p l e R s m args below meth c H locs _ _ _ (F0 m 1799 ls [.int (iN (zk_2))])
  refine lv_istore (lv' := [(5, .int (iN (zk_2))), (0, .ref b), (1, .ref h0), (2, .ref a), (3, .ref o), (4, .int (iN (i)))]) hC.1 hC.2.1 dL_law_1799 hl (by decide) rfl (fun ls hl => ?_)
  refine lv_aload_n hC.1 hC.2.1 dL_law_1801 rfl (lv_at hl 3 rfl) ?_
  refine lv_aload_n hC.1 hC.2.1 dL_law_1802 rfl (lv_at hl 1 rfl) ?_
  refine lv_iload hC.1 hC.2.1 dL_law_1803 (lv_at hl 5 rfl) ?_
  refine x_const hC dL_law_1805 ?_
  refine x_iadd hC dL_law_1806 ?_
  refine x_sld hC hw hX hbl hbA (by omega) (by omega) (by omega) dL_law_1807 ?_
  obtain ⟨z_3, hz_3⟩ : ∃ z : Int, z = (xs (i + 1).toNat).toInt := ⟨_, rfl⟩
  rw [← hz_3]
  have hrz_3 : -2147483648 ≤ z_3 ∧ z_3 ≤ 2147483647 := by rw [hz_3]; exact iN_rng _
  rw [xU_comm hdB] at hw
  obtain ⟨va, oa, wa, ya, wk, th, br, re, la, ha, kp, kv, qv, qw, fa, fb, fvv, fw, fo, fy, hR⟩ := hm
  have hR := hR.more (S2 := sAdd S ha.toInt.toNat) (fun k hk => by simp [sAdd, hk])
  refine x_callV hC hw (lv_size hl) ((c_X5_write l G hR (p0 := z_3) (by omega) (fun _ => by simp [sAdd])).frame hdB.symm) gL_law_X5_write rfl dv_X5_write (xU_l hR.1.1) rfl rfl (Nat.le_of_ble_eq_true rfl) (by rw [hRf]; decide) (by rw [hRl]; decide) (by omega) (by omega) dL_law_1808 (fun r9 M1 H locs hq hw => ?_)
  obtain ⟨Bk_4, ⟨zk_4, hrk_4, hzk_4, hm⟩, hMk_4, hdB9⟩ := hq
  subst hrk_4
  subst hMk_4
  have hdB := hdB9.symm
  rw [xU_comm hdB9] at hw
  show W p l e R s m args below meth c H locs _ _ _ (F0 m 1811 ls [.int (iN (zk_4))])
  refine lv_istore (lv' := [(6, .int (iN (zk_4))), (5, .int (iN (zk_2))), (0, .ref b), (1, .ref h0), (2, .ref a), (3, .ref o), (4, .int (iN (i)))]) hC.1 hC.2.1 dL_law_1811 hl (by decide) rfl (fun ls hl => ?_)
  refine lv_goto (tgt := 2555) hC.1 hC.2.1 dL_law_1813 (by decide) ?_
  refine W.widen (k := cu + 3) (n := su + (18)) (by omega) (by omega) ?_
  exact kk _ _ _ _ rf (sAdd S ha.toInt.toNat) hw ⟨_, _, _, _, rfl, hG, hm, hdA, hdB⟩ (lv_sub hl [2, 3, 4, 5, 6] rfl) (mC_add1 _ _)
set_option maxHeartbeats 8000000 in
set_option maxRecDepth 100000 in
theorem k_32 {p : Program} {l : Launch} {e : Env} {R : Room} {s : State} {m : MethodId} {args : Array Value} {below : List Frame} {meth : Method} {c : Code} {Q : State → Prop} {G : xG} {b L : Nat} {xs : Nat → Int32} {nm : String} (hst : l.stackTraces = false) (hRf : R.frames = 2048) {C9 S9 : Nat} (hRc : R.cells = C9) (hRs : R.slots = S9) (hC9 : 600000 ≤ C9) (hS9 : 7060000 ≤ S9) (hRl : R.locals = 84000) (hC : xB p s m args meth c cL_law 7 "RangeledgerLaw" nm wsL_law (some .boolean) G (xA (fun _ => none) s.heap.size)) (hX : va_X b L xs s s.heap) (hbl : b < s.heap.size) (hL : L ≤ 3072) {h0 a o : Nat} {rf : Int32} {S : Nat → Bool} {M : HM} {H : Heap} {locs : List Loc} {ls : Array Slot} {i : Int} {cu su : Nat} (hw : xD G (xA (fun _ => none) s.heap.size) s M H locs) (hS : LwS G M h0 a o rf S) (hl : lv_has ls 7 [(0, .ref b), (1, .ref h0), (2, .ref a), (3, .ref o), (4, .int (iN (i)))]) (hi : 0 ≤ i ∧ i + 6 ≤ L) (hcu : cu + 1000 ≤ C9) (hsu : su + 15590 ≤ S9) (kk : ∀ (M1 : HM) (H1 : Heap) (locs1 : List Loc) (ls1 : Array Slot) (rf1 : Int32) (S1 : Nat → Bool), xD G (xA (fun _ => none) s.heap.size) s M1 H1 locs1 → LwS G M1 h0 a o rf1 S1 → lv_has ls1 7 [(0, .ref b), (1, .ref h0), (2, .ref a), (3, .ref o), (4, .int (iN (i)))] → mC S1 100 ≤ mC S 100 + 0 → W p l e R s m args below meth c H1 locs1 (cu + 3) (su + (17)) Q (F0 m 2555 ls1 [])) : W p l e R s m args below meth c H locs cu su Q (F0 m 1816 ls []) := by
  obtain ⟨A, B, d, sv, hM, hG, hm, hdA, hdB⟩ := hS
  subst hM
  have hbA : ¬ (xA (fun _ => none) s.heap.size) b := fun h9 => h9.elim (fun h8 => h8 rfl) (fun h8 => by omega)
  refine lv_aload_n hC.1 hC.2.1 dL_law_1816 rfl (lv_at hl 1 rfl) ?_
  refine lv_aload_n hC.1 hC.2.1 dL_law_1817 rfl (lv_at hl 3 rfl) ?_
  refine x_callSW hC hw (lv_size hl) ((c_L_drop l G hst hG hdA).frame hdB) gL_law_L_drop rfl dv_L_drop_s rfl (Nat.le_of_ble_eq_true rfl) (by rw [hRf]; decide) (by rw [hRl]; decide) (by omega) (by omega) dL_law_1818 (fun r9 M1 H locs hq hw => ?_)
  obtain ⟨Ck_1, ⟨⟨zk_1, hrk_1⟩, Ak_1, dk_1, svk_1, hG, hCk_1, hdA⟩, hMk_1, hdB⟩ := hq
  subst hrk_1
  subst hCk_1
  subst hMk_1
  show W p l e R s m args below meth c H locs _ _ _ (F0 m 1821 ls [.int (iN (zk_1))])
  refine lv_istore (lv' := [(5, .int (iN (zk_1))), (0, .ref b), (1, .ref h0), (2, .ref a), (3, .ref o), (4, .int (iN (i)))]) hC.1 hC.2.1 dL_law_1821 hl (by decide) rfl (fun ls hl => ?_)
  refine lv_aload_n hC.1 hC.2.1 dL_law_1823 rfl (lv_at hl 3 rfl) ?_
  rw [xU_comm hdB] at hw
  obtain ⟨va, oa, wa, ya, wk, th, br, re, la, ha, kp, kv, qv, qw, fa, fb, fvv, fw, fo, fy, hR⟩ := hm
  refine x_callV hC hw (lv_size hl) ((c_X5_drop l G hR).frame hdB.symm) gL_law_X5_drop rfl dv_X5_drop (xU_l hR.1.1) rfl rfl (Nat.le_of_ble_eq_true rfl) (by rw [hRf]; decide) (by rw [hRl]; decide) (by omega) (by omega) dL_law_1824 (fun r9 M1 H locs hq hw => ?_)
  obtain ⟨Bk_2, ⟨zk_2, hrk_2, hzk_2, hm⟩, hMk_2, hdB9⟩ := hq
  subst hrk_2
  subst hMk_2
  have hdB := hdB9.symm
  rw [xU_comm hdB9] at hw
  show W p l e R s m args below meth c H locs _ _ _ (F0 m 1827 ls [.int (iN (zk_2))])
  refine lv_istore (lv' := [(6, .int (iN (zk_2))), (5, .int (iN (zk_1))), (0, .ref b), (1, .ref h0), (2, .ref a), (3, .ref o), (4, .int (iN (i)))]) hC.1 hC.2.1 dL_law_1827 hl (by decide) rfl (fun ls hl => ?_)
  refine lv_goto (tgt := 2555) hC.1 hC.2.1 dL_law_1829 (by decide) ?_
  refine W.widen (k := cu + 3) (n := su + (17)) (by omega) (by omega) ?_
  exact kk _ _ _ _ rf S hw ⟨_, _, _, _, rfl, hG, hm, hdA, hdB⟩ (lv_sub hl [2, 3, 4, 5, 6] rfl) (Nat.le_refl _)
set_option maxHeartbeats 8000000 in
set_option maxRecDepth 100000 in
theorem k_33 {p : Program} {l : Launch} {e : Env} {R : Room} {s : State} {m : MethodId} {args : Array Value} {below : List Frame} {meth : Method} {c : Code} {Q : State → Prop} {G : xG} {b L : Nat} {xs : Nat → Int32} {nm : String} (hst : l.stackTraces = false) (hRf : R.frames = 2048) {C9 S9 : Nat} (hRc : R.cells = C9) (hRs : R.slots = S9) (hC9 : 600000 ≤ C9) (hS9 : 7060000 ≤ S9) (hRl : R.locals = 84000) (hC : xB p s m args meth c cL_law 7 "RangeledgerLaw" nm wsL_law (some .boolean) G (xA (fun _ => none) s.heap.size)) (hX : va_X b L xs s s.heap) (hbl : b < s.heap.size) (hL : L ≤ 3072) {h0 a o : Nat} {rf : Int32} {S : Nat → Bool} {M : HM} {H : Heap} {locs : List Loc} {ls : Array Slot} {i : Int} {cu su : Nat} (hw : xD G (xA (fun _ => none) s.heap.size) s M H locs) (hS : LwS G M h0 a o rf S) (hl : lv_has ls 7 [(0, .ref b), (1, .ref h0), (2, .ref a), (3, .ref o), (4, .int (iN (i)))]) (hi : 0 ≤ i ∧ i + 6 ≤ L) (hcu : cu + 1000 ≤ C9) (hsu : su + 15590 ≤ S9) (kk : ∀ (M1 : HM) (H1 : Heap) (locs1 : List Loc) (ls1 : Array Slot) (rf1 : Int32) (S1 : Nat → Bool), xD G (xA (fun _ => none) s.heap.size) s M1 H1 locs1 → LwS G M1 h0 a o rf1 S1 → lv_has ls1 7 [(0, .ref b), (1, .ref h0), (2, .ref a), (3, .ref o), (4, .int (iN (i)))] → mC S1 100 ≤ mC S 100 + 0 → W p l e R s m args below meth c H1 locs1 (cu + 2) (su + (11)) Q (F0 m 2555 ls1 [])) : W p l e R s m args below meth c H locs cu su Q (F0 m 1832 ls []) := by
  obtain ⟨A, B, d, sv, hM, hG, hm, hdA, hdB⟩ := hS
  subst hM
  have hbA : ¬ (xA (fun _ => none) s.heap.size) b := fun h9 => h9.elim (fun h8 => h8 rfl) (fun h8 => by omega)
  refine lv_aload_n hC.1 hC.2.1 dL_law_1832 rfl (lv_at hl 1 rfl) ?_
  refine lv_aload_n hC.1 hC.2.1 dL_law_1833 rfl (lv_at hl 0 rfl) ?_
  refine lv_iload hC.1 hC.2.1 dL_law_1834 (lv_at hl 4 rfl) ?_
  refine x_const hC dL_law_1836 ?_
  refine x_iadd hC dL_law_1837 ?_
  refine x_sld hC hw hX hbl hbA (by omega) (by omega) (by omega) dL_law_1838 ?_
  obtain ⟨z_1, hz_1⟩ : ∃ z : Int, z = (xs (i + 1).toNat).toInt := ⟨_, rfl⟩
  rw [← hz_1]
  have hrz_1 : -2147483648 ≤ z_1 ∧ z_1 ≤ 2147483647 := by rw [hz_1]; exact iN_rng _
  refine lv_aload_n hC.1 hC.2.1 dL_law_1839 rfl (lv_at hl 0 rfl) ?_
  refine lv_iload hC.1 hC.2.1 dL_law_1840 (lv_at hl 4 rfl) ?_
  refine x_const hC dL_law_1842 ?_
  refine x_iadd hC dL_law_1843 ?_
  refine x_sld hC hw hX hbl hbA (by omega) (by omega) (by omega) dL_law_1844 ?_
  obtain ⟨z_2, hz_2⟩ : ∃ z : Int, z = (xs (i + 2).toNat).toInt := ⟨_, rfl⟩
  rw [← hz_2]
  have hrz_2 : -2147483648 ≤ z_2 ∧ z_2 ≤ 2147483647 := by rw [hz_2]; exact iN_rng _
  refine x_if_eq (tgt := 1852) hC ⟨by omega, by omega⟩ dL_law_1845 (by decide) (fun c_3 => ?_) (fun c_3 => ?_)
  · refine x_const hC dL_law_1852 ?_
    refine lv_aload_n hC.1 hC.2.1 dL_law_1853 rfl (lv_at hl 3 rfl) ?_
    refine x_callSW hC hw (lv_size hl) ((c_L_keep l G hst hG hdA (p0 := z_1) (by omega) (p1 := 0) (by omega) (by omega)).frame hdB) gL_law_L_keep rfl dv_L_keep_s rfl (Nat.le_of_ble_eq_true rfl) (by rw [hRf]; decide) (by rw [hRl]; decide) (by omega) (by omega) dL_law_1854 (fun r9 M1 H locs hq hw => ?_)
    obtain ⟨Ck_4, ⟨⟨zk_4, hrk_4⟩, Ak_4, dk_4, svk_4, hG, hCk_4, hdA⟩, hMk_4, hdB⟩ := hq
    subst hrk_4
    subst hCk_4
    subst hMk_4
    show W p l e R s m args below meth c H locs _ _ _ (F0 m 1857 ls [.int (iN (zk_4))])
    refine lv_istore (lv' := [(5, .int (iN (zk_4))), (0, .ref b), (1, .ref h0), (2, .ref a), (3, .ref o), (4, .int (iN (i)))]) hC.1 hC.2.1 dL_law_1857 hl (by decide) rfl (fun ls hl => ?_)
    refine lv_aload_n hC.1 hC.2.1 dL_law_1859 rfl (lv_at hl 3 rfl) ?_
    refine lv_aload_n hC.1 hC.2.1 dL_law_1860 rfl (lv_at hl 1 rfl) ?_
    refine lv_iload hC.1 hC.2.1 dL_law_1861 (lv_at hl 5 rfl) ?_
    refine x_const hC dL_law_1863 ?_
    refine x_iadd hC dL_law_1864 ?_
    refine x_sld hC hw hX hbl hbA (by omega) (by omega) (by omega) dL_law_1865 ?_
    obtain ⟨z_5, hz_5⟩ : ∃ z : Int, z = (xs (i + 1).toNat).toInt := ⟨_, rfl⟩
    rw [← hz_5]
    have hrz_5 : -2147483648 ≤ z_5 ∧ z_5 ≤ 2147483647 := by rw [hz_5]; exact iN_rng _
    refine lv_aload_n hC.1 hC.2.1 dL_law_1866 rfl (lv_at hl 1 rfl) ?_
    refine lv_iload hC.1 hC.2.1 dL_law_1867 (lv_at hl 5 rfl) ?_
    refine x_const hC dL_law_1869 ?_
    refine x_iadd hC dL_law_1870 ?_
    refine x_sld hC hw hX hbl hbA (by omega) (by omega) (by omega) dL_law_1871 ?_
    obtain ⟨z_6, hz_6⟩ : ∃ z : Int, z = (xs (i + 2).toNat).toInt := ⟨_, rfl⟩
    rw [← hz_6]
    have hrz_6 : -2147483648 ≤ z_6 ∧ z_6 ≤ 2147483647 := by rw [hz_6]; exact iN_rng _
    refine x_if_eq (tgt := 1879) hC ⟨by omega, by omega⟩ dL_law_1872 (by decide) (fun c_7 => ?_) (fun c_7 => ?_)
    · refine x_const hC dL_law_1879 ?_
      rw [xU_comm hdB] at hw
      obtain ⟨va, oa, wa, ya, wk, th, br, re, la, ha, kp, kv, qv, qw, fa, fb, fvv, fw, fo, fy, hR⟩ := hm
      refine x_callV hC hw (lv_size hl) ((c_X5_keep l G hR (p0 := z_5) (by omega) (p1 := 0) (by omega)).frame hdB.symm) gL_law_X5_keep rfl dv_X5_keep (xU_l hR.1.1) rfl rfl (Nat.le_of_ble_eq_true rfl) (by rw [hRf]; decide) (by rw [hRl]; decide) (by omega) (by omega) dL_law_1880 (fun r9 M1 H locs hq hw => ?_)
      obtain ⟨Bk_8, ⟨zk_8, hrk_8, hzk_8, hm⟩, hMk_8, hdB9⟩ := hq
      subst hrk_8
      subst hMk_8
      have hdB := hdB9.symm
      rw [xU_comm hdB9] at hw
      show W p l e R s m args below meth c H locs _ _ _ (F0 m 1883 ls [.int (iN (zk_8))])
      refine lv_istore (lv' := [(6, .int (iN (zk_8))), (5, .int (iN (zk_4))), (0, .ref b), (1, .ref h0), (2, .ref a), (3, .ref o), (4, .int (iN (i)))]) hC.1 hC.2.1 dL_law_1883 hl (by decide) rfl (fun ls hl => ?_)
      refine lv_goto (tgt := 2555) hC.1 hC.2.1 dL_law_1885 (by decide) ?_
      refine W.widen (k := cu + 2) (n := su + (11)) (by omega) (by omega) ?_
      exact kk _ _ _ _ rf S hw ⟨_, _, _, _, rfl, hG, hm, hdA, hdB⟩ (lv_sub hl [2, 3, 4, 5, 6] rfl) (Nat.le_refl _)
    · refine x_const hC dL_law_1875 ?_
      refine lv_goto (tgt := 1880) hC.1 hC.2.1 dL_law_1876 (by decide) ?_
      rw [xU_comm hdB] at hw
      obtain ⟨va, oa, wa, ya, wk, th, br, re, la, ha, kp, kv, qv, qw, fa, fb, fvv, fw, fo, fy, hR⟩ := hm
      refine x_callV hC hw (lv_size hl) ((c_X5_keep l G hR (p0 := z_5) (by omega) (p1 := 1) (by omega)).frame hdB.symm) gL_law_X5_keep rfl dv_X5_keep (xU_l hR.1.1) rfl rfl (Nat.le_of_ble_eq_true rfl) (by rw [hRf]; decide) (by rw [hRl]; decide) (by omega) (by omega) dL_law_1880 (fun r9 M1 H locs hq hw => ?_)
      obtain ⟨Bk_9, ⟨zk_9, hrk_9, hzk_9, hm⟩, hMk_9, hdB9⟩ := hq
      subst hrk_9
      subst hMk_9
      have hdB := hdB9.symm
      rw [xU_comm hdB9] at hw
      show W p l e R s m args below meth c H locs _ _ _ (F0 m 1883 ls [.int (iN (zk_9))])
      refine lv_istore (lv' := [(6, .int (iN (zk_9))), (5, .int (iN (zk_4))), (0, .ref b), (1, .ref h0), (2, .ref a), (3, .ref o), (4, .int (iN (i)))]) hC.1 hC.2.1 dL_law_1883 hl (by decide) rfl (fun ls hl => ?_)
      refine lv_goto (tgt := 2555) hC.1 hC.2.1 dL_law_1885 (by decide) ?_
      refine W.widen (k := cu + 2) (n := su + (11)) (by omega) (by omega) ?_
      exact kk _ _ _ _ rf S hw ⟨_, _, _, _, rfl, hG, hm, hdA, hdB⟩ (lv_sub hl [2, 3, 4, 5, 6] rfl) (Nat.le_refl _)
  · refine x_const hC dL_law_1848 ?_
    refine lv_goto (tgt := 1853) hC.1 hC.2.1 dL_law_1849 (by decide) ?_
    refine lv_aload_n hC.1 hC.2.1 dL_law_1853 rfl (lv_at hl 3 rfl) ?_
    refine x_callSW hC hw (lv_size hl) ((c_L_keep l G hst hG hdA (p0 := z_1) (by omega) (p1 := 1) (by omega) (by omega)).frame hdB) gL_law_L_keep rfl dv_L_keep_s rfl (Nat.le_of_ble_eq_true rfl) (by rw [hRf]; decide) (by rw [hRl]; decide) (by omega) (by omega) dL_law_1854 (fun r9 M1 H locs hq hw => ?_)
    obtain ⟨Ck_10, ⟨⟨zk_10, hrk_10⟩, Ak_10, dk_10, svk_10, hG, hCk_10, hdA⟩, hMk_10, hdB⟩ := hq
    subst hrk_10
    subst hCk_10
    subst hMk_10
    show W p l e R s m args below meth c H locs _ _ _ (F0 m 1857 ls [.int (iN (zk_10))])
    refine lv_istore (lv' := [(5, .int (iN (zk_10))), (0, .ref b), (1, .ref h0), (2, .ref a), (3, .ref o), (4, .int (iN (i)))]) hC.1 hC.2.1 dL_law_1857 hl (by decide) rfl (fun ls hl => ?_)
    refine lv_aload_n hC.1 hC.2.1 dL_law_1859 rfl (lv_at hl 3 rfl) ?_
    refine lv_aload_n hC.1 hC.2.1 dL_law_1860 rfl (lv_at hl 1 rfl) ?_
    refine lv_iload hC.1 hC.2.1 dL_law_1861 (lv_at hl 5 rfl) ?_
    refine x_const hC dL_law_1863 ?_
    refine x_iadd hC dL_law_1864 ?_
    refine x_sld hC hw hX hbl hbA (by omega) (by omega) (by omega) dL_law_1865 ?_
    obtain ⟨z_11, hz_11⟩ : ∃ z : Int, z = (xs (i + 1).toNat).toInt := ⟨_, rfl⟩
    rw [← hz_11]
    have hrz_11 : -2147483648 ≤ z_11 ∧ z_11 ≤ 2147483647 := by rw [hz_11]; exact iN_rng _
    refine lv_aload_n hC.1 hC.2.1 dL_law_1866 rfl (lv_at hl 1 rfl) ?_
    refine lv_iload hC.1 hC.2.1 dL_law_1867 (lv_at hl 5 rfl) ?_
    refine x_const hC dL_law_1869 ?_
    refine x_iadd hC dL_law_1870 ?_
    refine x_sld hC hw hX hbl hbA (by omega) (by omega) (by omega) dL_law_1871 ?_
    obtain ⟨z_12, hz_12⟩ : ∃ z : Int, z = (xs (i + 2).toNat).toInt := ⟨_, rfl⟩
    rw [← hz_12]
    have hrz_12 : -2147483648 ≤ z_12 ∧ z_12 ≤ 2147483647 := by rw [hz_12]; exact iN_rng _
    refine x_if_eq (tgt := 1879) hC ⟨by omega, by omega⟩ dL_law_1872 (by decide) (fun c_13 => ?_) (fun c_13 => ?_)
    · refine x_const hC dL_law_1879 ?_
      rw [xU_comm hdB] at hw
      obtain ⟨va, oa, wa, ya, wk, th, br, re, la, ha, kp, kv, qv, qw, fa, fb, fvv, fw, fo, fy, hR⟩ := hm
      refine x_callV hC hw (lv_size hl) ((c_X5_keep l G hR (p0 := z_11) (by omega) (p1 := 0) (by omega)).frame hdB.symm) gL_law_X5_keep rfl dv_X5_keep (xU_l hR.1.1) rfl rfl (Nat.le_of_ble_eq_true rfl) (by rw [hRf]; decide) (by rw [hRl]; decide) (by omega) (by omega) dL_law_1880 (fun r9 M1 H locs hq hw => ?_)
      obtain ⟨Bk_14, ⟨zk_14, hrk_14, hzk_14, hm⟩, hMk_14, hdB9⟩ := hq
      subst hrk_14
      subst hMk_14
      have hdB := hdB9.symm
      rw [xU_comm hdB9] at hw
      show W p l e R s m args below meth c H locs _ _ _ (F0 m 1883 ls [.int (iN (zk_14))])
      refine lv_istore (lv' := [(6, .int (iN (zk_14))), (5, .int (iN (zk_10))), (0, .ref b), (1, .ref h0), (2, .ref a), (3, .ref o), (4, .int (iN (i)))]) hC.1 hC.2.1 dL_law_1883 hl (by decide) rfl (fun ls hl => ?_)
      refine lv_goto (tgt := 2555) hC.1 hC.2.1 dL_law_1885 (by decide) ?_
      refine W.widen (k := cu + 2) (n := su + (11)) (by omega) (by omega) ?_
      exact kk _ _ _ _ rf S hw ⟨_, _, _, _, rfl, hG, hm, hdA, hdB⟩ (lv_sub hl [2, 3, 4, 5, 6] rfl) (Nat.le_refl _)
    · refine x_const hC dL_law_1875 ?_
      refine lv_goto (tgt := 1880) hC.1 hC.2.1 dL_law_1876 (by decide) ?_
      rw [xU_comm hdB] at hw
      obtain ⟨va, oa, wa, ya, wk, th, br, re, la, ha, kp, kv, qv, qw, fa, fb, fvv, fw, fo, fy, hR⟩ := hm
      refine x_callV hC hw (lv_size hl) ((c_X5_keep l G hR (p0 := z_11) (by omega) (p1 := 1) (by omega)).frame hdB.symm) gL_law_X5_keep rfl dv_X5_keep (xU_l hR.1.1) rfl rfl (Nat.le_of_ble_eq_true rfl) (by rw [hRf]; decide) (by rw [hRl]; decide) (by omega) (by omega) dL_law_1880 (fun r9 M1 H locs hq hw => ?_)
      obtain ⟨Bk_15, ⟨zk_15, hrk_15, hzk_15, hm⟩, hMk_15, hdB9⟩ := hq
      subst hrk_15
      subst hMk_15
      have hdB := hdB9.symm
      rw [xU_comm hdB9] at hw
      show W p l e R s m args below meth c H locs _ _ _ (F0 m 1883 ls [.int (iN (zk_15))])
      refine lv_istore (lv' := [(6, .int (iN (zk_15))), (5, .int (iN (zk_10))), (0, .ref b), (1, .ref h0), (2, .ref a), (3, .ref o), (4, .int (iN (i)))]) hC.1 hC.2.1 dL_law_1883 hl (by decide) rfl (fun ls hl => ?_)
      refine lv_goto (tgt := 2555) hC.1 hC.2.1 dL_law_1885 (by decide) ?_
      refine W.widen (k := cu + 2) (n := su + (11)) (by omega) (by omega) ?_
      exact kk _ _ _ _ rf S hw ⟨_, _, _, _, rfl, hG, hm, hdA, hdB⟩ (lv_sub hl [2, 3, 4, 5, 6] rfl) (Nat.le_refl _)
set_option maxHeartbeats 8000000 in
set_option maxRecDepth 100000 in
theorem k_34 {p : Program} {l : Launch} {e : Env} {R : Room} {s : State} {m : MethodId} {args : Array Value} {below : List Frame} {meth : Method} {c : Code} {Q : State → Prop} {G : xG} {b L : Nat} {xs : Nat → Int32} {nm : String} (hst : l.stackTraces = false) (hRf : R.frames = 2048) {C9 S9 : Nat} (hRc : R.cells = C9) (hRs : R.slots = S9) (hC9 : 600000 ≤ C9) (hS9 : 7060000 ≤ S9) (hRl : R.locals = 84000) (hC : xB p s m args meth c cL_law 7 "RangeledgerLaw" nm wsL_law (some .boolean) G (xA (fun _ => none) s.heap.size)) (hX : va_X b L xs s s.heap) (hbl : b < s.heap.size) (hL : L ≤ 3072) {h0 a o : Nat} {rf : Int32} {S : Nat → Bool} {M : HM} {H : Heap} {locs : List Loc} {ls : Array Slot} {i : Int} {cu su : Nat} (hw : xD G (xA (fun _ => none) s.heap.size) s M H locs) (hS : LwS G M h0 a o rf S) (hl : lv_has ls 7 [(0, .ref b), (1, .ref h0), (2, .ref a), (3, .ref o), (4, .int (iN (i)))]) (hi : 0 ≤ i ∧ i + 6 ≤ L) (hcu : cu + 1000 ≤ C9) (hsu : su + 15590 ≤ S9) (kk : ∀ (M1 : HM) (H1 : Heap) (locs1 : List Loc) (ls1 : Array Slot) (rf1 : Int32) (S1 : Nat → Bool), xD G (xA (fun _ => none) s.heap.size) s M1 H1 locs1 → LwS G M1 h0 a o rf1 S1 → lv_has ls1 7 [(0, .ref b), (1, .ref h0), (2, .ref a), (3, .ref o), (4, .int (iN (i)))] → mC S1 100 ≤ mC S 100 + 0 → W p l e R s m args below meth c H1 locs1 (cu + 1) (su + (6)) Q (F0 m 2555 ls1 [])) : W p l e R s m args below meth c H locs cu su Q (F0 m 1888 ls []) := by
  obtain ⟨A, B, d, sv, hM, hG, hm, hdA, hdB⟩ := hS
  subst hM
  have hbA : ¬ (xA (fun _ => none) s.heap.size) b := fun h9 => h9.elim (fun h8 => h8 rfl) (fun h8 => by omega)
  refine lv_aload_n hC.1 hC.2.1 dL_law_1888 rfl (lv_at hl 1 rfl) ?_
  refine lv_aload_n hC.1 hC.2.1 dL_law_1889 rfl (lv_at hl 0 rfl) ?_
  refine lv_iload hC.1 hC.2.1 dL_law_1890 (lv_at hl 4 rfl) ?_
  refine x_const hC dL_law_1892 ?_
  refine x_iadd hC dL_law_1893 ?_
  refine x_sld hC hw hX hbl hbA (by omega) (by omega) (by omega) dL_law_1894 ?_
  obtain ⟨z_1, hz_1⟩ : ∃ z : Int, z = (xs (i + 1).toNat).toInt := ⟨_, rfl⟩
  rw [← hz_1]
  have hrz_1 : -2147483648 ≤ z_1 ∧ z_1 ≤ 2147483647 := by rw [hz_1]; exact iN_rng _
  refine lv_aload_n hC.1 hC.2.1 dL_law_1895 rfl (lv_at hl 3 rfl) ?_
  refine x_callSW hC hw (lv_size hl) ((c_L_brand l G hst hG hdA (p0 := z_1) (by omega)).frame hdB) gL_law_L_brand rfl dv_L_brand_s rfl (Nat.le_of_ble_eq_true rfl) (by rw [hRf]; decide) (by rw [hRl]; decide) (by omega) (by omega) dL_law_1896 (fun r9 M1 H locs hq hw => ?_)
  obtain ⟨Ck_2, ⟨⟨zk_2, hrk_2⟩, Ak_2, dk_2, svk_2, hG, hCk_2, hdA⟩, hMk_2, hdB⟩ := hq
  subst hrk_2
  subst hCk_2
  subst hMk_2
  show W p l e R s m args below meth c H locs _ _ _ (F0 m 1899 ls [.int (iN (zk_2))])
  refine lv_istore (lv' := [(5, .int (iN (zk_2))), (0, .ref b), (1, .ref h0), (2, .ref a), (3, .ref o), (4, .int (iN (i)))]) hC.1 hC.2.1 dL_law_1899 hl (by decide) rfl (fun ls hl => ?_)
  refine lv_aload_n hC.1 hC.2.1 dL_law_1901 rfl (lv_at hl 3 rfl) ?_
  refine lv_aload_n hC.1 hC.2.1 dL_law_1902 rfl (lv_at hl 1 rfl) ?_
  refine lv_iload hC.1 hC.2.1 dL_law_1903 (lv_at hl 5 rfl) ?_
  refine x_const hC dL_law_1905 ?_
  refine x_iadd hC dL_law_1906 ?_
  refine x_sld hC hw hX hbl hbA (by omega) (by omega) (by omega) dL_law_1907 ?_
  obtain ⟨z_3, hz_3⟩ : ∃ z : Int, z = (xs (i + 1).toNat).toInt := ⟨_, rfl⟩
  rw [← hz_3]
  have hrz_3 : -2147483648 ≤ z_3 ∧ z_3 ≤ 2147483647 := by rw [hz_3]; exact iN_rng _
  rw [xU_comm hdB] at hw
  obtain ⟨va, oa, wa, ya, wk, th, br, re, la, ha, kp, kv, qv, qw, fa, fb, fvv, fw, fo, fy, hR⟩ := hm
  refine x_callV hC hw (lv_size hl) ((c_X5_brand l G hR (p0 := z_3) (by omega)).frame hdB.symm) gL_law_X5_brand rfl dv_X5_brand (xU_l hR.1.1) rfl rfl (Nat.le_of_ble_eq_true rfl) (by rw [hRf]; decide) (by rw [hRl]; decide) (by omega) (by omega) dL_law_1908 (fun r9 M1 H locs hq hw => ?_)
  obtain ⟨Bk_4, ⟨zk_4, hrk_4, hzk_4, hm⟩, hMk_4, hdB9⟩ := hq
  subst hrk_4
  subst hMk_4
  have hdB := hdB9.symm
  rw [xU_comm hdB9] at hw
  show W p l e R s m args below meth c H locs _ _ _ (F0 m 1911 ls [.int (iN (zk_4))])
  refine lv_istore (lv' := [(6, .int (iN (zk_4))), (5, .int (iN (zk_2))), (0, .ref b), (1, .ref h0), (2, .ref a), (3, .ref o), (4, .int (iN (i)))]) hC.1 hC.2.1 dL_law_1911 hl (by decide) rfl (fun ls hl => ?_)
  refine lv_goto (tgt := 2555) hC.1 hC.2.1 dL_law_1913 (by decide) ?_
  refine W.widen (k := cu + 1) (n := su + (6)) (by omega) (by omega) ?_
  exact kk _ _ _ _ rf S hw ⟨_, _, _, _, rfl, hG, hm, hdA, hdB⟩ (lv_sub hl [2, 3, 4, 5, 6] rfl) (Nat.le_refl _)
set_option maxHeartbeats 8000000 in
set_option maxRecDepth 100000 in
theorem k_35 {p : Program} {l : Launch} {e : Env} {R : Room} {s : State} {m : MethodId} {args : Array Value} {below : List Frame} {meth : Method} {c : Code} {Q : State → Prop} {G : xG} {b L : Nat} {xs : Nat → Int32} {nm : String} (hst : l.stackTraces = false) (hRf : R.frames = 2048) {C9 S9 : Nat} (hRc : R.cells = C9) (hRs : R.slots = S9) (hC9 : 600000 ≤ C9) (hS9 : 7060000 ≤ S9) (hRl : R.locals = 84000) (hC : xB p s m args meth c cL_law 7 "RangeledgerLaw" nm wsL_law (some .boolean) G (xA (fun _ => none) s.heap.size)) (hX : va_X b L xs s s.heap) (hbl : b < s.heap.size) (hL : L ≤ 3072) {h0 a o : Nat} {rf : Int32} {S : Nat → Bool} {M : HM} {H : Heap} {locs : List Loc} {ls : Array Slot} {i : Int} {cu su : Nat} (hw : xD G (xA (fun _ => none) s.heap.size) s M H locs) (hS : LwS G M h0 a o rf S) (hl : lv_has ls 7 [(0, .ref b), (1, .ref h0), (2, .ref a), (3, .ref o), (4, .int (iN (i)))]) (hi : 0 ≤ i ∧ i + 6 ≤ L) (hcu : cu + 1000 ≤ C9) (hsu : su + 15590 ≤ S9) (kk : ∀ (M1 : HM) (H1 : Heap) (locs1 : List Loc) (ls1 : Array Slot) (rf1 : Int32) (S1 : Nat → Bool), xD G (xA (fun _ => none) s.heap.size) s M1 H1 locs1 → LwS G M1 h0 a o rf1 S1 → lv_has ls1 7 [(0, .ref b), (1, .ref h0), (2, .ref a), (3, .ref o), (4, .int (iN (i)))] → mC S1 100 ≤ mC S 100 + 0 → W p l e R s m args below meth c H1 locs1 (cu + 0) (su + (0)) Q (F0 m 2555 ls1 [])) : W p l e R s m args below meth c H locs cu su Q (F0 m 1916 ls []) := by
  obtain ⟨A, B, d, sv, hM, hG, hm, hdA, hdB⟩ := hS
  subst hM
  have hbA : ¬ (xA (fun _ => none) s.heap.size) b := fun h9 => h9.elim (fun h8 => h8 rfl) (fun h8 => by omega)
  refine lv_aload_n hC.1 hC.2.1 dL_law_1916 rfl (lv_at hl 1 rfl) ?_
  obtain ⟨bs, vs, og, kk9, kv9, qb, qk, qv9, fb9, fv, hR⟩ := id hG
  refine x_callV hC hw (lv_size hl) (((c_X3_knock l G hR).frame hdA).frame hdB) gL_law_X3_knock rfl dv_X3_knock (xU_l (xU_l hR.1)) rfl rfl (Nat.le_of_ble_eq_true rfl) (by rw [hRf]; decide) (by rw [hRl]; decide) (by omega) (by omega) dL_law_1917 (fun r9 M1 H locs hq hw => ?_)
  obtain ⟨Ck_1, ⟨Ak_1, ⟨hrk_1, hG⟩, hAk_1, hdA⟩, hMk_1, hdB⟩ := hq
  subst hrk_1
  subst hAk_1
  subst hMk_1
  obtain ⟨z9, hz9, hr9⟩ := x_nrm (rf.toInt + 1)
  rw [hz9]
  show W p l e R s m args below meth c H locs _ _ _ (F0 m 1920 ls [.int (iN (z9))])
  refine lv_aload_n hC.1 hC.2.1 dL_law_1920 rfl (lv_at hl 2 rfl) ?_
  rw [xU_comm hdB] at hw
  obtain ⟨va, oa, wa, ya, wk, th, br, re, la, ha, kp, kv, qv, qw, fa, fb, fvv, fw, fo, fy, hR⟩ := hm
  refine x_callV hC hw (lv_size hl) ((c_X5_knock l G hR).frame hdB.symm) gL_law_X5_knock rfl dv_X5_knock (xU_l hR.1.1) rfl rfl (Nat.le_of_ble_eq_true rfl) (by rw [hRf]; decide) (by rw [hRl]; decide) (by omega) (by omega) dL_law_1921 (fun r9 M1 H locs hq hw => ?_)
  obtain ⟨Bk_2, ⟨hrk_2, hm⟩, hMk_2, hdB9⟩ := hq
  subst hrk_2
  subst hMk_2
  have hdB := hdB9.symm
  rw [xU_comm hdB9] at hw
  rw [hz9]
  show W p l e R s m args below meth c H locs _ _ _ (F0 m 1924 ls [.int (iN (z9)), .int (iN (z9))])
  refine x_icmp_eq (tgt := 2555) hC ⟨by omega, by omega⟩ ⟨by omega, by omega⟩ dL_law_1924 (by decide) (fun c_3 => ?_) (fun c_3 => absurd rfl c_3)
  refine W.widen (k := cu + 0) (n := su + (0)) (by omega) (by omega) ?_
  exact kk _ _ _ _ (iN (rf.toInt + 1)) S hw ⟨_, _, _, _, rfl, hG, hm, hdA, hdB⟩ (lv_sub hl [0, 1, 2, 3, 4] rfl) (Nat.le_refl _)
set_option maxHeartbeats 8000000 in
set_option maxRecDepth 100000 in
theorem k_36 {p : Program} {l : Launch} {e : Env} {R : Room} {s : State} {m : MethodId} {args : Array Value} {below : List Frame} {meth : Method} {c : Code} {Q : State → Prop} {G : xG} {b L : Nat} {xs : Nat → Int32} {nm : String} (hst : l.stackTraces = false) (hRf : R.frames = 2048) {C9 S9 : Nat} (hRc : R.cells = C9) (hRs : R.slots = S9) (hC9 : 600000 ≤ C9) (hS9 : 7060000 ≤ S9) (hRl : R.locals = 84000) (hC : xB p s m args meth c cL_law 7 "RangeledgerLaw" nm wsL_law (some .boolean) G (xA (fun _ => none) s.heap.size)) (hX : va_X b L xs s s.heap) (hbl : b < s.heap.size) (hL : L ≤ 3072) {h0 a o : Nat} {rf : Int32} {S : Nat → Bool} {M : HM} {H : Heap} {locs : List Loc} {ls : Array Slot} {i : Int} {cu su : Nat} (hw : xD G (xA (fun _ => none) s.heap.size) s M H locs) (hS : LwS G M h0 a o rf S) (hl : lv_has ls 7 [(0, .ref b), (1, .ref h0), (2, .ref a), (3, .ref o), (4, .int (iN (i)))]) (hi : 0 ≤ i ∧ i + 6 ≤ L) (hcu : cu + 1000 ≤ C9) (hsu : su + 15590 ≤ S9) (kk : ∀ (M1 : HM) (H1 : Heap) (locs1 : List Loc) (ls1 : Array Slot) (rf1 : Int32) (S1 : Nat → Bool), xD G (xA (fun _ => none) s.heap.size) s M1 H1 locs1 → LwS G M1 h0 a o rf1 S1 → lv_has ls1 7 [(0, .ref b), (1, .ref h0), (2, .ref a), (3, .ref o), (4, .int (iN (i)))] → mC S1 100 ≤ mC S 100 + 0 → W p l e R s m args below meth c H1 locs1 (cu + 2) (su + (12)) Q (F0 m 2555 ls1 [])) : W p l e R s m args below meth c H locs cu su Q (F0 m 1929 ls []) := by
  obtain ⟨A, B, d, sv, hM, hG, hm, hdA, hdB⟩ := hS
  subst hM
  have hbA : ¬ (xA (fun _ => none) s.heap.size) b := fun h9 => h9.elim (fun h8 => h8 rfl) (fun h8 => by omega)
  refine lv_aload_n hC.1 hC.2.1 dL_law_1929 rfl (lv_at hl 1 rfl) ?_
  refine lv_aload_n hC.1 hC.2.1 dL_law_1930 rfl (lv_at hl 0 rfl) ?_
  refine lv_iload hC.1 hC.2.1 dL_law_1931 (lv_at hl 4 rfl) ?_
  refine x_const hC dL_law_1933 ?_
  refine x_iadd hC dL_law_1934 ?_
  refine x_sld hC hw hX hbl hbA (by omega) (by omega) (by omega) dL_law_1935 ?_
  obtain ⟨z_1, hz_1⟩ : ∃ z : Int, z = (xs (i + 1).toNat).toInt := ⟨_, rfl⟩
  rw [← hz_1]
  have hrz_1 : -2147483648 ≤ z_1 ∧ z_1 ≤ 2147483647 := by rw [hz_1]; exact iN_rng _
  refine lv_aload_n hC.1 hC.2.1 dL_law_1936 rfl (lv_at hl 0 rfl) ?_
  refine lv_iload hC.1 hC.2.1 dL_law_1937 (lv_at hl 4 rfl) ?_
  refine x_const hC dL_law_1939 ?_
  refine x_iadd hC dL_law_1940 ?_
  refine x_sld hC hw hX hbl hbA (by omega) (by omega) (by omega) dL_law_1941 ?_
  obtain ⟨z_2, hz_2⟩ : ∃ z : Int, z = (xs (i + 2).toNat).toInt := ⟨_, rfl⟩
  rw [← hz_2]
  have hrz_2 : -2147483648 ≤ z_2 ∧ z_2 ≤ 2147483647 := by rw [hz_2]; exact iN_rng _
  refine lv_aload_n hC.1 hC.2.1 dL_law_1942 rfl (lv_at hl 3 rfl) ?_
  refine x_callSW hC hw (lv_size hl) ((c_L_get l G hst hG hdA (p0 := z_1) (by omega) (p1 := z_2) (by omega)).frame hdB) gL_law_L_get rfl dv_L_get_s rfl (Nat.le_of_ble_eq_true rfl) (by rw [hRf]; decide) (by rw [hRl]; decide) (by omega) (by omega) dL_law_1943 (fun r9 M1 H locs hq hw => ?_)
  obtain ⟨Ck_3, ⟨⟨zk_3, hrk_3⟩, Ak_3, dk_3, svk_3, hG, hCk_3, hdA⟩, hMk_3, hdB⟩ := hq
  subst hrk_3
  subst hCk_3
  subst hMk_3
  show W p l e R s m args below meth c H locs _ _ _ (F0 m 1946 ls [.int (iN (zk_3))])
  refine lv_istore (lv' := [(5, .int (iN (zk_3))), (0, .ref b), (1, .ref h0), (2, .ref a), (3, .ref o), (4, .int (iN (i)))]) hC.1 hC.2.1 dL_law_1946 hl (by decide) rfl (fun ls hl => ?_)
  refine lv_aload_n hC.1 hC.2.1 dL_law_1948 rfl (lv_at hl 3 rfl) ?_
  refine lv_aload_n hC.1 hC.2.1 dL_law_1949 rfl (lv_at hl 1 rfl) ?_
  refine lv_iload hC.1 hC.2.1 dL_law_1950 (lv_at hl 5 rfl) ?_
  refine x_const hC dL_law_1952 ?_
  refine x_iadd hC dL_law_1953 ?_
  refine x_sld hC hw hX hbl hbA (by omega) (by omega) (by omega) dL_law_1954 ?_
  obtain ⟨z_4, hz_4⟩ : ∃ z : Int, z = (xs (i + 1).toNat).toInt := ⟨_, rfl⟩
  rw [← hz_4]
  have hrz_4 : -2147483648 ≤ z_4 ∧ z_4 ≤ 2147483647 := by rw [hz_4]; exact iN_rng _
  refine lv_aload_n hC.1 hC.2.1 dL_law_1955 rfl (lv_at hl 1 rfl) ?_
  refine lv_iload hC.1 hC.2.1 dL_law_1956 (lv_at hl 5 rfl) ?_
  refine x_const hC dL_law_1958 ?_
  refine x_iadd hC dL_law_1959 ?_
  refine x_sld hC hw hX hbl hbA (by omega) (by omega) (by omega) dL_law_1960 ?_
  obtain ⟨z_5, hz_5⟩ : ∃ z : Int, z = (xs (i + 2).toNat).toInt := ⟨_, rfl⟩
  rw [← hz_5]
  have hrz_5 : -2147483648 ≤ z_5 ∧ z_5 ≤ 2147483647 := by rw [hz_5]; exact iN_rng _
  rw [xU_comm hdB] at hw
  obtain ⟨va, oa, wa, ya, wk, th, br, re, la, ha, kp, kv, qv, qw, fa, fb, fvv, fw, fo, fy, hR⟩ := hm
  refine x_callV hC hw (lv_size hl) ((c_X5_get l G hR (p0 := z_4) (by omega) (p1 := z_5) (by omega)).frame hdB.symm) gL_law_X5_get rfl dv_X5_get (xU_l hR.1.1) rfl rfl (Nat.le_of_ble_eq_true rfl) (by rw [hRf]; decide) (by rw [hRl]; decide) (by omega) (by omega) dL_law_1961 (fun r9 M1 H locs hq hw => ?_)
  obtain ⟨Bk_6, ⟨zk_6, hrk_6, hzk_6, hm⟩, hMk_6, hdB9⟩ := hq
  subst hrk_6
  subst hMk_6
  have hdB := hdB9.symm
  rw [xU_comm hdB9] at hw
  show W p l e R s m args below meth c H locs _ _ _ (F0 m 1964 ls [.int (iN (zk_6))])
  refine lv_istore (lv' := [(6, .int (iN (zk_6))), (5, .int (iN (zk_3))), (0, .ref b), (1, .ref h0), (2, .ref a), (3, .ref o), (4, .int (iN (i)))]) hC.1 hC.2.1 dL_law_1964 hl (by decide) rfl (fun ls hl => ?_)
  refine lv_goto (tgt := 2555) hC.1 hC.2.1 dL_law_1966 (by decide) ?_
  refine W.widen (k := cu + 2) (n := su + (12)) (by omega) (by omega) ?_
  exact kk _ _ _ _ rf S hw ⟨_, _, _, _, rfl, hG, hm, hdA, hdB⟩ (lv_sub hl [2, 3, 4, 5, 6] rfl) (Nat.le_refl _)
set_option maxHeartbeats 8000000 in
set_option maxRecDepth 100000 in
theorem k_37 {p : Program} {l : Launch} {e : Env} {R : Room} {s : State} {m : MethodId} {args : Array Value} {below : List Frame} {meth : Method} {c : Code} {Q : State → Prop} {G : xG} {b L : Nat} {xs : Nat → Int32} {nm : String} (hst : l.stackTraces = false) (hRf : R.frames = 2048) {C9 S9 : Nat} (hRc : R.cells = C9) (hRs : R.slots = S9) (hC9 : 600000 ≤ C9) (hS9 : 7060000 ≤ S9) (hRl : R.locals = 84000) (hC : xB p s m args meth c cL_law 7 "RangeledgerLaw" nm wsL_law (some .boolean) G (xA (fun _ => none) s.heap.size)) (hX : va_X b L xs s s.heap) (hbl : b < s.heap.size) (hL : L ≤ 3072) {h0 a o : Nat} {rf : Int32} {S : Nat → Bool} {M : HM} {H : Heap} {locs : List Loc} {ls : Array Slot} {i : Int} {cu su : Nat} (hw : xD G (xA (fun _ => none) s.heap.size) s M H locs) (hS : LwS G M h0 a o rf S) (hl : lv_has ls 7 [(0, .ref b), (1, .ref h0), (2, .ref a), (3, .ref o), (4, .int (iN (i)))]) (hi : 0 ≤ i ∧ i + 6 ≤ L) (hcu : cu + 1000 ≤ C9) (hsu : su + 15590 ≤ S9) (kk : ∀ (M1 : HM) (H1 : Heap) (locs1 : List Loc) (ls1 : Array Slot) (rf1 : Int32) (S1 : Nat → Bool), xD G (xA (fun _ => none) s.heap.size) s M1 H1 locs1 → LwS G M1 h0 a o rf1 S1 → lv_has ls1 7 [(0, .ref b), (1, .ref h0), (2, .ref a), (3, .ref o), (4, .int (iN (i)))] → mC S1 100 ≤ mC S 100 + 0 → W p l e R s m args below meth c H1 locs1 (cu + 3) (su + (18)) Q (F0 m 2555 ls1 [])) : W p l e R s m args below meth c H locs cu su Q (F0 m 1969 ls []) := by
  obtain ⟨A, B, d, sv, hM, hG, hm, hdA, hdB⟩ := hS
  subst hM
  have hbA : ¬ (xA (fun _ => none) s.heap.size) b := fun h9 => h9.elim (fun h8 => h8 rfl) (fun h8 => by omega)
  refine lv_aload_n hC.1 hC.2.1 dL_law_1969 rfl (lv_at hl 1 rfl) ?_
  refine lv_aload_n hC.1 hC.2.1 dL_law_1970 rfl (lv_at hl 0 rfl) ?_
  refine lv_iload hC.1 hC.2.1 dL_law_1971 (lv_at hl 4 rfl) ?_
  refine x_const hC dL_law_1973 ?_
  refine x_iadd hC dL_law_1974 ?_
  refine x_sld hC hw hX hbl hbA (by omega) (by omega) (by omega) dL_law_1975 ?_
  obtain ⟨z_1, hz_1⟩ : ∃ z : Int, z = (xs (i + 1).toNat).toInt := ⟨_, rfl⟩
  rw [← hz_1]
  have hrz_1 : -2147483648 ≤ z_1 ∧ z_1 ≤ 2147483647 := by rw [hz_1]; exact iN_rng _
  refine lv_aload_n hC.1 hC.2.1 dL_law_1976 rfl (lv_at hl 0 rfl) ?_
  refine lv_iload hC.1 hC.2.1 dL_law_1977 (lv_at hl 4 rfl) ?_
  refine x_const hC dL_law_1979 ?_
  refine x_iadd hC dL_law_1980 ?_
  refine x_sld hC hw hX hbl hbA (by omega) (by omega) (by omega) dL_law_1981 ?_
  obtain ⟨z_2, hz_2⟩ : ∃ z : Int, z = (xs (i + 2).toNat).toInt := ⟨_, rfl⟩
  rw [← hz_2]
  have hrz_2 : -2147483648 ≤ z_2 ∧ z_2 ≤ 2147483647 := by rw [hz_2]; exact iN_rng _
  refine lv_aload_n hC.1 hC.2.1 dL_law_1982 rfl (lv_at hl 0 rfl) ?_
  refine lv_iload hC.1 hC.2.1 dL_law_1983 (lv_at hl 4 rfl) ?_
  refine x_const hC dL_law_1985 ?_
  refine x_iadd hC dL_law_1986 ?_
  refine x_sld hC hw hX hbl hbA (by omega) (by omega) (by omega) dL_law_1987 ?_
  obtain ⟨z_3, hz_3⟩ : ∃ z : Int, z = (xs (i + 3).toNat).toInt := ⟨_, rfl⟩
  rw [← hz_3]
  have hrz_3 : -2147483648 ≤ z_3 ∧ z_3 ≤ 2147483647 := by rw [hz_3]; exact iN_rng _
  refine lv_aload_n hC.1 hC.2.1 dL_law_1988 rfl (lv_at hl 3 rfl) ?_
  refine x_callSW hC hw (lv_size hl) ((c_L_getOr l G hst hG hdA (p0 := z_1) (by omega) (p1 := z_2) (by omega) (p2 := z_3) (by omega)).frame hdB) gL_law_L_getOr rfl dv_L_getOr_s rfl (Nat.le_of_ble_eq_true rfl) (by rw [hRf]; decide) (by rw [hRl]; decide) (by omega) (by omega) dL_law_1989 (fun r9 M1 H locs hq hw => ?_)
  obtain ⟨Ck_4, ⟨⟨zk_4, hrk_4⟩, Ak_4, dk_4, svk_4, hG, hCk_4, hdA⟩, hMk_4, hdB⟩ := hq
  subst hrk_4
  subst hCk_4
  subst hMk_4
  show W p l e R s m args below meth c H locs _ _ _ (F0 m 1992 ls [.int (iN (zk_4))])
  refine lv_istore (lv' := [(5, .int (iN (zk_4))), (0, .ref b), (1, .ref h0), (2, .ref a), (3, .ref o), (4, .int (iN (i)))]) hC.1 hC.2.1 dL_law_1992 hl (by decide) rfl (fun ls hl => ?_)
  refine lv_aload_n hC.1 hC.2.1 dL_law_1994 rfl (lv_at hl 3 rfl) ?_
  refine lv_aload_n hC.1 hC.2.1 dL_law_1995 rfl (lv_at hl 1 rfl) ?_
  refine lv_iload hC.1 hC.2.1 dL_law_1996 (lv_at hl 5 rfl) ?_
  refine x_const hC dL_law_1998 ?_
  refine x_iadd hC dL_law_1999 ?_
  refine x_sld hC hw hX hbl hbA (by omega) (by omega) (by omega) dL_law_2000 ?_
  obtain ⟨z_5, hz_5⟩ : ∃ z : Int, z = (xs (i + 1).toNat).toInt := ⟨_, rfl⟩
  rw [← hz_5]
  have hrz_5 : -2147483648 ≤ z_5 ∧ z_5 ≤ 2147483647 := by rw [hz_5]; exact iN_rng _
  refine lv_aload_n hC.1 hC.2.1 dL_law_2001 rfl (lv_at hl 1 rfl) ?_
  refine lv_iload hC.1 hC.2.1 dL_law_2002 (lv_at hl 5 rfl) ?_
  refine x_const hC dL_law_2004 ?_
  refine x_iadd hC dL_law_2005 ?_
  refine x_sld hC hw hX hbl hbA (by omega) (by omega) (by omega) dL_law_2006 ?_
  obtain ⟨z_6, hz_6⟩ : ∃ z : Int, z = (xs (i + 2).toNat).toInt := ⟨_, rfl⟩
  rw [← hz_6]
  have hrz_6 : -2147483648 ≤ z_6 ∧ z_6 ≤ 2147483647 := by rw [hz_6]; exact iN_rng _
  refine lv_aload_n hC.1 hC.2.1 dL_law_2007 rfl (lv_at hl 1 rfl) ?_
  refine lv_iload hC.1 hC.2.1 dL_law_2008 (lv_at hl 5 rfl) ?_
  refine x_const hC dL_law_2010 ?_
  refine x_iadd hC dL_law_2011 ?_
  refine x_sld hC hw hX hbl hbA (by omega) (by omega) (by omega) dL_law_2012 ?_
  obtain ⟨z_7, hz_7⟩ : ∃ z : Int, z = (xs (i + 3).toNat).toInt := ⟨_, rfl⟩
  rw [← hz_7]
  have hrz_7 : -2147483648 ≤ z_7 ∧ z_7 ≤ 2147483647 := by rw [hz_7]; exact iN_rng _
  rw [xU_comm hdB] at hw
  obtain ⟨va, oa, wa, ya, wk, th, br, re, la, ha, kp, kv, qv, qw, fa, fb, fvv, fw, fo, fy, hR⟩ := hm
  refine x_callV hC hw (lv_size hl) ((c_X5_getOr l G hR (p0 := z_5) (by omega) (p1 := z_6) (by omega) (p2 := z_7) (by omega)).frame hdB.symm) gL_law_X5_getOr rfl dv_X5_getOr (xU_l hR.1.1) rfl rfl (Nat.le_of_ble_eq_true rfl) (by rw [hRf]; decide) (by rw [hRl]; decide) (by omega) (by omega) dL_law_2013 (fun r9 M1 H locs hq hw => ?_)
  obtain ⟨Bk_8, ⟨zk_8, hrk_8, hzk_8, hm⟩, hMk_8, hdB9⟩ := hq
  subst hrk_8
  subst hMk_8
  have hdB := hdB9.symm
  rw [xU_comm hdB9] at hw
  show W p l e R s m args below meth c H locs _ _ _ (F0 m 2016 ls [.int (iN (zk_8))])
  refine lv_istore (lv' := [(6, .int (iN (zk_8))), (5, .int (iN (zk_4))), (0, .ref b), (1, .ref h0), (2, .ref a), (3, .ref o), (4, .int (iN (i)))]) hC.1 hC.2.1 dL_law_2016 hl (by decide) rfl (fun ls hl => ?_)
  refine lv_goto (tgt := 2555) hC.1 hC.2.1 dL_law_2018 (by decide) ?_
  refine W.widen (k := cu + 3) (n := su + (18)) (by omega) (by omega) ?_
  exact kk _ _ _ _ rf S hw ⟨_, _, _, _, rfl, hG, hm, hdA, hdB⟩ (lv_sub hl [2, 3, 4, 5, 6] rfl) (Nat.le_refl _)
set_option maxHeartbeats 8000000 in
set_option maxRecDepth 100000 in
theorem k_38 {p : Program} {l : Launch} {e : Env} {R : Room} {s : State} {m : MethodId} {args : Array Value} {below : List Frame} {meth : Method} {c : Code} {Q : State → Prop} {G : xG} {b L : Nat} {xs : Nat → Int32} {nm : String} (hst : l.stackTraces = false) (hRf : R.frames = 2048) {C9 S9 : Nat} (hRc : R.cells = C9) (hRs : R.slots = S9) (hC9 : 600000 ≤ C9) (hS9 : 7060000 ≤ S9) (hRl : R.locals = 84000) (hC : xB p s m args meth c cL_law 7 "RangeledgerLaw" nm wsL_law (some .boolean) G (xA (fun _ => none) s.heap.size)) (hX : va_X b L xs s s.heap) (hbl : b < s.heap.size) (hL : L ≤ 3072) {h0 a o : Nat} {rf : Int32} {S : Nat → Bool} {M : HM} {H : Heap} {locs : List Loc} {ls : Array Slot} {i : Int} {cu su : Nat} (hw : xD G (xA (fun _ => none) s.heap.size) s M H locs) (hS : LwS G M h0 a o rf S) (hl : lv_has ls 7 [(0, .ref b), (1, .ref h0), (2, .ref a), (3, .ref o), (4, .int (iN (i)))]) (hi : 0 ≤ i ∧ i + 6 ≤ L) (hcu : cu + 1000 ≤ C9) (hsu : su + 15590 ≤ S9) (kk : ∀ (M1 : HM) (H1 : Heap) (locs1 : List Loc) (ls1 : Array Slot) (rf1 : Int32) (S1 : Nat → Bool), xD G (xA (fun _ => none) s.heap.size) s M1 H1 locs1 → LwS G M1 h0 a o rf1 S1 → lv_has ls1 7 [(0, .ref b), (1, .ref h0), (2, .ref a), (3, .ref o), (4, .int (iN (i)))] → mC S1 100 ≤ mC S 100 + 0 → W p l e R s m args below meth c H1 locs1 (cu + 2) (su + (12)) Q (F0 m 2555 ls1 [])) : W p l e R s m args below meth c H locs cu su Q (F0 m 2021 ls []) := by
  obtain ⟨A, B, d, sv, hM, hG, hm, hdA, hdB⟩ := hS
  subst hM
  have hbA : ¬ (xA (fun _ => none) s.heap.size) b := fun h9 => h9.elim (fun h8 => h8 rfl) (fun h8 => by omega)
  refine lv_aload_n hC.1 hC.2.1 dL_law_2021 rfl (lv_at hl 1 rfl) ?_
  refine lv_aload_n hC.1 hC.2.1 dL_law_2022 rfl (lv_at hl 0 rfl) ?_
  refine lv_iload hC.1 hC.2.1 dL_law_2023 (lv_at hl 4 rfl) ?_
  refine x_const hC dL_law_2025 ?_
  refine x_iadd hC dL_law_2026 ?_
  refine x_sld hC hw hX hbl hbA (by omega) (by omega) (by omega) dL_law_2027 ?_
  obtain ⟨z_1, hz_1⟩ : ∃ z : Int, z = (xs (i + 1).toNat).toInt := ⟨_, rfl⟩
  rw [← hz_1]
  have hrz_1 : -2147483648 ≤ z_1 ∧ z_1 ≤ 2147483647 := by rw [hz_1]; exact iN_rng _
  refine lv_aload_n hC.1 hC.2.1 dL_law_2028 rfl (lv_at hl 0 rfl) ?_
  refine lv_iload hC.1 hC.2.1 dL_law_2029 (lv_at hl 4 rfl) ?_
  refine x_const hC dL_law_2031 ?_
  refine x_iadd hC dL_law_2032 ?_
  refine x_sld hC hw hX hbl hbA (by omega) (by omega) (by omega) dL_law_2033 ?_
  obtain ⟨z_2, hz_2⟩ : ∃ z : Int, z = (xs (i + 2).toNat).toInt := ⟨_, rfl⟩
  rw [← hz_2]
  have hrz_2 : -2147483648 ≤ z_2 ∧ z_2 ≤ 2147483647 := by rw [hz_2]; exact iN_rng _
  refine lv_aload_n hC.1 hC.2.1 dL_law_2034 rfl (lv_at hl 3 rfl) ?_
  refine x_callSW hC hw (lv_size hl) ((c_L_has l G hst hG hdA (p0 := z_1) (by omega) (p1 := z_2) (by omega)).frame hdB) gL_law_L_has rfl dv_L_has_s rfl (Nat.le_of_ble_eq_true rfl) (by rw [hRf]; decide) (by rw [hRl]; decide) (by omega) (by omega) dL_law_2035 (fun r9 M1 H locs hq hw => ?_)
  obtain ⟨Ck_3, ⟨⟨zk_3, hrk_3⟩, Ak_3, dk_3, svk_3, hG, hCk_3, hdA⟩, hMk_3, hdB⟩ := hq
  subst hrk_3
  subst hCk_3
  subst hMk_3
  show W p l e R s m args below meth c H locs _ _ _ (F0 m 2038 ls [.int (iN (zk_3))])
  refine lv_istore (lv' := [(5, .int (iN (zk_3))), (0, .ref b), (1, .ref h0), (2, .ref a), (3, .ref o), (4, .int (iN (i)))]) hC.1 hC.2.1 dL_law_2038 hl (by decide) rfl (fun ls hl => ?_)
  refine lv_aload_n hC.1 hC.2.1 dL_law_2040 rfl (lv_at hl 3 rfl) ?_
  refine lv_aload_n hC.1 hC.2.1 dL_law_2041 rfl (lv_at hl 1 rfl) ?_
  refine lv_iload hC.1 hC.2.1 dL_law_2042 (lv_at hl 5 rfl) ?_
  refine x_const hC dL_law_2044 ?_
  refine x_iadd hC dL_law_2045 ?_
  refine x_sld hC hw hX hbl hbA (by omega) (by omega) (by omega) dL_law_2046 ?_
  obtain ⟨z_4, hz_4⟩ : ∃ z : Int, z = (xs (i + 1).toNat).toInt := ⟨_, rfl⟩
  rw [← hz_4]
  have hrz_4 : -2147483648 ≤ z_4 ∧ z_4 ≤ 2147483647 := by rw [hz_4]; exact iN_rng _
  refine lv_aload_n hC.1 hC.2.1 dL_law_2047 rfl (lv_at hl 1 rfl) ?_
  refine lv_iload hC.1 hC.2.1 dL_law_2048 (lv_at hl 5 rfl) ?_
  refine x_const hC dL_law_2050 ?_
  refine x_iadd hC dL_law_2051 ?_
  refine x_sld hC hw hX hbl hbA (by omega) (by omega) (by omega) dL_law_2052 ?_
  obtain ⟨z_5, hz_5⟩ : ∃ z : Int, z = (xs (i + 2).toNat).toInt := ⟨_, rfl⟩
  rw [← hz_5]
  have hrz_5 : -2147483648 ≤ z_5 ∧ z_5 ≤ 2147483647 := by rw [hz_5]; exact iN_rng _
  rw [xU_comm hdB] at hw
  obtain ⟨va, oa, wa, ya, wk, th, br, re, la, ha, kp, kv, qv, qw, fa, fb, fvv, fw, fo, fy, hR⟩ := hm
  refine x_callV hC hw (lv_size hl) ((c_X5_has l G hR (p0 := z_4) (by omega) (p1 := z_5) (by omega)).frame hdB.symm) gL_law_X5_has rfl dv_X5_has (xU_l hR.1.1) rfl rfl (Nat.le_of_ble_eq_true rfl) (by rw [hRf]; decide) (by rw [hRl]; decide) (by omega) (by omega) dL_law_2053 (fun r9 M1 H locs hq hw => ?_)
  obtain ⟨Bk_6, ⟨zk_6, hrk_6, hzk_6, hm⟩, hMk_6, hdB9⟩ := hq
  subst hrk_6
  subst hMk_6
  have hdB := hdB9.symm
  rw [xU_comm hdB9] at hw
  show W p l e R s m args below meth c H locs _ _ _ (F0 m 2056 ls [.int (iN (zk_6))])
  refine lv_istore (lv' := [(6, .int (iN (zk_6))), (5, .int (iN (zk_3))), (0, .ref b), (1, .ref h0), (2, .ref a), (3, .ref o), (4, .int (iN (i)))]) hC.1 hC.2.1 dL_law_2056 hl (by decide) rfl (fun ls hl => ?_)
  refine lv_goto (tgt := 2555) hC.1 hC.2.1 dL_law_2058 (by decide) ?_
  refine W.widen (k := cu + 2) (n := su + (12)) (by omega) (by omega) ?_
  exact kk _ _ _ _ rf S hw ⟨_, _, _, _, rfl, hG, hm, hdA, hdB⟩ (lv_sub hl [2, 3, 4, 5, 6] rfl) (Nat.le_refl _)
set_option maxHeartbeats 8000000 in
set_option maxRecDepth 100000 in
theorem k_39 {p : Program} {l : Launch} {e : Env} {R : Room} {s : State} {m : MethodId} {args : Array Value} {below : List Frame} {meth : Method} {c : Code} {Q : State → Prop} {G : xG} {b L : Nat} {xs : Nat → Int32} {nm : String} (hst : l.stackTraces = false) (hRf : R.frames = 2048) {C9 S9 : Nat} (hRc : R.cells = C9) (hRs : R.slots = S9) (hC9 : 600000 ≤ C9) (hS9 : 7060000 ≤ S9) (hRl : R.locals = 84000) (hC : xB p s m args meth c cL_law 7 "RangeledgerLaw" nm wsL_law (some .boolean) G (xA (fun _ => none) s.heap.size)) (hX : va_X b L xs s s.heap) (hbl : b < s.heap.size) (hL : L ≤ 3072) {h0 a o : Nat} {rf : Int32} {S : Nat → Bool} {M : HM} {H : Heap} {locs : List Loc} {ls : Array Slot} {i : Int} {cu su : Nat} (hw : xD G (xA (fun _ => none) s.heap.size) s M H locs) (hS : LwS G M h0 a o rf S) (hl : lv_has ls 7 [(0, .ref b), (1, .ref h0), (2, .ref a), (3, .ref o), (4, .int (iN (i)))]) (hi : 0 ≤ i ∧ i + 6 ≤ L) (hcu : cu + 1000 ≤ C9) (hsu : su + 15590 ≤ S9) (kk : ∀ (M1 : HM) (H1 : Heap) (locs1 : List Loc) (ls1 : Array Slot) (rf1 : Int32) (S1 : Nat → Bool), xD G (xA (fun _ => none) s.heap.size) s M1 H1 locs1 → LwS G M1 h0 a o rf1 S1 → lv_has ls1 7 [(0, .ref b), (1, .ref h0), (2, .ref a), (3, .ref o), (4, .int (iN (i)))] → mC S1 100 ≤ mC S 100 + 0 → W p l e R s m args below meth c H1 locs1 (cu + 2) (su + (12)) Q (F0 m 2555 ls1 [])) : W p l e R s m args below meth c H locs cu su Q (F0 m 2061 ls []) := by
  obtain ⟨A, B, d, sv, hM, hG, hm, hdA, hdB⟩ := hS
  subst hM
  have hbA : ¬ (xA (fun _ => none) s.heap.size) b := fun h9 => h9.elim (fun h8 => h8 rfl) (fun h8 => by omega)
  refine lv_aload_n hC.1 hC.2.1 dL_law_2061 rfl (lv_at hl 1 rfl) ?_
  refine lv_aload_n hC.1 hC.2.1 dL_law_2062 rfl (lv_at hl 0 rfl) ?_
  refine lv_iload hC.1 hC.2.1 dL_law_2063 (lv_at hl 4 rfl) ?_
  refine x_const hC dL_law_2065 ?_
  refine x_iadd hC dL_law_2066 ?_
  refine x_sld hC hw hX hbl hbA (by omega) (by omega) (by omega) dL_law_2067 ?_
  obtain ⟨z_1, hz_1⟩ : ∃ z : Int, z = (xs (i + 1).toNat).toInt := ⟨_, rfl⟩
  rw [← hz_1]
  have hrz_1 : -2147483648 ≤ z_1 ∧ z_1 ≤ 2147483647 := by rw [hz_1]; exact iN_rng _
  refine lv_aload_n hC.1 hC.2.1 dL_law_2068 rfl (lv_at hl 0 rfl) ?_
  refine lv_iload hC.1 hC.2.1 dL_law_2069 (lv_at hl 4 rfl) ?_
  refine x_const hC dL_law_2071 ?_
  refine x_iadd hC dL_law_2072 ?_
  refine x_sld hC hw hX hbl hbA (by omega) (by omega) (by omega) dL_law_2073 ?_
  obtain ⟨z_2, hz_2⟩ : ∃ z : Int, z = (xs (i + 2).toNat).toInt := ⟨_, rfl⟩
  rw [← hz_2]
  have hrz_2 : -2147483648 ≤ z_2 ∧ z_2 ≤ 2147483647 := by rw [hz_2]; exact iN_rng _
  refine lv_aload_n hC.1 hC.2.1 dL_law_2074 rfl (lv_at hl 3 rfl) ?_
  refine x_callSW hC hw (lv_size hl) ((c_L_hasValue l G hst hG hdA (p0 := z_1) (by omega) (p1 := z_2) (by omega)).frame hdB) gL_law_L_hasValue rfl dv_L_hasValue_s rfl (Nat.le_of_ble_eq_true rfl) (by rw [hRf]; decide) (by rw [hRl]; decide) (by omega) (by omega) dL_law_2075 (fun r9 M1 H locs hq hw => ?_)
  obtain ⟨Ck_3, ⟨⟨zk_3, hrk_3⟩, Ak_3, dk_3, svk_3, hG, hCk_3, hdA⟩, hMk_3, hdB⟩ := hq
  subst hrk_3
  subst hCk_3
  subst hMk_3
  show W p l e R s m args below meth c H locs _ _ _ (F0 m 2078 ls [.int (iN (zk_3))])
  refine lv_istore (lv' := [(5, .int (iN (zk_3))), (0, .ref b), (1, .ref h0), (2, .ref a), (3, .ref o), (4, .int (iN (i)))]) hC.1 hC.2.1 dL_law_2078 hl (by decide) rfl (fun ls hl => ?_)
  refine lv_aload_n hC.1 hC.2.1 dL_law_2080 rfl (lv_at hl 3 rfl) ?_
  refine lv_aload_n hC.1 hC.2.1 dL_law_2081 rfl (lv_at hl 1 rfl) ?_
  refine lv_iload hC.1 hC.2.1 dL_law_2082 (lv_at hl 5 rfl) ?_
  refine x_const hC dL_law_2084 ?_
  refine x_iadd hC dL_law_2085 ?_
  refine x_sld hC hw hX hbl hbA (by omega) (by omega) (by omega) dL_law_2086 ?_
  obtain ⟨z_4, hz_4⟩ : ∃ z : Int, z = (xs (i + 1).toNat).toInt := ⟨_, rfl⟩
  rw [← hz_4]
  have hrz_4 : -2147483648 ≤ z_4 ∧ z_4 ≤ 2147483647 := by rw [hz_4]; exact iN_rng _
  refine lv_aload_n hC.1 hC.2.1 dL_law_2087 rfl (lv_at hl 1 rfl) ?_
  refine lv_iload hC.1 hC.2.1 dL_law_2088 (lv_at hl 5 rfl) ?_
  refine x_const hC dL_law_2090 ?_
  refine x_iadd hC dL_law_2091 ?_
  refine x_sld hC hw hX hbl hbA (by omega) (by omega) (by omega) dL_law_2092 ?_
  obtain ⟨z_5, hz_5⟩ : ∃ z : Int, z = (xs (i + 2).toNat).toInt := ⟨_, rfl⟩
  rw [← hz_5]
  have hrz_5 : -2147483648 ≤ z_5 ∧ z_5 ≤ 2147483647 := by rw [hz_5]; exact iN_rng _
  rw [xU_comm hdB] at hw
  obtain ⟨va, oa, wa, ya, wk, th, br, re, la, ha, kp, kv, qv, qw, fa, fb, fvv, fw, fo, fy, hR⟩ := hm
  refine x_callV hC hw (lv_size hl) ((c_X5_hasValue l G hR (p0 := z_4) (by omega) (p1 := z_5) (by omega)).frame hdB.symm) gL_law_X5_hasValue rfl dv_X5_hasValue (xU_l hR.1.1) rfl rfl (Nat.le_of_ble_eq_true rfl) (by rw [hRf]; decide) (by rw [hRl]; decide) (by omega) (by omega) dL_law_2093 (fun r9 M1 H locs hq hw => ?_)
  obtain ⟨Bk_6, ⟨zk_6, hrk_6, hzk_6, hm⟩, hMk_6, hdB9⟩ := hq
  subst hrk_6
  subst hMk_6
  have hdB := hdB9.symm
  rw [xU_comm hdB9] at hw
  show W p l e R s m args below meth c H locs _ _ _ (F0 m 2096 ls [.int (iN (zk_6))])
  refine lv_istore (lv' := [(6, .int (iN (zk_6))), (5, .int (iN (zk_3))), (0, .ref b), (1, .ref h0), (2, .ref a), (3, .ref o), (4, .int (iN (i)))]) hC.1 hC.2.1 dL_law_2096 hl (by decide) rfl (fun ls hl => ?_)
  refine lv_goto (tgt := 2555) hC.1 hC.2.1 dL_law_2098 (by decide) ?_
  refine W.widen (k := cu + 2) (n := su + (12)) (by omega) (by omega) ?_
  exact kk _ _ _ _ rf S hw ⟨_, _, _, _, rfl, hG, hm, hdA, hdB⟩ (lv_sub hl [2, 3, 4, 5, 6] rfl) (Nat.le_refl _)
set_option maxHeartbeats 8000000 in
set_option maxRecDepth 100000 in
theorem k_40 {p : Program} {l : Launch} {e : Env} {R : Room} {s : State} {m : MethodId} {args : Array Value} {below : List Frame} {meth : Method} {c : Code} {Q : State → Prop} {G : xG} {b L : Nat} {xs : Nat → Int32} {nm : String} (hst : l.stackTraces = false) (hRf : R.frames = 2048) {C9 S9 : Nat} (hRc : R.cells = C9) (hRs : R.slots = S9) (hC9 : 600000 ≤ C9) (hS9 : 7060000 ≤ S9) (hRl : R.locals = 84000) (hC : xB p s m args meth c cL_law 7 "RangeledgerLaw" nm wsL_law (some .boolean) G (xA (fun _ => none) s.heap.size)) (hX : va_X b L xs s s.heap) (hbl : b < s.heap.size) (hL : L ≤ 3072) {h0 a o : Nat} {rf : Int32} {S : Nat → Bool} {M : HM} {H : Heap} {locs : List Loc} {ls : Array Slot} {i : Int} {cu su : Nat} (hw : xD G (xA (fun _ => none) s.heap.size) s M H locs) (hS : LwS G M h0 a o rf S) (hl : lv_has ls 7 [(0, .ref b), (1, .ref h0), (2, .ref a), (3, .ref o), (4, .int (iN (i)))]) (hi : 0 ≤ i ∧ i + 6 ≤ L) (hcu : cu + 1000 ≤ C9) (hsu : su + 15590 ≤ S9) (kk : ∀ (M1 : HM) (H1 : Heap) (locs1 : List Loc) (ls1 : Array Slot) (rf1 : Int32) (S1 : Nat → Bool), xD G (xA (fun _ => none) s.heap.size) s M1 H1 locs1 → LwS G M1 h0 a o rf1 S1 → lv_has ls1 7 [(0, .ref b), (1, .ref h0), (2, .ref a), (3, .ref o), (4, .int (iN (i)))] → mC S1 100 ≤ mC S 100 + 0 → W p l e R s m args below meth c H1 locs1 (cu + 3) (su + (17)) Q (F0 m 2555 ls1 [])) : W p l e R s m args below meth c H locs cu su Q (F0 m 2101 ls []) := by
  obtain ⟨A, B, d, sv, hM, hG, hm, hdA, hdB⟩ := hS
  subst hM
  have hbA : ¬ (xA (fun _ => none) s.heap.size) b := fun h9 => h9.elim (fun h8 => h8 rfl) (fun h8 => by omega)
  refine lv_aload_n hC.1 hC.2.1 dL_law_2101 rfl (lv_at hl 1 rfl) ?_
  refine lv_aload_n hC.1 hC.2.1 dL_law_2102 rfl (lv_at hl 0 rfl) ?_
  refine lv_iload hC.1 hC.2.1 dL_law_2103 (lv_at hl 4 rfl) ?_
  refine x_const hC dL_law_2105 ?_
  refine x_iadd hC dL_law_2106 ?_
  refine x_sld hC hw hX hbl hbA (by omega) (by omega) (by omega) dL_law_2107 ?_
  obtain ⟨z_1, hz_1⟩ : ∃ z : Int, z = (xs (i + 1).toNat).toInt := ⟨_, rfl⟩
  rw [← hz_1]
  have hrz_1 : -2147483648 ≤ z_1 ∧ z_1 ≤ 2147483647 := by rw [hz_1]; exact iN_rng _
  refine lv_aload_n hC.1 hC.2.1 dL_law_2108 rfl (lv_at hl 0 rfl) ?_
  refine lv_iload hC.1 hC.2.1 dL_law_2109 (lv_at hl 4 rfl) ?_
  refine x_const hC dL_law_2111 ?_
  refine x_iadd hC dL_law_2112 ?_
  refine x_sld hC hw hX hbl hbA (by omega) (by omega) (by omega) dL_law_2113 ?_
  obtain ⟨z_2, hz_2⟩ : ∃ z : Int, z = (xs (i + 2).toNat).toInt := ⟨_, rfl⟩
  rw [← hz_2]
  have hrz_2 : -2147483648 ≤ z_2 ∧ z_2 ≤ 2147483647 := by rw [hz_2]; exact iN_rng _
  refine lv_aload_n hC.1 hC.2.1 dL_law_2114 rfl (lv_at hl 3 rfl) ?_
  refine x_callSW hC hw (lv_size hl) ((c_L_ofBook l G hst hG hdA (p0 := z_1) (by omega) (p1 := z_2) (by omega)).frame hdB) gL_law_L_ofBook rfl dv_L_ofBook_s rfl (Nat.le_of_ble_eq_true rfl) (by rw [hRf]; decide) (by rw [hRl]; decide) (by omega) (by omega) dL_law_2115 (fun r9 M1 H locs hq hw => ?_)
  obtain ⟨Ck_3, ⟨⟨zk_3, hrk_3⟩, Ak_3, dk_3, svk_3, hG, hCk_3, hdA⟩, hMk_3, hdB⟩ := hq
  subst hrk_3
  subst hCk_3
  subst hMk_3
  show W p l e R s m args below meth c H locs _ _ _ (F0 m 2118 ls [.int (iN (zk_3))])
  refine lv_istore (lv' := [(5, .int (iN (zk_3))), (0, .ref b), (1, .ref h0), (2, .ref a), (3, .ref o), (4, .int (iN (i)))]) hC.1 hC.2.1 dL_law_2118 hl (by decide) rfl (fun ls hl => ?_)
  refine lv_aload_n hC.1 hC.2.1 dL_law_2120 rfl (lv_at hl 3 rfl) ?_
  refine lv_aload_n hC.1 hC.2.1 dL_law_2121 rfl (lv_at hl 1 rfl) ?_
  refine lv_iload hC.1 hC.2.1 dL_law_2122 (lv_at hl 5 rfl) ?_
  refine x_const hC dL_law_2124 ?_
  refine x_iadd hC dL_law_2125 ?_
  refine x_sld hC hw hX hbl hbA (by omega) (by omega) (by omega) dL_law_2126 ?_
  obtain ⟨z_4, hz_4⟩ : ∃ z : Int, z = (xs (i + 1).toNat).toInt := ⟨_, rfl⟩
  rw [← hz_4]
  have hrz_4 : -2147483648 ≤ z_4 ∧ z_4 ≤ 2147483647 := by rw [hz_4]; exact iN_rng _
  refine lv_aload_n hC.1 hC.2.1 dL_law_2127 rfl (lv_at hl 1 rfl) ?_
  refine lv_iload hC.1 hC.2.1 dL_law_2128 (lv_at hl 5 rfl) ?_
  refine x_const hC dL_law_2130 ?_
  refine x_iadd hC dL_law_2131 ?_
  refine x_sld hC hw hX hbl hbA (by omega) (by omega) (by omega) dL_law_2132 ?_
  obtain ⟨z_5, hz_5⟩ : ∃ z : Int, z = (xs (i + 2).toNat).toInt := ⟨_, rfl⟩
  rw [← hz_5]
  have hrz_5 : -2147483648 ≤ z_5 ∧ z_5 ≤ 2147483647 := by rw [hz_5]; exact iN_rng _
  rw [xU_comm hdB] at hw
  obtain ⟨va, oa, wa, ya, wk, th, br, re, la, ha, kp, kv, qv, qw, fa, fb, fvv, fw, fo, fy, hR⟩ := hm
  refine x_callV hC hw (lv_size hl) ((c_X5_ofBook l G hR (p0 := z_4) (by omega) (p1 := z_5) (by omega)).frame hdB.symm) gL_law_X5_ofBook rfl dv_X5_ofBook (xU_l hR.1.1) rfl rfl (Nat.le_of_ble_eq_true rfl) (by rw [hRf]; decide) (by rw [hRl]; decide) (by omega) (by omega) dL_law_2133 (fun r9 M1 H locs hq hw => ?_)
  obtain ⟨Bk_6, ⟨zk_6, hrk_6, hzk_6, hm⟩, hMk_6, hdB9⟩ := hq
  subst hrk_6
  subst hMk_6
  have hdB := hdB9.symm
  rw [xU_comm hdB9] at hw
  show W p l e R s m args below meth c H locs _ _ _ (F0 m 2136 ls [.int (iN (zk_6))])
  refine lv_istore (lv' := [(6, .int (iN (zk_6))), (5, .int (iN (zk_3))), (0, .ref b), (1, .ref h0), (2, .ref a), (3, .ref o), (4, .int (iN (i)))]) hC.1 hC.2.1 dL_law_2136 hl (by decide) rfl (fun ls hl => ?_)
  refine lv_goto (tgt := 2555) hC.1 hC.2.1 dL_law_2138 (by decide) ?_
  refine W.widen (k := cu + 3) (n := su + (17)) (by omega) (by omega) ?_
  exact kk _ _ _ _ rf S hw ⟨_, _, _, _, rfl, hG, hm, hdA, hdB⟩ (lv_sub hl [2, 3, 4, 5, 6] rfl) (Nat.le_refl _)
set_option maxHeartbeats 8000000 in
set_option maxRecDepth 100000 in
theorem k_41 {p : Program} {l : Launch} {e : Env} {R : Room} {s : State} {m : MethodId} {args : Array Value} {below : List Frame} {meth : Method} {c : Code} {Q : State → Prop} {G : xG} {b L : Nat} {xs : Nat → Int32} {nm : String} (hst : l.stackTraces = false) (hRf : R.frames = 2048) {C9 S9 : Nat} (hRc : R.cells = C9) (hRs : R.slots = S9) (hC9 : 600000 ≤ C9) (hS9 : 7060000 ≤ S9) (hRl : R.locals = 84000) (hC : xB p s m args meth c cL_law 7 "RangeledgerLaw" nm wsL_law (some .boolean) G (xA (fun _ => none) s.heap.size)) (hX : va_X b L xs s s.heap) (hbl : b < s.heap.size) (hL : L ≤ 3072) {h0 a o : Nat} {rf : Int32} {S : Nat → Bool} {M : HM} {H : Heap} {locs : List Loc} {ls : Array Slot} {i : Int} {cu su : Nat} (hw : xD G (xA (fun _ => none) s.heap.size) s M H locs) (hS : LwS G M h0 a o rf S) (hl : lv_has ls 7 [(0, .ref b), (1, .ref h0), (2, .ref a), (3, .ref o), (4, .int (iN (i)))]) (hi : 0 ≤ i ∧ i + 6 ≤ L) (hcu : cu + 1000 ≤ C9) (hsu : su + 15590 ≤ S9) (kk : ∀ (M1 : HM) (H1 : Heap) (locs1 : List Loc) (ls1 : Array Slot) (rf1 : Int32) (S1 : Nat → Bool), xD G (xA (fun _ => none) s.heap.size) s M1 H1 locs1 → LwS G M1 h0 a o rf1 S1 → lv_has ls1 7 [(0, .ref b), (1, .ref h0), (2, .ref a), (3, .ref o), (4, .int (iN (i)))] → mC S1 100 ≤ mC S 100 + 0 → W p l e R s m args below meth c H1 locs1 (cu + 4) (su + (23)) Q (F0 m 2555 ls1 [])) : W p l e R s m args below meth c H locs cu su Q (F0 m 2141 ls []) := by
  obtain ⟨A, B, d, sv, hM, hG, hm, hdA, hdB⟩ := hS
  subst hM
  have hbA : ¬ (xA (fun _ => none) s.heap.size) b := fun h9 => h9.elim (fun h8 => h8 rfl) (fun h8 => by omega)
  refine lv_aload_n hC.1 hC.2.1 dL_law_2141 rfl (lv_at hl 1 rfl) ?_
  refine lv_aload_n hC.1 hC.2.1 dL_law_2142 rfl (lv_at hl 0 rfl) ?_
  refine lv_iload hC.1 hC.2.1 dL_law_2143 (lv_at hl 4 rfl) ?_
  refine x_const hC dL_law_2145 ?_
  refine x_iadd hC dL_law_2146 ?_
  refine x_sld hC hw hX hbl hbA (by omega) (by omega) (by omega) dL_law_2147 ?_
  obtain ⟨z_1, hz_1⟩ : ∃ z : Int, z = (xs (i + 1).toNat).toInt := ⟨_, rfl⟩
  rw [← hz_1]
  have hrz_1 : -2147483648 ≤ z_1 ∧ z_1 ≤ 2147483647 := by rw [hz_1]; exact iN_rng _
  refine lv_aload_n hC.1 hC.2.1 dL_law_2148 rfl (lv_at hl 0 rfl) ?_
  refine lv_iload hC.1 hC.2.1 dL_law_2149 (lv_at hl 4 rfl) ?_
  refine x_const hC dL_law_2151 ?_
  refine x_iadd hC dL_law_2152 ?_
  refine x_sld hC hw hX hbl hbA (by omega) (by omega) (by omega) dL_law_2153 ?_
  obtain ⟨z_2, hz_2⟩ : ∃ z : Int, z = (xs (i + 2).toNat).toInt := ⟨_, rfl⟩
  rw [← hz_2]
  have hrz_2 : -2147483648 ≤ z_2 ∧ z_2 ≤ 2147483647 := by rw [hz_2]; exact iN_rng _
  refine lv_aload_n hC.1 hC.2.1 dL_law_2154 rfl (lv_at hl 0 rfl) ?_
  refine lv_iload hC.1 hC.2.1 dL_law_2155 (lv_at hl 4 rfl) ?_
  refine x_const hC dL_law_2157 ?_
  refine x_iadd hC dL_law_2158 ?_
  refine x_sld hC hw hX hbl hbA (by omega) (by omega) (by omega) dL_law_2159 ?_
  obtain ⟨z_3, hz_3⟩ : ∃ z : Int, z = (xs (i + 3).toNat).toInt := ⟨_, rfl⟩
  rw [← hz_3]
  have hrz_3 : -2147483648 ≤ z_3 ∧ z_3 ≤ 2147483647 := by rw [hz_3]; exact iN_rng _
  refine lv_aload_n hC.1 hC.2.1 dL_law_2160 rfl (lv_at hl 3 rfl) ?_
  refine x_callSW hC hw (lv_size hl) ((c_L_near l G hst hG hdA (p0 := z_1) (by omega) (p1 := z_2) (by omega) (p2 := z_3) (by omega)).frame hdB) gL_law_L_near rfl dv_L_near_s rfl (Nat.le_of_ble_eq_true rfl) (by rw [hRf]; decide) (by rw [hRl]; decide) (by omega) (by omega) dL_law_2161 (fun r9 M1 H locs hq hw => ?_)
  obtain ⟨Ck_4, ⟨⟨zk_4, hrk_4⟩, Ak_4, dk_4, svk_4, hG, hCk_4, hdA⟩, hMk_4, hdB⟩ := hq
  subst hrk_4
  subst hCk_4
  subst hMk_4
  show W p l e R s m args below meth c H locs _ _ _ (F0 m 2164 ls [.int (iN (zk_4))])
  refine lv_istore (lv' := [(5, .int (iN (zk_4))), (0, .ref b), (1, .ref h0), (2, .ref a), (3, .ref o), (4, .int (iN (i)))]) hC.1 hC.2.1 dL_law_2164 hl (by decide) rfl (fun ls hl => ?_)
  refine lv_aload_n hC.1 hC.2.1 dL_law_2166 rfl (lv_at hl 3 rfl) ?_
  refine lv_aload_n hC.1 hC.2.1 dL_law_2167 rfl (lv_at hl 1 rfl) ?_
  refine lv_iload hC.1 hC.2.1 dL_law_2168 (lv_at hl 5 rfl) ?_
  refine x_const hC dL_law_2170 ?_
  refine x_iadd hC dL_law_2171 ?_
  refine x_sld hC hw hX hbl hbA (by omega) (by omega) (by omega) dL_law_2172 ?_
  obtain ⟨z_5, hz_5⟩ : ∃ z : Int, z = (xs (i + 1).toNat).toInt := ⟨_, rfl⟩
  rw [← hz_5]
  have hrz_5 : -2147483648 ≤ z_5 ∧ z_5 ≤ 2147483647 := by rw [hz_5]; exact iN_rng _
  refine lv_aload_n hC.1 hC.2.1 dL_law_2173 rfl (lv_at hl 1 rfl) ?_
  refine lv_iload hC.1 hC.2.1 dL_law_2174 (lv_at hl 5 rfl) ?_
  refine x_const hC dL_law_2176 ?_
  refine x_iadd hC dL_law_2177 ?_
  refine x_sld hC hw hX hbl hbA (by omega) (by omega) (by omega) dL_law_2178 ?_
  obtain ⟨z_6, hz_6⟩ : ∃ z : Int, z = (xs (i + 2).toNat).toInt := ⟨_, rfl⟩
  rw [← hz_6]
  have hrz_6 : -2147483648 ≤ z_6 ∧ z_6 ≤ 2147483647 := by rw [hz_6]; exact iN_rng _
  refine lv_aload_n hC.1 hC.2.1 dL_law_2179 rfl (lv_at hl 1 rfl) ?_
  refine lv_iload hC.1 hC.2.1 dL_law_2180 (lv_at hl 5 rfl) ?_
  refine x_const hC dL_law_2182 ?_
  refine x_iadd hC dL_law_2183 ?_
  refine x_sld hC hw hX hbl hbA (by omega) (by omega) (by omega) dL_law_2184 ?_
  obtain ⟨z_7, hz_7⟩ : ∃ z : Int, z = (xs (i + 3).toNat).toInt := ⟨_, rfl⟩
  rw [← hz_7]
  have hrz_7 : -2147483648 ≤ z_7 ∧ z_7 ≤ 2147483647 := by rw [hz_7]; exact iN_rng _
  rw [xU_comm hdB] at hw
  obtain ⟨va, oa, wa, ya, wk, th, br, re, la, ha, kp, kv, qv, qw, fa, fb, fvv, fw, fo, fy, hR⟩ := hm
  refine x_callV hC hw (lv_size hl) ((c_X5_near l G hR (p0 := z_5) (by omega) (p1 := z_6) (by omega) (p2 := z_7) (by omega)).frame hdB.symm) gL_law_X5_near rfl dv_X5_near (xU_l hR.1.1) rfl rfl (Nat.le_of_ble_eq_true rfl) (by rw [hRf]; decide) (by rw [hRl]; decide) (by omega) (by omega) dL_law_2185 (fun r9 M1 H locs hq hw => ?_)
  obtain ⟨Bk_8, ⟨zk_8, hrk_8, hzk_8, hm⟩, hMk_8, hdB9⟩ := hq
  subst hrk_8
  subst hMk_8
  have hdB := hdB9.symm
  rw [xU_comm hdB9] at hw
  show W p l e R s m args below meth c H locs _ _ _ (F0 m 2188 ls [.int (iN (zk_8))])
  refine lv_istore (lv' := [(6, .int (iN (zk_8))), (5, .int (iN (zk_4))), (0, .ref b), (1, .ref h0), (2, .ref a), (3, .ref o), (4, .int (iN (i)))]) hC.1 hC.2.1 dL_law_2188 hl (by decide) rfl (fun ls hl => ?_)
  refine lv_goto (tgt := 2555) hC.1 hC.2.1 dL_law_2190 (by decide) ?_
  refine W.widen (k := cu + 4) (n := su + (23)) (by omega) (by omega) ?_
  exact kk _ _ _ _ rf S hw ⟨_, _, _, _, rfl, hG, hm, hdA, hdB⟩ (lv_sub hl [2, 3, 4, 5, 6] rfl) (Nat.le_refl _)
set_option maxHeartbeats 8000000 in
set_option maxRecDepth 100000 in
theorem k_42 {p : Program} {l : Launch} {e : Env} {R : Room} {s : State} {m : MethodId} {args : Array Value} {below : List Frame} {meth : Method} {c : Code} {Q : State → Prop} {G : xG} {b L : Nat} {xs : Nat → Int32} {nm : String} (hst : l.stackTraces = false) (hRf : R.frames = 2048) {C9 S9 : Nat} (hRc : R.cells = C9) (hRs : R.slots = S9) (hC9 : 600000 ≤ C9) (hS9 : 7060000 ≤ S9) (hRl : R.locals = 84000) (hC : xB p s m args meth c cL_law 7 "RangeledgerLaw" nm wsL_law (some .boolean) G (xA (fun _ => none) s.heap.size)) (hX : va_X b L xs s s.heap) (hbl : b < s.heap.size) (hL : L ≤ 3072) {h0 a o : Nat} {rf : Int32} {S : Nat → Bool} {M : HM} {H : Heap} {locs : List Loc} {ls : Array Slot} {i : Int} {cu su : Nat} (hw : xD G (xA (fun _ => none) s.heap.size) s M H locs) (hS : LwS G M h0 a o rf S) (hl : lv_has ls 7 [(0, .ref b), (1, .ref h0), (2, .ref a), (3, .ref o), (4, .int (iN (i)))]) (hi : 0 ≤ i ∧ i + 6 ≤ L) (hcu : cu + 1000 ≤ C9) (hsu : su + 15590 ≤ S9) (kk : ∀ (M1 : HM) (H1 : Heap) (locs1 : List Loc) (ls1 : Array Slot) (rf1 : Int32) (S1 : Nat → Bool), xD G (xA (fun _ => none) s.heap.size) s M1 H1 locs1 → LwS G M1 h0 a o rf1 S1 → lv_has ls1 7 [(0, .ref b), (1, .ref h0), (2, .ref a), (3, .ref o), (4, .int (iN (i)))] → mC S1 100 ≤ mC S 100 + 0 → W p l e R s m args below meth c H1 locs1 (cu + 3) (su + (17)) Q (F0 m 2555 ls1 [])) : W p l e R s m args below meth c H locs cu su Q (F0 m 2193 ls []) := by
  obtain ⟨A, B, d, sv, hM, hG, hm, hdA, hdB⟩ := hS
  subst hM
  have hbA : ¬ (xA (fun _ => none) s.heap.size) b := fun h9 => h9.elim (fun h8 => h8 rfl) (fun h8 => by omega)
  refine lv_aload_n hC.1 hC.2.1 dL_law_2193 rfl (lv_at hl 1 rfl) ?_
  refine lv_aload_n hC.1 hC.2.1 dL_law_2194 rfl (lv_at hl 0 rfl) ?_
  refine lv_iload hC.1 hC.2.1 dL_law_2195 (lv_at hl 4 rfl) ?_
  refine x_const hC dL_law_2197 ?_
  refine x_iadd hC dL_law_2198 ?_
  refine x_sld hC hw hX hbl hbA (by omega) (by omega) (by omega) dL_law_2199 ?_
  obtain ⟨z_1, hz_1⟩ : ∃ z : Int, z = (xs (i + 1).toNat).toInt := ⟨_, rfl⟩
  rw [← hz_1]
  have hrz_1 : -2147483648 ≤ z_1 ∧ z_1 ≤ 2147483647 := by rw [hz_1]; exact iN_rng _
  refine lv_aload_n hC.1 hC.2.1 dL_law_2200 rfl (lv_at hl 0 rfl) ?_
  refine lv_iload hC.1 hC.2.1 dL_law_2201 (lv_at hl 4 rfl) ?_
  refine x_const hC dL_law_2203 ?_
  refine x_iadd hC dL_law_2204 ?_
  refine x_sld hC hw hX hbl hbA (by omega) (by omega) (by omega) dL_law_2205 ?_
  obtain ⟨z_2, hz_2⟩ : ∃ z : Int, z = (xs (i + 2).toNat).toInt := ⟨_, rfl⟩
  rw [← hz_2]
  have hrz_2 : -2147483648 ≤ z_2 ∧ z_2 ≤ 2147483647 := by rw [hz_2]; exact iN_rng _
  refine lv_aload_n hC.1 hC.2.1 dL_law_2206 rfl (lv_at hl 3 rfl) ?_
  refine x_callSW hC hw (lv_size hl) ((c_L_place l G hst hG hdA (p0 := z_1) (by omega) (p1 := z_2) (by omega)).frame hdB) gL_law_L_place rfl dv_L_place_s rfl (Nat.le_of_ble_eq_true rfl) (by rw [hRf]; decide) (by rw [hRl]; decide) (by omega) (by omega) dL_law_2207 (fun r9 M1 H locs hq hw => ?_)
  obtain ⟨Ck_3, ⟨⟨zk_3, hrk_3⟩, Ak_3, dk_3, svk_3, hG, hCk_3, hdA⟩, hMk_3, hdB⟩ := hq
  subst hrk_3
  subst hCk_3
  subst hMk_3
  show W p l e R s m args below meth c H locs _ _ _ (F0 m 2210 ls [.int (iN (zk_3))])
  refine lv_istore (lv' := [(5, .int (iN (zk_3))), (0, .ref b), (1, .ref h0), (2, .ref a), (3, .ref o), (4, .int (iN (i)))]) hC.1 hC.2.1 dL_law_2210 hl (by decide) rfl (fun ls hl => ?_)
  refine lv_aload_n hC.1 hC.2.1 dL_law_2212 rfl (lv_at hl 3 rfl) ?_
  refine lv_aload_n hC.1 hC.2.1 dL_law_2213 rfl (lv_at hl 1 rfl) ?_
  refine lv_iload hC.1 hC.2.1 dL_law_2214 (lv_at hl 5 rfl) ?_
  refine x_const hC dL_law_2216 ?_
  refine x_iadd hC dL_law_2217 ?_
  refine x_sld hC hw hX hbl hbA (by omega) (by omega) (by omega) dL_law_2218 ?_
  obtain ⟨z_4, hz_4⟩ : ∃ z : Int, z = (xs (i + 1).toNat).toInt := ⟨_, rfl⟩
  rw [← hz_4]
  have hrz_4 : -2147483648 ≤ z_4 ∧ z_4 ≤ 2147483647 := by rw [hz_4]; exact iN_rng _
  refine lv_aload_n hC.1 hC.2.1 dL_law_2219 rfl (lv_at hl 1 rfl) ?_
  refine lv_iload hC.1 hC.2.1 dL_law_2220 (lv_at hl 5 rfl) ?_
  refine x_const hC dL_law_2222 ?_
  refine x_iadd hC dL_law_2223 ?_
  refine x_sld hC hw hX hbl hbA (by omega) (by omega) (by omega) dL_law_2224 ?_
  obtain ⟨z_5, hz_5⟩ : ∃ z : Int, z = (xs (i + 2).toNat).toInt := ⟨_, rfl⟩
  rw [← hz_5]
  have hrz_5 : -2147483648 ≤ z_5 ∧ z_5 ≤ 2147483647 := by rw [hz_5]; exact iN_rng _
  rw [xU_comm hdB] at hw
  obtain ⟨va, oa, wa, ya, wk, th, br, re, la, ha, kp, kv, qv, qw, fa, fb, fvv, fw, fo, fy, hR⟩ := hm
  refine x_callV hC hw (lv_size hl) ((c_X5_place l G hR (p0 := z_4) (by omega) (p1 := z_5) (by omega)).frame hdB.symm) gL_law_X5_place rfl dv_X5_place (xU_l hR.1.1) rfl rfl (Nat.le_of_ble_eq_true rfl) (by rw [hRf]; decide) (by rw [hRl]; decide) (by omega) (by omega) dL_law_2225 (fun r9 M1 H locs hq hw => ?_)
  obtain ⟨Bk_6, ⟨zk_6, hrk_6, hzk_6, hm⟩, hMk_6, hdB9⟩ := hq
  subst hrk_6
  subst hMk_6
  have hdB := hdB9.symm
  rw [xU_comm hdB9] at hw
  show W p l e R s m args below meth c H locs _ _ _ (F0 m 2228 ls [.int (iN (zk_6))])
  refine lv_istore (lv' := [(6, .int (iN (zk_6))), (5, .int (iN (zk_3))), (0, .ref b), (1, .ref h0), (2, .ref a), (3, .ref o), (4, .int (iN (i)))]) hC.1 hC.2.1 dL_law_2228 hl (by decide) rfl (fun ls hl => ?_)
  refine lv_goto (tgt := 2555) hC.1 hC.2.1 dL_law_2230 (by decide) ?_
  refine W.widen (k := cu + 3) (n := su + (17)) (by omega) (by omega) ?_
  exact kk _ _ _ _ rf S hw ⟨_, _, _, _, rfl, hG, hm, hdA, hdB⟩ (lv_sub hl [2, 3, 4, 5, 6] rfl) (Nat.le_refl _)
set_option maxHeartbeats 8000000 in
set_option maxRecDepth 100000 in
theorem k_43 {p : Program} {l : Launch} {e : Env} {R : Room} {s : State} {m : MethodId} {args : Array Value} {below : List Frame} {meth : Method} {c : Code} {Q : State → Prop} {G : xG} {b L : Nat} {xs : Nat → Int32} {nm : String} (hst : l.stackTraces = false) (hRf : R.frames = 2048) {C9 S9 : Nat} (hRc : R.cells = C9) (hRs : R.slots = S9) (hC9 : 600000 ≤ C9) (hS9 : 7060000 ≤ S9) (hRl : R.locals = 84000) (hC : xB p s m args meth c cL_law 7 "RangeledgerLaw" nm wsL_law (some .boolean) G (xA (fun _ => none) s.heap.size)) (hX : va_X b L xs s s.heap) (hbl : b < s.heap.size) (hL : L ≤ 3072) {h0 a o : Nat} {rf : Int32} {S : Nat → Bool} {M : HM} {H : Heap} {locs : List Loc} {ls : Array Slot} {i : Int} {cu su : Nat} (hw : xD G (xA (fun _ => none) s.heap.size) s M H locs) (hS : LwS G M h0 a o rf S) (hl : lv_has ls 7 [(0, .ref b), (1, .ref h0), (2, .ref a), (3, .ref o), (4, .int (iN (i)))]) (hi : 0 ≤ i ∧ i + 6 ≤ L) (hcu : cu + 1000 ≤ C9) (hsu : su + 15590 ≤ S9) (kk : ∀ (M1 : HM) (H1 : Heap) (locs1 : List Loc) (ls1 : Array Slot) (rf1 : Int32) (S1 : Nat → Bool), xD G (xA (fun _ => none) s.heap.size) s M1 H1 locs1 → LwS G M1 h0 a o rf1 S1 → lv_has ls1 7 [(0, .ref b), (1, .ref h0), (2, .ref a), (3, .ref o), (4, .int (iN (i)))] → mC S1 100 ≤ mC S 100 + 0 → W p l e R s m args below meth c H1 locs1 (cu + 102) (su + (512)) Q (F0 m 2555 ls1 [])) : W p l e R s m args below meth c H locs cu su Q (F0 m 2233 ls []) := by
  obtain ⟨A, B, d, sv, hM, hG, hm, hdA, hdB⟩ := hS
  subst hM
  have hbA : ¬ (xA (fun _ => none) s.heap.size) b := fun h9 => h9.elim (fun h8 => h8 rfl) (fun h8 => by omega)
  refine lv_aload_n hC.1 hC.2.1 dL_law_2233 rfl (lv_at hl 1 rfl) ?_
  refine lv_aload_n hC.1 hC.2.1 dL_law_2234 rfl (lv_at hl 0 rfl) ?_
  refine lv_iload hC.1 hC.2.1 dL_law_2235 (lv_at hl 4 rfl) ?_
  refine x_const hC dL_law_2237 ?_
  refine x_iadd hC dL_law_2238 ?_
  refine x_sld hC hw hX hbl hbA (by omega) (by omega) (by omega) dL_law_2239 ?_
  obtain ⟨z_1, hz_1⟩ : ∃ z : Int, z = (xs (i + 1).toNat).toInt := ⟨_, rfl⟩
  rw [← hz_1]
  have hrz_1 : -2147483648 ≤ z_1 ∧ z_1 ≤ 2147483647 := by rw [hz_1]; exact iN_rng _
  refine lv_aload_n hC.1 hC.2.1 dL_law_2240 rfl (lv_at hl 0 rfl) ?_
  refine lv_iload hC.1 hC.2.1 dL_law_2241 (lv_at hl 4 rfl) ?_
  refine x_const hC dL_law_2243 ?_
  refine x_iadd hC dL_law_2244 ?_
  refine x_sld hC hw hX hbl hbA (by omega) (by omega) (by omega) dL_law_2245 ?_
  obtain ⟨z_2, hz_2⟩ : ∃ z : Int, z = (xs (i + 2).toNat).toInt := ⟨_, rfl⟩
  rw [← hz_2]
  have hrz_2 : -2147483648 ≤ z_2 ∧ z_2 ≤ 2147483647 := by rw [hz_2]; exact iN_rng _
  refine lv_aload_n hC.1 hC.2.1 dL_law_2246 rfl (lv_at hl 3 rfl) ?_
  refine x_callSW hC hw (lv_size hl) ((c_L_at l G hst hG hdA (p0 := z_1) (by omega) (p1 := z_2) (by omega)).frame hdB) gL_law_L_at rfl dv_L_at_s rfl (Nat.le_of_ble_eq_true rfl) (by rw [hRf]; decide) (by rw [hRl]; decide) (by omega) (by omega) dL_law_2247 (fun r9 M1 H locs hq hw => ?_)
  obtain ⟨Ck_3, ⟨⟨zk_3, hrk_3⟩, Ak_3, dk_3, svk_3, hG, hCk_3, hdA⟩, hMk_3, hdB⟩ := hq
  subst hrk_3
  subst hCk_3
  subst hMk_3
  show W p l e R s m args below meth c H locs _ _ _ (F0 m 2250 ls [.int (iN (zk_3))])
  refine lv_istore (lv' := [(5, .int (iN (zk_3))), (0, .ref b), (1, .ref h0), (2, .ref a), (3, .ref o), (4, .int (iN (i)))]) hC.1 hC.2.1 dL_law_2250 hl (by decide) rfl (fun ls hl => ?_)
  refine lv_aload_n hC.1 hC.2.1 dL_law_2252 rfl (lv_at hl 3 rfl) ?_
  refine lv_aload_n hC.1 hC.2.1 dL_law_2253 rfl (lv_at hl 1 rfl) ?_
  refine lv_iload hC.1 hC.2.1 dL_law_2254 (lv_at hl 5 rfl) ?_
  refine x_const hC dL_law_2256 ?_
  refine x_iadd hC dL_law_2257 ?_
  refine x_sld hC hw hX hbl hbA (by omega) (by omega) (by omega) dL_law_2258 ?_
  obtain ⟨z_4, hz_4⟩ : ∃ z : Int, z = (xs (i + 1).toNat).toInt := ⟨_, rfl⟩
  rw [← hz_4]
  have hrz_4 : -2147483648 ≤ z_4 ∧ z_4 ≤ 2147483647 := by rw [hz_4]; exact iN_rng _
  refine lv_aload_n hC.1 hC.2.1 dL_law_2259 rfl (lv_at hl 1 rfl) ?_
  refine lv_iload hC.1 hC.2.1 dL_law_2260 (lv_at hl 5 rfl) ?_
  refine x_const hC dL_law_2262 ?_
  refine x_iadd hC dL_law_2263 ?_
  refine x_sld hC hw hX hbl hbA (by omega) (by omega) (by omega) dL_law_2264 ?_
  obtain ⟨z_5, hz_5⟩ : ∃ z : Int, z = (xs (i + 2).toNat).toInt := ⟨_, rfl⟩
  rw [← hz_5]
  have hrz_5 : -2147483648 ≤ z_5 ∧ z_5 ≤ 2147483647 := by rw [hz_5]; exact iN_rng _
  rw [xU_comm hdB] at hw
  obtain ⟨va, oa, wa, ya, wk, th, br, re, la, ha, kp, kv, qv, qw, fa, fb, fvv, fw, fo, fy, hR⟩ := hm
  refine x_callV hC hw (lv_size hl) ((c_X5_at l G hR (p0 := z_4) (by omega) (p1 := z_5) (by omega)).frame hdB.symm) gL_law_X5_at rfl dv_X5_at (xU_l hR.1.1) rfl rfl (Nat.le_of_ble_eq_true rfl) (by rw [hRf]; decide) (by rw [hRl]; decide) (by omega) (by omega) dL_law_2265 (fun r9 M1 H locs hq hw => ?_)
  obtain ⟨Bk_6, ⟨zk_6, hrk_6, hzk_6, hm⟩, hMk_6, hdB9⟩ := hq
  subst hrk_6
  subst hMk_6
  have hdB := hdB9.symm
  rw [xU_comm hdB9] at hw
  show W p l e R s m args below meth c H locs _ _ _ (F0 m 2268 ls [.int (iN (zk_6))])
  refine lv_istore (lv' := [(6, .int (iN (zk_6))), (5, .int (iN (zk_3))), (0, .ref b), (1, .ref h0), (2, .ref a), (3, .ref o), (4, .int (iN (i)))]) hC.1 hC.2.1 dL_law_2268 hl (by decide) rfl (fun ls hl => ?_)
  refine lv_goto (tgt := 2555) hC.1 hC.2.1 dL_law_2270 (by decide) ?_
  refine W.widen (k := cu + 102) (n := su + (512)) (by omega) (by omega) ?_
  exact kk _ _ _ _ rf S hw ⟨_, _, _, _, rfl, hG, hm, hdA, hdB⟩ (lv_sub hl [2, 3, 4, 5, 6] rfl) (Nat.le_refl _)
set_option maxHeartbeats 8000000 in
set_option maxRecDepth 100000 in
theorem k_44 {p : Program} {l : Launch} {e : Env} {R : Room} {s : State} {m : MethodId} {args : Array Value} {below : List Frame} {meth : Method} {c : Code} {Q : State → Prop} {G : xG} {b L : Nat} {xs : Nat → Int32} {nm : String} (hst : l.stackTraces = false) (hRf : R.frames = 2048) {C9 S9 : Nat} (hRc : R.cells = C9) (hRs : R.slots = S9) (hC9 : 600000 ≤ C9) (hS9 : 7060000 ≤ S9) (hRl : R.locals = 84000) (hC : xB p s m args meth c cL_law 7 "RangeledgerLaw" nm wsL_law (some .boolean) G (xA (fun _ => none) s.heap.size)) (hX : va_X b L xs s s.heap) (hbl : b < s.heap.size) (hL : L ≤ 3072) {h0 a o : Nat} {rf : Int32} {S : Nat → Bool} {M : HM} {H : Heap} {locs : List Loc} {ls : Array Slot} {i : Int} {cu su : Nat} (hw : xD G (xA (fun _ => none) s.heap.size) s M H locs) (hS : LwS G M h0 a o rf S) (hl : lv_has ls 7 [(0, .ref b), (1, .ref h0), (2, .ref a), (3, .ref o), (4, .int (iN (i)))]) (hi : 0 ≤ i ∧ i + 6 ≤ L) (hcu : cu + 1000 ≤ C9) (hsu : su + 15590 ≤ S9) {K Tm : Nat} (hK : mC S 100 ≤ K) (hT : (K = 60 ∧ Tm = 1800) ∨ (K = 100 ∧ Tm = 3410)) (kk : ∀ (M1 : HM) (H1 : Heap) (locs1 : List Loc) (ls1 : Array Slot) (rf1 : Int32) (S1 : Nat → Bool), xD G (xA (fun _ => none) s.heap.size) s M1 H1 locs1 → LwS G M1 h0 a o rf1 S1 → lv_has ls1 7 [(0, .ref b), (1, .ref h0), (2, .ref a), (3, .ref o), (4, .int (iN (i)))] → mC S1 100 ≤ mC S 100 + 0 → W p l e R s m args below meth c H1 locs1 (cu + 31) (su + (11706 + (Tm + 20))) Q (F0 m 2555 ls1 [])) : W p l e R s m args below meth c H locs cu su Q (F0 m 2273 ls []) := by
  obtain ⟨A, B, d, sv, hM, hG, hm, hdA, hdB⟩ := hS
  subst hM
  have hbA : ¬ (xA (fun _ => none) s.heap.size) b := fun h9 => h9.elim (fun h8 => h8 rfl) (fun h8 => by omega)
  refine lv_aload_n hC.1 hC.2.1 dL_law_2273 rfl (lv_at hl 1 rfl) ?_
  refine lv_aload_n hC.1 hC.2.1 dL_law_2274 rfl (lv_at hl 0 rfl) ?_
  refine lv_iload hC.1 hC.2.1 dL_law_2275 (lv_at hl 4 rfl) ?_
  refine x_const hC dL_law_2277 ?_
  refine x_iadd hC dL_law_2278 ?_
  refine x_sld hC hw hX hbl hbA (by omega) (by omega) (by omega) dL_law_2279 ?_
  obtain ⟨z_1, hz_1⟩ : ∃ z : Int, z = (xs (i + 1).toNat).toInt := ⟨_, rfl⟩
  rw [← hz_1]
  have hrz_1 : -2147483648 ≤ z_1 ∧ z_1 ≤ 2147483647 := by rw [hz_1]; exact iN_rng _
  refine lv_aload_n hC.1 hC.2.1 dL_law_2280 rfl (lv_at hl 3 rfl) ?_
  refine x_callSW hC hw (lv_size hl) ((c_L_row l G hst hG hdA (p0 := z_1) (by omega)).frame hdB) gL_law_L_row rfl dv_L_row_s rfl (Nat.le_of_ble_eq_true rfl) (by rw [hRf]; decide) (by rw [hRl]; decide) (by omega) (by omega) dL_law_2281 (fun r9 M1 H locs hq hw => ?_)
  obtain ⟨Ck_2, ⟨⟨zk_2, hrk_2⟩, Ak_2, dk_2, svk_2, hG, hCk_2, hdA⟩, hMk_2, hdB⟩ := hq
  subst hrk_2
  subst hCk_2
  subst hMk_2
  show W p l e R s m args below meth c H locs _ _ _ (F0 m 2284 ls [.int (iN (zk_2))])
  refine lv_istore (lv' := [(5, .int (iN (zk_2))), (0, .ref b), (1, .ref h0), (2, .ref a), (3, .ref o), (4, .int (iN (i)))]) hC.1 hC.2.1 dL_law_2284 hl (by decide) rfl (fun ls hl => ?_)
  refine lv_aload_n hC.1 hC.2.1 dL_law_2286 rfl (lv_at hl 3 rfl) ?_
  refine lv_aload_n hC.1 hC.2.1 dL_law_2287 rfl (lv_at hl 1 rfl) ?_
  refine lv_iload hC.1 hC.2.1 dL_law_2288 (lv_at hl 5 rfl) ?_
  refine x_const hC dL_law_2290 ?_
  refine x_iadd hC dL_law_2291 ?_
  refine x_sld hC hw hX hbl hbA (by omega) (by omega) (by omega) dL_law_2292 ?_
  obtain ⟨z_3, hz_3⟩ : ∃ z : Int, z = (xs (i + 1).toNat).toInt := ⟨_, rfl⟩
  rw [← hz_3]
  have hrz_3 : -2147483648 ≤ z_3 ∧ z_3 ≤ 2147483647 := by rw [hz_3]; exact iN_rng _
  rw [xU_comm hdB] at hw
  obtain ⟨va, oa, wa, ya, wk, th, br, re, la, ha, kp, kv, qv, qw, fa, fb, fvv, fw, fo, fy, hR⟩ := hm
  refine x_callV hC hw (lv_size hl) ((c_X5_row l G hR (K := K) (Tm := Tm) hK hT (p0 := z_3) (by omega)).frame hdB.symm) gL_law_X5_row rfl dv_X5_row (xU_l hR.1.1) rfl rfl (Nat.le_of_ble_eq_true rfl) (by rw [hRf]; decide) (by rw [hRl]; decide) (by omega) (by omega) dL_law_2293 (fun r9 M1 H locs hq hw => ?_)
  obtain ⟨Bk_4, ⟨qk_4, hrk_4, hm⟩, hMk_4, hdB9⟩ := hq
  subst hrk_4
  subst hMk_4
  have hdB := hdB9.symm
  rw [xU_comm hdB9] at hw
  show W p l e R s m args below meth c H locs _ _ _ (F0 m 2296 ls [.ref qk_4])
  refine lv_astore (lv' := [(6, .ref qk_4), (5, .int (iN (zk_2))), (0, .ref b), (1, .ref h0), (2, .ref a), (3, .ref o), (4, .int (iN (i)))]) hC.1 hC.2.1 dL_law_2296 hl (by decide) rfl (fun ls hl => ?_)
  refine lv_goto (tgt := 2555) hC.1 hC.2.1 dL_law_2298 (by decide) ?_
  refine W.widen (k := cu + 31) (n := su + (11706 + (Tm + 20))) (by omega) (by omega) ?_
  exact kk _ _ _ _ rf S hw ⟨_, _, _, _, rfl, hG, hm, hdA, hdB⟩ (lv_sub hl [2, 3, 4, 5, 6] rfl) (Nat.le_refl _)
set_option maxHeartbeats 8000000 in
set_option maxRecDepth 100000 in
theorem k_45 {p : Program} {l : Launch} {e : Env} {R : Room} {s : State} {m : MethodId} {args : Array Value} {below : List Frame} {meth : Method} {c : Code} {Q : State → Prop} {G : xG} {b L : Nat} {xs : Nat → Int32} {nm : String} (hst : l.stackTraces = false) (hRf : R.frames = 2048) {C9 S9 : Nat} (hRc : R.cells = C9) (hRs : R.slots = S9) (hC9 : 600000 ≤ C9) (hS9 : 7060000 ≤ S9) (hRl : R.locals = 84000) (hC : xB p s m args meth c cL_law 7 "RangeledgerLaw" nm wsL_law (some .boolean) G (xA (fun _ => none) s.heap.size)) (hX : va_X b L xs s s.heap) (hbl : b < s.heap.size) (hL : L ≤ 3072) {h0 a o : Nat} {rf : Int32} {S : Nat → Bool} {M : HM} {H : Heap} {locs : List Loc} {ls : Array Slot} {i : Int} {cu su : Nat} (hw : xD G (xA (fun _ => none) s.heap.size) s M H locs) (hS : LwS G M h0 a o rf S) (hl : lv_has ls 7 [(0, .ref b), (1, .ref h0), (2, .ref a), (3, .ref o), (4, .int (iN (i)))]) (hi : 0 ≤ i ∧ i + 6 ≤ L) (hcu : cu + 1000 ≤ C9) (hsu : su + 15590 ≤ S9) (kk : ∀ (M1 : HM) (H1 : Heap) (locs1 : List Loc) (ls1 : Array Slot) (rf1 : Int32) (S1 : Nat → Bool), xD G (xA (fun _ => none) s.heap.size) s M1 H1 locs1 → LwS G M1 h0 a o rf1 S1 → lv_has ls1 7 [(0, .ref b), (1, .ref h0), (2, .ref a), (3, .ref o), (4, .int (iN (i)))] → mC S1 100 ≤ mC S 100 + 0 → W p l e R s m args below meth c H1 locs1 (cu + 2) (su + (12)) Q (F0 m 2555 ls1 [])) : W p l e R s m args below meth c H locs cu su Q (F0 m 2301 ls []) := by
  obtain ⟨A, B, d, sv, hM, hG, hm, hdA, hdB⟩ := hS
  subst hM
  have hbA : ¬ (xA (fun _ => none) s.heap.size) b := fun h9 => h9.elim (fun h8 => h8 rfl) (fun h8 => by omega)
  refine lv_aload_n hC.1 hC.2.1 dL_law_2301 rfl (lv_at hl 1 rfl) ?_
  refine lv_aload_n hC.1 hC.2.1 dL_law_2302 rfl (lv_at hl 0 rfl) ?_
  refine lv_iload hC.1 hC.2.1 dL_law_2303 (lv_at hl 4 rfl) ?_
  refine x_const hC dL_law_2305 ?_
  refine x_iadd hC dL_law_2306 ?_
  refine x_sld hC hw hX hbl hbA (by omega) (by omega) (by omega) dL_law_2307 ?_
  obtain ⟨z_1, hz_1⟩ : ∃ z : Int, z = (xs (i + 1).toNat).toInt := ⟨_, rfl⟩
  rw [← hz_1]
  have hrz_1 : -2147483648 ≤ z_1 ∧ z_1 ≤ 2147483647 := by rw [hz_1]; exact iN_rng _
  refine lv_aload_n hC.1 hC.2.1 dL_law_2308 rfl (lv_at hl 0 rfl) ?_
  refine lv_iload hC.1 hC.2.1 dL_law_2309 (lv_at hl 4 rfl) ?_
  refine x_const hC dL_law_2311 ?_
  refine x_iadd hC dL_law_2312 ?_
  refine x_sld hC hw hX hbl hbA (by omega) (by omega) (by omega) dL_law_2313 ?_
  obtain ⟨z_2, hz_2⟩ : ∃ z : Int, z = (xs (i + 2).toNat).toInt := ⟨_, rfl⟩
  rw [← hz_2]
  have hrz_2 : -2147483648 ≤ z_2 ∧ z_2 ≤ 2147483647 := by rw [hz_2]; exact iN_rng _
  refine lv_aload_n hC.1 hC.2.1 dL_law_2314 rfl (lv_at hl 3 rfl) ?_
  refine x_callSW hC hw (lv_size hl) ((c_L_same l G hst hG hdA (p0 := z_1) (by omega) (p1 := z_2) (by omega)).frame hdB) gL_law_L_same rfl dv_L_same_s rfl (Nat.le_of_ble_eq_true rfl) (by rw [hRf]; decide) (by rw [hRl]; decide) (by omega) (by omega) dL_law_2315 (fun r9 M1 H locs hq hw => ?_)
  obtain ⟨Ck_3, ⟨⟨zk_3, hrk_3⟩, Ak_3, dk_3, svk_3, hG, hCk_3, hdA⟩, hMk_3, hdB⟩ := hq
  subst hrk_3
  subst hCk_3
  subst hMk_3
  show W p l e R s m args below meth c H locs _ _ _ (F0 m 2318 ls [.int (iN (zk_3))])
  refine lv_istore (lv' := [(5, .int (iN (zk_3))), (0, .ref b), (1, .ref h0), (2, .ref a), (3, .ref o), (4, .int (iN (i)))]) hC.1 hC.2.1 dL_law_2318 hl (by decide) rfl (fun ls hl => ?_)
  refine lv_aload_n hC.1 hC.2.1 dL_law_2320 rfl (lv_at hl 3 rfl) ?_
  refine lv_aload_n hC.1 hC.2.1 dL_law_2321 rfl (lv_at hl 1 rfl) ?_
  refine lv_iload hC.1 hC.2.1 dL_law_2322 (lv_at hl 5 rfl) ?_
  refine x_const hC dL_law_2324 ?_
  refine x_iadd hC dL_law_2325 ?_
  refine x_sld hC hw hX hbl hbA (by omega) (by omega) (by omega) dL_law_2326 ?_
  obtain ⟨z_4, hz_4⟩ : ∃ z : Int, z = (xs (i + 1).toNat).toInt := ⟨_, rfl⟩
  rw [← hz_4]
  have hrz_4 : -2147483648 ≤ z_4 ∧ z_4 ≤ 2147483647 := by rw [hz_4]; exact iN_rng _
  refine lv_aload_n hC.1 hC.2.1 dL_law_2327 rfl (lv_at hl 1 rfl) ?_
  refine lv_iload hC.1 hC.2.1 dL_law_2328 (lv_at hl 5 rfl) ?_
  refine x_const hC dL_law_2330 ?_
  refine x_iadd hC dL_law_2331 ?_
  refine x_sld hC hw hX hbl hbA (by omega) (by omega) (by omega) dL_law_2332 ?_
  obtain ⟨z_5, hz_5⟩ : ∃ z : Int, z = (xs (i + 2).toNat).toInt := ⟨_, rfl⟩
  rw [← hz_5]
  have hrz_5 : -2147483648 ≤ z_5 ∧ z_5 ≤ 2147483647 := by rw [hz_5]; exact iN_rng _
  rw [xU_comm hdB] at hw
  obtain ⟨va, oa, wa, ya, wk, th, br, re, la, ha, kp, kv, qv, qw, fa, fb, fvv, fw, fo, fy, hR⟩ := hm
  refine x_callV hC hw (lv_size hl) ((c_X5_same l G hR (p0 := z_4) (by omega) (p1 := z_5) (by omega)).frame hdB.symm) gL_law_X5_same rfl dv_X5_same (xU_l hR.1.1) rfl rfl (Nat.le_of_ble_eq_true rfl) (by rw [hRf]; decide) (by rw [hRl]; decide) (by omega) (by omega) dL_law_2333 (fun r9 M1 H locs hq hw => ?_)
  obtain ⟨Bk_6, ⟨zk_6, hrk_6, hzk_6, hm⟩, hMk_6, hdB9⟩ := hq
  subst hrk_6
  subst hMk_6
  have hdB := hdB9.symm
  rw [xU_comm hdB9] at hw
  show W p l e R s m args below meth c H locs _ _ _ (F0 m 2336 ls [.int (iN (zk_6))])
  refine lv_istore (lv' := [(6, .int (iN (zk_6))), (5, .int (iN (zk_3))), (0, .ref b), (1, .ref h0), (2, .ref a), (3, .ref o), (4, .int (iN (i)))]) hC.1 hC.2.1 dL_law_2336 hl (by decide) rfl (fun ls hl => ?_)
  refine lv_goto (tgt := 2555) hC.1 hC.2.1 dL_law_2338 (by decide) ?_
  refine W.widen (k := cu + 2) (n := su + (12)) (by omega) (by omega) ?_
  exact kk _ _ _ _ rf S hw ⟨_, _, _, _, rfl, hG, hm, hdA, hdB⟩ (lv_sub hl [2, 3, 4, 5, 6] rfl) (Nat.le_refl _)
set_option maxHeartbeats 8000000 in
set_option maxRecDepth 100000 in
theorem k_46 {p : Program} {l : Launch} {e : Env} {R : Room} {s : State} {m : MethodId} {args : Array Value} {below : List Frame} {meth : Method} {c : Code} {Q : State → Prop} {G : xG} {b L : Nat} {xs : Nat → Int32} {nm : String} (hst : l.stackTraces = false) (hRf : R.frames = 2048) {C9 S9 : Nat} (hRc : R.cells = C9) (hRs : R.slots = S9) (hC9 : 600000 ≤ C9) (hS9 : 7060000 ≤ S9) (hRl : R.locals = 84000) (hC : xB p s m args meth c cL_law 7 "RangeledgerLaw" nm wsL_law (some .boolean) G (xA (fun _ => none) s.heap.size)) (hX : va_X b L xs s s.heap) (hbl : b < s.heap.size) (hL : L ≤ 3072) {h0 a o : Nat} {rf : Int32} {S : Nat → Bool} {M : HM} {H : Heap} {locs : List Loc} {ls : Array Slot} {i : Int} {cu su : Nat} (hw : xD G (xA (fun _ => none) s.heap.size) s M H locs) (hS : LwS G M h0 a o rf S) (hl : lv_has ls 7 [(0, .ref b), (1, .ref h0), (2, .ref a), (3, .ref o), (4, .int (iN (i)))]) (hi : 0 ≤ i ∧ i + 6 ≤ L) (hcu : cu + 1000 ≤ C9) (hsu : su + 15590 ≤ S9) (kk : ∀ (M1 : HM) (H1 : Heap) (locs1 : List Loc) (ls1 : Array Slot) (rf1 : Int32) (S1 : Nat → Bool), xD G (xA (fun _ => none) s.heap.size) s M1 H1 locs1 → LwS G M1 h0 a o rf1 S1 → lv_has ls1 7 [(0, .ref b), (1, .ref h0), (2, .ref a), (3, .ref o), (4, .int (iN (i)))] → mC S1 100 ≤ mC S 100 + 0 → W p l e R s m args below meth c H1 locs1 (cu + 2) (su + (12)) Q (F0 m 2555 ls1 [])) : W p l e R s m args below meth c H locs cu su Q (F0 m 2341 ls []) := by
  obtain ⟨A, B, d, sv, hM, hG, hm, hdA, hdB⟩ := hS
  subst hM
  have hbA : ¬ (xA (fun _ => none) s.heap.size) b := fun h9 => h9.elim (fun h8 => h8 rfl) (fun h8 => by omega)
  refine lv_aload_n hC.1 hC.2.1 dL_law_2341 rfl (lv_at hl 1 rfl) ?_
  refine lv_aload_n hC.1 hC.2.1 dL_law_2342 rfl (lv_at hl 0 rfl) ?_
  refine lv_iload hC.1 hC.2.1 dL_law_2343 (lv_at hl 4 rfl) ?_
  refine x_const hC dL_law_2345 ?_
  refine x_iadd hC dL_law_2346 ?_
  refine x_sld hC hw hX hbl hbA (by omega) (by omega) (by omega) dL_law_2347 ?_
  obtain ⟨z_1, hz_1⟩ : ∃ z : Int, z = (xs (i + 1).toNat).toInt := ⟨_, rfl⟩
  rw [← hz_1]
  have hrz_1 : -2147483648 ≤ z_1 ∧ z_1 ≤ 2147483647 := by rw [hz_1]; exact iN_rng _
  refine lv_aload_n hC.1 hC.2.1 dL_law_2348 rfl (lv_at hl 0 rfl) ?_
  refine lv_iload hC.1 hC.2.1 dL_law_2349 (lv_at hl 4 rfl) ?_
  refine x_const hC dL_law_2351 ?_
  refine x_iadd hC dL_law_2352 ?_
  refine x_sld hC hw hX hbl hbA (by omega) (by omega) (by omega) dL_law_2353 ?_
  obtain ⟨z_2, hz_2⟩ : ∃ z : Int, z = (xs (i + 2).toNat).toInt := ⟨_, rfl⟩
  rw [← hz_2]
  have hrz_2 : -2147483648 ≤ z_2 ∧ z_2 ≤ 2147483647 := by rw [hz_2]; exact iN_rng _
  refine lv_aload_n hC.1 hC.2.1 dL_law_2354 rfl (lv_at hl 3 rfl) ?_
  refine x_callSW hC hw (lv_size hl) ((c_L_viewGet l G hst hG hdA (p0 := z_1) (by omega) (p1 := z_2) (by omega)).frame hdB) gL_law_L_viewGet rfl dv_L_viewGet_s rfl (Nat.le_of_ble_eq_true rfl) (by rw [hRf]; decide) (by rw [hRl]; decide) (by omega) (by omega) dL_law_2355 (fun r9 M1 H locs hq hw => ?_)
  obtain ⟨Ck_3, ⟨⟨zk_3, hrk_3⟩, Ak_3, dk_3, svk_3, hG, hCk_3, hdA⟩, hMk_3, hdB⟩ := hq
  subst hrk_3
  subst hCk_3
  subst hMk_3
  show W p l e R s m args below meth c H locs _ _ _ (F0 m 2358 ls [.int (iN (zk_3))])
  refine lv_istore (lv' := [(5, .int (iN (zk_3))), (0, .ref b), (1, .ref h0), (2, .ref a), (3, .ref o), (4, .int (iN (i)))]) hC.1 hC.2.1 dL_law_2358 hl (by decide) rfl (fun ls hl => ?_)
  refine lv_aload_n hC.1 hC.2.1 dL_law_2360 rfl (lv_at hl 3 rfl) ?_
  refine lv_aload_n hC.1 hC.2.1 dL_law_2361 rfl (lv_at hl 1 rfl) ?_
  refine lv_iload hC.1 hC.2.1 dL_law_2362 (lv_at hl 5 rfl) ?_
  refine x_const hC dL_law_2364 ?_
  refine x_iadd hC dL_law_2365 ?_
  refine x_sld hC hw hX hbl hbA (by omega) (by omega) (by omega) dL_law_2366 ?_
  obtain ⟨z_4, hz_4⟩ : ∃ z : Int, z = (xs (i + 1).toNat).toInt := ⟨_, rfl⟩
  rw [← hz_4]
  have hrz_4 : -2147483648 ≤ z_4 ∧ z_4 ≤ 2147483647 := by rw [hz_4]; exact iN_rng _
  refine lv_aload_n hC.1 hC.2.1 dL_law_2367 rfl (lv_at hl 1 rfl) ?_
  refine lv_iload hC.1 hC.2.1 dL_law_2368 (lv_at hl 5 rfl) ?_
  refine x_const hC dL_law_2370 ?_
  refine x_iadd hC dL_law_2371 ?_
  refine x_sld hC hw hX hbl hbA (by omega) (by omega) (by omega) dL_law_2372 ?_
  obtain ⟨z_5, hz_5⟩ : ∃ z : Int, z = (xs (i + 2).toNat).toInt := ⟨_, rfl⟩
  rw [← hz_5]
  have hrz_5 : -2147483648 ≤ z_5 ∧ z_5 ≤ 2147483647 := by rw [hz_5]; exact iN_rng _
  rw [xU_comm hdB] at hw
  obtain ⟨va, oa, wa, ya, wk, th, br, re, la, ha, kp, kv, qv, qw, fa, fb, fvv, fw, fo, fy, hR⟩ := hm
  refine x_callV hC hw (lv_size hl) ((c_X5_viewGet l G hR (p0 := z_4) (by omega) (p1 := z_5) (by omega)).frame hdB.symm) gL_law_X5_viewGet rfl dv_X5_viewGet (xU_l hR.1.1) rfl rfl (Nat.le_of_ble_eq_true rfl) (by rw [hRf]; decide) (by rw [hRl]; decide) (by omega) (by omega) dL_law_2373 (fun r9 M1 H locs hq hw => ?_)
  obtain ⟨Bk_6, ⟨zk_6, hrk_6, hzk_6, hm⟩, hMk_6, hdB9⟩ := hq
  subst hrk_6
  subst hMk_6
  have hdB := hdB9.symm
  rw [xU_comm hdB9] at hw
  show W p l e R s m args below meth c H locs _ _ _ (F0 m 2376 ls [.int (iN (zk_6))])
  refine lv_istore (lv' := [(6, .int (iN (zk_6))), (5, .int (iN (zk_3))), (0, .ref b), (1, .ref h0), (2, .ref a), (3, .ref o), (4, .int (iN (i)))]) hC.1 hC.2.1 dL_law_2376 hl (by decide) rfl (fun ls hl => ?_)
  refine lv_goto (tgt := 2555) hC.1 hC.2.1 dL_law_2378 (by decide) ?_
  refine W.widen (k := cu + 2) (n := su + (12)) (by omega) (by omega) ?_
  exact kk _ _ _ _ rf S hw ⟨_, _, _, _, rfl, hG, hm, hdA, hdB⟩ (lv_sub hl [2, 3, 4, 5, 6] rfl) (Nat.le_refl _)
set_option maxHeartbeats 8000000 in
set_option maxRecDepth 100000 in
theorem k_47 {p : Program} {l : Launch} {e : Env} {R : Room} {s : State} {m : MethodId} {args : Array Value} {below : List Frame} {meth : Method} {c : Code} {Q : State → Prop} {G : xG} {b L : Nat} {xs : Nat → Int32} {nm : String} (hst : l.stackTraces = false) (hRf : R.frames = 2048) {C9 S9 : Nat} (hRc : R.cells = C9) (hRs : R.slots = S9) (hC9 : 600000 ≤ C9) (hS9 : 7060000 ≤ S9) (hRl : R.locals = 84000) (hC : xB p s m args meth c cL_law 7 "RangeledgerLaw" nm wsL_law (some .boolean) G (xA (fun _ => none) s.heap.size)) (hX : va_X b L xs s s.heap) (hbl : b < s.heap.size) (hL : L ≤ 3072) {h0 a o : Nat} {rf : Int32} {S : Nat → Bool} {M : HM} {H : Heap} {locs : List Loc} {ls : Array Slot} {i : Int} {cu su : Nat} (hw : xD G (xA (fun _ => none) s.heap.size) s M H locs) (hS : LwS G M h0 a o rf S) (hl : lv_has ls 7 [(0, .ref b), (1, .ref h0), (2, .ref a), (3, .ref o), (4, .int (iN (i)))]) (hi : 0 ≤ i ∧ i + 6 ≤ L) (hcu : cu + 1000 ≤ C9) (hsu : su + 15590 ≤ S9) (kk : ∀ (M1 : HM) (H1 : Heap) (locs1 : List Loc) (ls1 : Array Slot) (rf1 : Int32) (S1 : Nat → Bool), xD G (xA (fun _ => none) s.heap.size) s M1 H1 locs1 → LwS G M1 h0 a o rf1 S1 → lv_has ls1 7 [(0, .ref b), (1, .ref h0), (2, .ref a), (3, .ref o), (4, .int (iN (i)))] → mC S1 100 ≤ mC S 100 + 0 → W p l e R s m args below meth c H1 locs1 (cu + 2) (su + (12)) Q (F0 m 2555 ls1 [])) : W p l e R s m args below meth c H locs cu su Q (F0 m 2381 ls []) := by
  obtain ⟨A, B, d, sv, hM, hG, hm, hdA, hdB⟩ := hS
  subst hM
  have hbA : ¬ (xA (fun _ => none) s.heap.size) b := fun h9 => h9.elim (fun h8 => h8 rfl) (fun h8 => by omega)
  refine lv_aload_n hC.1 hC.2.1 dL_law_2381 rfl (lv_at hl 1 rfl) ?_
  refine lv_aload_n hC.1 hC.2.1 dL_law_2382 rfl (lv_at hl 0 rfl) ?_
  refine lv_iload hC.1 hC.2.1 dL_law_2383 (lv_at hl 4 rfl) ?_
  refine x_const hC dL_law_2385 ?_
  refine x_iadd hC dL_law_2386 ?_
  refine x_sld hC hw hX hbl hbA (by omega) (by omega) (by omega) dL_law_2387 ?_
  obtain ⟨z_1, hz_1⟩ : ∃ z : Int, z = (xs (i + 1).toNat).toInt := ⟨_, rfl⟩
  rw [← hz_1]
  have hrz_1 : -2147483648 ≤ z_1 ∧ z_1 ≤ 2147483647 := by rw [hz_1]; exact iN_rng _
  refine lv_aload_n hC.1 hC.2.1 dL_law_2388 rfl (lv_at hl 0 rfl) ?_
  refine lv_iload hC.1 hC.2.1 dL_law_2389 (lv_at hl 4 rfl) ?_
  refine x_const hC dL_law_2391 ?_
  refine x_iadd hC dL_law_2392 ?_
  refine x_sld hC hw hX hbl hbA (by omega) (by omega) (by omega) dL_law_2393 ?_
  obtain ⟨z_2, hz_2⟩ : ∃ z : Int, z = (xs (i + 2).toNat).toInt := ⟨_, rfl⟩
  rw [← hz_2]
  have hrz_2 : -2147483648 ≤ z_2 ∧ z_2 ≤ 2147483647 := by rw [hz_2]; exact iN_rng _
  refine lv_aload_n hC.1 hC.2.1 dL_law_2394 rfl (lv_at hl 3 rfl) ?_
  refine x_callSW hC hw (lv_size hl) ((c_L_ofView l G hst hG hdA (p0 := z_1) (by omega) (p1 := z_2) (by omega)).frame hdB) gL_law_L_ofView rfl dv_L_ofView_s rfl (Nat.le_of_ble_eq_true rfl) (by rw [hRf]; decide) (by rw [hRl]; decide) (by omega) (by omega) dL_law_2395 (fun r9 M1 H locs hq hw => ?_)
  obtain ⟨Ck_3, ⟨⟨zk_3, hrk_3⟩, Ak_3, dk_3, svk_3, hG, hCk_3, hdA⟩, hMk_3, hdB⟩ := hq
  subst hrk_3
  subst hCk_3
  subst hMk_3
  show W p l e R s m args below meth c H locs _ _ _ (F0 m 2398 ls [.int (iN (zk_3))])
  refine lv_istore (lv' := [(5, .int (iN (zk_3))), (0, .ref b), (1, .ref h0), (2, .ref a), (3, .ref o), (4, .int (iN (i)))]) hC.1 hC.2.1 dL_law_2398 hl (by decide) rfl (fun ls hl => ?_)
  refine lv_aload_n hC.1 hC.2.1 dL_law_2400 rfl (lv_at hl 3 rfl) ?_
  refine lv_aload_n hC.1 hC.2.1 dL_law_2401 rfl (lv_at hl 1 rfl) ?_
  refine lv_iload hC.1 hC.2.1 dL_law_2402 (lv_at hl 5 rfl) ?_
  refine x_const hC dL_law_2404 ?_
  refine x_iadd hC dL_law_2405 ?_
  refine x_sld hC hw hX hbl hbA (by omega) (by omega) (by omega) dL_law_2406 ?_
  obtain ⟨z_4, hz_4⟩ : ∃ z : Int, z = (xs (i + 1).toNat).toInt := ⟨_, rfl⟩
  rw [← hz_4]
  have hrz_4 : -2147483648 ≤ z_4 ∧ z_4 ≤ 2147483647 := by rw [hz_4]; exact iN_rng _
  refine lv_aload_n hC.1 hC.2.1 dL_law_2407 rfl (lv_at hl 1 rfl) ?_
  refine lv_iload hC.1 hC.2.1 dL_law_2408 (lv_at hl 5 rfl) ?_
  refine x_const hC dL_law_2410 ?_
  refine x_iadd hC dL_law_2411 ?_
  refine x_sld hC hw hX hbl hbA (by omega) (by omega) (by omega) dL_law_2412 ?_
  obtain ⟨z_5, hz_5⟩ : ∃ z : Int, z = (xs (i + 2).toNat).toInt := ⟨_, rfl⟩
  rw [← hz_5]
  have hrz_5 : -2147483648 ≤ z_5 ∧ z_5 ≤ 2147483647 := by rw [hz_5]; exact iN_rng _
  rw [xU_comm hdB] at hw
  obtain ⟨va, oa, wa, ya, wk, th, br, re, la, ha, kp, kv, qv, qw, fa, fb, fvv, fw, fo, fy, hR⟩ := hm
  refine x_callV hC hw (lv_size hl) ((c_X5_ofView l G hR (p0 := z_4) (by omega) (p1 := z_5) (by omega)).frame hdB.symm) gL_law_X5_ofView rfl dv_X5_ofView (xU_l hR.1.1) rfl rfl (Nat.le_of_ble_eq_true rfl) (by rw [hRf]; decide) (by rw [hRl]; decide) (by omega) (by omega) dL_law_2413 (fun r9 M1 H locs hq hw => ?_)
  obtain ⟨Bk_6, ⟨zk_6, hrk_6, hzk_6, hm⟩, hMk_6, hdB9⟩ := hq
  subst hrk_6
  subst hMk_6
  have hdB := hdB9.symm
  rw [xU_comm hdB9] at hw
  show W p l e R s m args below meth c H locs _ _ _ (F0 m 2416 ls [.int (iN (zk_6))])
  refine lv_istore (lv' := [(6, .int (iN (zk_6))), (5, .int (iN (zk_3))), (0, .ref b), (1, .ref h0), (2, .ref a), (3, .ref o), (4, .int (iN (i)))]) hC.1 hC.2.1 dL_law_2416 hl (by decide) rfl (fun ls hl => ?_)
  refine lv_goto (tgt := 2555) hC.1 hC.2.1 dL_law_2418 (by decide) ?_
  refine W.widen (k := cu + 2) (n := su + (12)) (by omega) (by omega) ?_
  exact kk _ _ _ _ rf S hw ⟨_, _, _, _, rfl, hG, hm, hdA, hdB⟩ (lv_sub hl [2, 3, 4, 5, 6] rfl) (Nat.le_refl _)
set_option maxHeartbeats 8000000 in
set_option maxRecDepth 100000 in
theorem k_48 {p : Program} {l : Launch} {e : Env} {R : Room} {s : State} {m : MethodId} {args : Array Value} {below : List Frame} {meth : Method} {c : Code} {Q : State → Prop} {G : xG} {b L : Nat} {xs : Nat → Int32} {nm : String} (hst : l.stackTraces = false) (hRf : R.frames = 2048) {C9 S9 : Nat} (hRc : R.cells = C9) (hRs : R.slots = S9) (hC9 : 600000 ≤ C9) (hS9 : 7060000 ≤ S9) (hRl : R.locals = 84000) (hC : xB p s m args meth c cL_law 7 "RangeledgerLaw" nm wsL_law (some .boolean) G (xA (fun _ => none) s.heap.size)) (hX : va_X b L xs s s.heap) (hbl : b < s.heap.size) (hL : L ≤ 3072) {h0 a o : Nat} {rf : Int32} {S : Nat → Bool} {M : HM} {H : Heap} {locs : List Loc} {ls : Array Slot} {i : Int} {cu su : Nat} (hw : xD G (xA (fun _ => none) s.heap.size) s M H locs) (hS : LwS G M h0 a o rf S) (hl : lv_has ls 7 [(0, .ref b), (1, .ref h0), (2, .ref a), (3, .ref o), (4, .int (iN (i)))]) (hi : 0 ≤ i ∧ i + 6 ≤ L) (hcu : cu + 1000 ≤ C9) (hsu : su + 15590 ≤ S9) (kk : ∀ (M1 : HM) (H1 : Heap) (locs1 : List Loc) (ls1 : Array Slot) (rf1 : Int32) (S1 : Nat → Bool), xD G (xA (fun _ => none) s.heap.size) s M1 H1 locs1 → LwS G M1 h0 a o rf1 S1 → lv_has ls1 7 [(0, .ref b), (1, .ref h0), (2, .ref a), (3, .ref o), (4, .int (iN (i)))] → mC S1 100 ≤ mC S 100 + 0 → W p l e R s m args below meth c H1 locs1 (cu + 3) (su + (18)) Q (F0 m 2555 ls1 [])) : W p l e R s m args below meth c H locs cu su Q (F0 m 2421 ls []) := by
  obtain ⟨A, B, d, sv, hM, hG, hm, hdA, hdB⟩ := hS
  subst hM
  have hbA : ¬ (xA (fun _ => none) s.heap.size) b := fun h9 => h9.elim (fun h8 => h8 rfl) (fun h8 => by omega)
  refine lv_aload_n hC.1 hC.2.1 dL_law_2421 rfl (lv_at hl 1 rfl) ?_
  refine lv_aload_n hC.1 hC.2.1 dL_law_2422 rfl (lv_at hl 0 rfl) ?_
  refine lv_iload hC.1 hC.2.1 dL_law_2423 (lv_at hl 4 rfl) ?_
  refine x_const hC dL_law_2425 ?_
  refine x_iadd hC dL_law_2426 ?_
  refine x_sld hC hw hX hbl hbA (by omega) (by omega) (by omega) dL_law_2427 ?_
  obtain ⟨z_1, hz_1⟩ : ∃ z : Int, z = (xs (i + 1).toNat).toInt := ⟨_, rfl⟩
  rw [← hz_1]
  have hrz_1 : -2147483648 ≤ z_1 ∧ z_1 ≤ 2147483647 := by rw [hz_1]; exact iN_rng _
  refine lv_aload_n hC.1 hC.2.1 dL_law_2428 rfl (lv_at hl 0 rfl) ?_
  refine lv_iload hC.1 hC.2.1 dL_law_2429 (lv_at hl 4 rfl) ?_
  refine x_const hC dL_law_2431 ?_
  refine x_iadd hC dL_law_2432 ?_
  refine x_sld hC hw hX hbl hbA (by omega) (by omega) (by omega) dL_law_2433 ?_
  obtain ⟨z_2, hz_2⟩ : ∃ z : Int, z = (xs (i + 2).toNat).toInt := ⟨_, rfl⟩
  rw [← hz_2]
  have hrz_2 : -2147483648 ≤ z_2 ∧ z_2 ≤ 2147483647 := by rw [hz_2]; exact iN_rng _
  refine lv_aload_n hC.1 hC.2.1 dL_law_2434 rfl (lv_at hl 0 rfl) ?_
  refine lv_iload hC.1 hC.2.1 dL_law_2435 (lv_at hl 4 rfl) ?_
  refine x_const hC dL_law_2437 ?_
  refine x_iadd hC dL_law_2438 ?_
  refine x_sld hC hw hX hbl hbA (by omega) (by omega) (by omega) dL_law_2439 ?_
  obtain ⟨z_3, hz_3⟩ : ∃ z : Int, z = (xs (i + 3).toNat).toInt := ⟨_, rfl⟩
  rw [← hz_3]
  have hrz_3 : -2147483648 ≤ z_3 ∧ z_3 ≤ 2147483647 := by rw [hz_3]; exact iN_rng _
  refine lv_aload_n hC.1 hC.2.1 dL_law_2440 rfl (lv_at hl 3 rfl) ?_
  refine x_callSW hC hw (lv_size hl) ((c_L_viewNear l G hst hG hdA (p0 := z_1) (by omega) (p1 := z_2) (by omega) (p2 := z_3) (by omega)).frame hdB) gL_law_L_viewNear rfl dv_L_viewNear_s rfl (Nat.le_of_ble_eq_true rfl) (by rw [hRf]; decide) (by rw [hRl]; decide) (by omega) (by omega) dL_law_2441 (fun r9 M1 H locs hq hw => ?_)
  obtain ⟨Ck_4, ⟨⟨zk_4, hrk_4⟩, Ak_4, dk_4, svk_4, hG, hCk_4, hdA⟩, hMk_4, hdB⟩ := hq
  subst hrk_4
  subst hCk_4
  subst hMk_4
  show W p l e R s m args below meth c H locs _ _ _ (F0 m 2444 ls [.int (iN (zk_4))])
  refine lv_istore (lv' := [(5, .int (iN (zk_4))), (0, .ref b), (1, .ref h0), (2, .ref a), (3, .ref o), (4, .int (iN (i)))]) hC.1 hC.2.1 dL_law_2444 hl (by decide) rfl (fun ls hl => ?_)
  refine lv_aload_n hC.1 hC.2.1 dL_law_2446 rfl (lv_at hl 3 rfl) ?_
  refine lv_aload_n hC.1 hC.2.1 dL_law_2447 rfl (lv_at hl 1 rfl) ?_
  refine lv_iload hC.1 hC.2.1 dL_law_2448 (lv_at hl 5 rfl) ?_
  refine x_const hC dL_law_2450 ?_
  refine x_iadd hC dL_law_2451 ?_
  refine x_sld hC hw hX hbl hbA (by omega) (by omega) (by omega) dL_law_2452 ?_
  obtain ⟨z_5, hz_5⟩ : ∃ z : Int, z = (xs (i + 1).toNat).toInt := ⟨_, rfl⟩
  rw [← hz_5]
  have hrz_5 : -2147483648 ≤ z_5 ∧ z_5 ≤ 2147483647 := by rw [hz_5]; exact iN_rng _
  refine lv_aload_n hC.1 hC.2.1 dL_law_2453 rfl (lv_at hl 1 rfl) ?_
  refine lv_iload hC.1 hC.2.1 dL_law_2454 (lv_at hl 5 rfl) ?_
  refine x_const hC dL_law_2456 ?_
  refine x_iadd hC dL_law_2457 ?_
  refine x_sld hC hw hX hbl hbA (by omega) (by omega) (by omega) dL_law_2458 ?_
  obtain ⟨z_6, hz_6⟩ : ∃ z : Int, z = (xs (i + 2).toNat).toInt := ⟨_, rfl⟩
  rw [← hz_6]
  have hrz_6 : -2147483648 ≤ z_6 ∧ z_6 ≤ 2147483647 := by rw [hz_6]; exact iN_rng _
  refine lv_aload_n hC.1 hC.2.1 dL_law_2459 rfl (lv_at hl 1 rfl) ?_
  refine lv_iload hC.1 hC.2.1 dL_law_2460 (lv_at hl 5 rfl) ?_
  refine x_const hC dL_law_2462 ?_
  refine x_iadd hC dL_law_2463 ?_
  refine x_sld hC hw hX hbl hbA (by omega) (by omega) (by omega) dL_law_2464 ?_
  obtain ⟨z_7, hz_7⟩ : ∃ z : Int, z = (xs (i + 3).toNat).toInt := ⟨_, rfl⟩
  rw [← hz_7]
  have hrz_7 : -2147483648 ≤ z_7 ∧ z_7 ≤ 2147483647 := by rw [hz_7]; exact iN_rng _
  rw [xU_comm hdB] at hw
  obtain ⟨va, oa, wa, ya, wk, th, br, re, la, ha, kp, kv, qv, qw, fa, fb, fvv, fw, fo, fy, hR⟩ := hm
  refine x_callV hC hw (lv_size hl) ((c_X5_viewNear l G hR (p0 := z_5) (by omega) (p1 := z_6) (by omega) (p2 := z_7) (by omega)).frame hdB.symm) gL_law_X5_viewNear rfl dv_X5_viewNear (xU_l hR.1.1) rfl rfl (Nat.le_of_ble_eq_true rfl) (by rw [hRf]; decide) (by rw [hRl]; decide) (by omega) (by omega) dL_law_2465 (fun r9 M1 H locs hq hw => ?_)
  obtain ⟨Bk_8, ⟨zk_8, hrk_8, hzk_8, hm⟩, hMk_8, hdB9⟩ := hq
  subst hrk_8
  subst hMk_8
  have hdB := hdB9.symm
  rw [xU_comm hdB9] at hw
  show W p l e R s m args below meth c H locs _ _ _ (F0 m 2468 ls [.int (iN (zk_8))])
  refine lv_istore (lv' := [(6, .int (iN (zk_8))), (5, .int (iN (zk_4))), (0, .ref b), (1, .ref h0), (2, .ref a), (3, .ref o), (4, .int (iN (i)))]) hC.1 hC.2.1 dL_law_2468 hl (by decide) rfl (fun ls hl => ?_)
  refine lv_goto (tgt := 2555) hC.1 hC.2.1 dL_law_2470 (by decide) ?_
  refine W.widen (k := cu + 3) (n := su + (18)) (by omega) (by omega) ?_
  exact kk _ _ _ _ rf S hw ⟨_, _, _, _, rfl, hG, hm, hdA, hdB⟩ (lv_sub hl [2, 3, 4, 5, 6] rfl) (Nat.le_refl _)
set_option maxHeartbeats 8000000 in
set_option maxRecDepth 100000 in
theorem k_49 {p : Program} {l : Launch} {e : Env} {R : Room} {s : State} {m : MethodId} {args : Array Value} {below : List Frame} {meth : Method} {c : Code} {Q : State → Prop} {G : xG} {b L : Nat} {xs : Nat → Int32} {nm : String} (hst : l.stackTraces = false) (hRf : R.frames = 2048) {C9 S9 : Nat} (hRc : R.cells = C9) (hRs : R.slots = S9) (hC9 : 600000 ≤ C9) (hS9 : 7060000 ≤ S9) (hRl : R.locals = 84000) (hC : xB p s m args meth c cL_law 7 "RangeledgerLaw" nm wsL_law (some .boolean) G (xA (fun _ => none) s.heap.size)) (hX : va_X b L xs s s.heap) (hbl : b < s.heap.size) (hL : L ≤ 3072) {h0 a o : Nat} {rf : Int32} {S : Nat → Bool} {M : HM} {H : Heap} {locs : List Loc} {ls : Array Slot} {i : Int} {cu su : Nat} (hw : xD G (xA (fun _ => none) s.heap.size) s M H locs) (hS : LwS G M h0 a o rf S) (hl : lv_has ls 7 [(0, .ref b), (1, .ref h0), (2, .ref a), (3, .ref o), (4, .int (iN (i)))]) (hi : 0 ≤ i ∧ i + 6 ≤ L) (hcu : cu + 1000 ≤ C9) (hsu : su + 15590 ≤ S9) {K Tm : Nat} (hK : mC S 100 ≤ K) (hT : (K = 60 ∧ Tm = 1800) ∨ (K = 100 ∧ Tm = 3410)) (kk : ∀ (M1 : HM) (H1 : Heap) (locs1 : List Loc) (ls1 : Array Slot) (rf1 : Int32) (S1 : Nat → Bool), xD G (xA (fun _ => none) s.heap.size) s M1 H1 locs1 → LwS G M1 h0 a o rf1 S1 → lv_has ls1 7 [(0, .ref b), (1, .ref h0), (2, .ref a), (3, .ref o), (4, .int (iN (i)))] → mC S1 100 ≤ mC S 100 + 0 → W p l e R s m args below meth c H1 locs1 (cu + 31) (su + (11706 + (Tm + 20))) Q (F0 m 2555 ls1 [])) : W p l e R s m args below meth c H locs cu su Q (F0 m 2473 ls []) := by
  obtain ⟨A, B, d, sv, hM, hG, hm, hdA, hdB⟩ := hS
  subst hM
  have hbA : ¬ (xA (fun _ => none) s.heap.size) b := fun h9 => h9.elim (fun h8 => h8 rfl) (fun h8 => by omega)
  refine lv_aload_n hC.1 hC.2.1 dL_law_2473 rfl (lv_at hl 1 rfl) ?_
  refine lv_aload_n hC.1 hC.2.1 dL_law_2474 rfl (lv_at hl 0 rfl) ?_
  refine lv_iload hC.1 hC.2.1 dL_law_2475 (lv_at hl 4 rfl) ?_
  refine x_const hC dL_law_2477 ?_
  refine x_iadd hC dL_law_2478 ?_
  refine x_sld hC hw hX hbl hbA (by omega) (by omega) (by omega) dL_law_2479 ?_
  obtain ⟨z_1, hz_1⟩ : ∃ z : Int, z = (xs (i + 1).toNat).toInt := ⟨_, rfl⟩
  rw [← hz_1]
  have hrz_1 : -2147483648 ≤ z_1 ∧ z_1 ≤ 2147483647 := by rw [hz_1]; exact iN_rng _
  refine lv_aload_n hC.1 hC.2.1 dL_law_2480 rfl (lv_at hl 3 rfl) ?_
  refine x_callSW hC hw (lv_size hl) ((c_L_viewRow l G hst hG hdA (p0 := z_1) (by omega)).frame hdB) gL_law_L_viewRow rfl dv_L_viewRow_s rfl (Nat.le_of_ble_eq_true rfl) (by rw [hRf]; decide) (by rw [hRl]; decide) (by omega) (by omega) dL_law_2481 (fun r9 M1 H locs hq hw => ?_)
  obtain ⟨Ck_2, ⟨⟨zk_2, hrk_2⟩, Ak_2, dk_2, svk_2, hG, hCk_2, hdA⟩, hMk_2, hdB⟩ := hq
  subst hrk_2
  subst hCk_2
  subst hMk_2
  show W p l e R s m args below meth c H locs _ _ _ (F0 m 2484 ls [.int (iN (zk_2))])
  refine lv_istore (lv' := [(5, .int (iN (zk_2))), (0, .ref b), (1, .ref h0), (2, .ref a), (3, .ref o), (4, .int (iN (i)))]) hC.1 hC.2.1 dL_law_2484 hl (by decide) rfl (fun ls hl => ?_)
  refine lv_aload_n hC.1 hC.2.1 dL_law_2486 rfl (lv_at hl 3 rfl) ?_
  refine lv_aload_n hC.1 hC.2.1 dL_law_2487 rfl (lv_at hl 1 rfl) ?_
  refine lv_iload hC.1 hC.2.1 dL_law_2488 (lv_at hl 5 rfl) ?_
  refine x_const hC dL_law_2490 ?_
  refine x_iadd hC dL_law_2491 ?_
  refine x_sld hC hw hX hbl hbA (by omega) (by omega) (by omega) dL_law_2492 ?_
  obtain ⟨z_3, hz_3⟩ : ∃ z : Int, z = (xs (i + 1).toNat).toInt := ⟨_, rfl⟩
  rw [← hz_3]
  have hrz_3 : -2147483648 ≤ z_3 ∧ z_3 ≤ 2147483647 := by rw [hz_3]; exact iN_rng _
  rw [xU_comm hdB] at hw
  obtain ⟨va, oa, wa, ya, wk, th, br, re, la, ha, kp, kv, qv, qw, fa, fb, fvv, fw, fo, fy, hR⟩ := hm
  refine x_callV hC hw (lv_size hl) ((c_X5_viewRow l G hR (K := K) (Tm := Tm) hK hT (p0 := z_3) (by omega)).frame hdB.symm) gL_law_X5_viewRow rfl dv_X5_viewRow (xU_l hR.1.1) rfl rfl (Nat.le_of_ble_eq_true rfl) (by rw [hRf]; decide) (by rw [hRl]; decide) (by omega) (by omega) dL_law_2493 (fun r9 M1 H locs hq hw => ?_)
  obtain ⟨Bk_4, ⟨qk_4, hrk_4, hm⟩, hMk_4, hdB9⟩ := hq
  subst hrk_4
  subst hMk_4
  have hdB := hdB9.symm
  rw [xU_comm hdB9] at hw
  show W p l e R s m args below meth c H locs _ _ _ (F0 m 2496 ls [.ref qk_4])
  refine lv_astore (lv' := [(6, .ref qk_4), (5, .int (iN (zk_2))), (0, .ref b), (1, .ref h0), (2, .ref a), (3, .ref o), (4, .int (iN (i)))]) hC.1 hC.2.1 dL_law_2496 hl (by decide) rfl (fun ls hl => ?_)
  refine lv_goto (tgt := 2555) hC.1 hC.2.1 dL_law_2498 (by decide) ?_
  refine W.widen (k := cu + 31) (n := su + (11706 + (Tm + 20))) (by omega) (by omega) ?_
  exact kk _ _ _ _ rf S hw ⟨_, _, _, _, rfl, hG, hm, hdA, hdB⟩ (lv_sub hl [2, 3, 4, 5, 6] rfl) (Nat.le_refl _)
set_option maxHeartbeats 8000000 in
set_option maxRecDepth 100000 in
theorem k_50 {p : Program} {l : Launch} {e : Env} {R : Room} {s : State} {m : MethodId} {args : Array Value} {below : List Frame} {meth : Method} {c : Code} {Q : State → Prop} {G : xG} {b L : Nat} {xs : Nat → Int32} {nm : String} (hst : l.stackTraces = false) (hRf : R.frames = 2048) {C9 S9 : Nat} (hRc : R.cells = C9) (hRs : R.slots = S9) (hC9 : 600000 ≤ C9) (hS9 : 7060000 ≤ S9) (hRl : R.locals = 84000) (hC : xB p s m args meth c cL_law 7 "RangeledgerLaw" nm wsL_law (some .boolean) G (xA (fun _ => none) s.heap.size)) (hX : va_X b L xs s s.heap) (hbl : b < s.heap.size) (hL : L ≤ 3072) {h0 a o : Nat} {rf : Int32} {S : Nat → Bool} {M : HM} {H : Heap} {locs : List Loc} {ls : Array Slot} {i : Int} {cu su : Nat} (hw : xD G (xA (fun _ => none) s.heap.size) s M H locs) (hS : LwS G M h0 a o rf S) (hl : lv_has ls 7 [(0, .ref b), (1, .ref h0), (2, .ref a), (3, .ref o), (4, .int (iN (i)))]) (hi : 0 ≤ i ∧ i + 6 ≤ L) (hcu : cu + 1000 ≤ C9) (hsu : su + 15590 ≤ S9) (kk : ∀ (M1 : HM) (H1 : Heap) (locs1 : List Loc) (ls1 : Array Slot) (rf1 : Int32) (S1 : Nat → Bool), xD G (xA (fun _ => none) s.heap.size) s M1 H1 locs1 → LwS G M1 h0 a o rf1 S1 → lv_has ls1 7 [(0, .ref b), (1, .ref h0), (2, .ref a), (3, .ref o), (4, .int (iN (i)))] → mC S1 100 ≤ mC S 100 + 0 → W p l e R s m args below meth c H1 locs1 (cu + 2) (su + (13)) Q (F0 m 2555 ls1 [])) : W p l e R s m args below meth c H locs cu su Q (F0 m 2501 ls []) := by
  obtain ⟨A, B, d, sv, hM, hG, hm, hdA, hdB⟩ := hS
  subst hM
  have hbA : ¬ (xA (fun _ => none) s.heap.size) b := fun h9 => h9.elim (fun h8 => h8 rfl) (fun h8 => by omega)
  refine lv_aload_n hC.1 hC.2.1 dL_law_2501 rfl (lv_at hl 1 rfl) ?_
  refine lv_aload_n hC.1 hC.2.1 dL_law_2502 rfl (lv_at hl 0 rfl) ?_
  refine lv_iload hC.1 hC.2.1 dL_law_2503 (lv_at hl 4 rfl) ?_
  refine x_const hC dL_law_2505 ?_
  refine x_iadd hC dL_law_2506 ?_
  refine x_sld hC hw hX hbl hbA (by omega) (by omega) (by omega) dL_law_2507 ?_
  obtain ⟨z_1, hz_1⟩ : ∃ z : Int, z = (xs (i + 1).toNat).toInt := ⟨_, rfl⟩
  rw [← hz_1]
  have hrz_1 : -2147483648 ≤ z_1 ∧ z_1 ≤ 2147483647 := by rw [hz_1]; exact iN_rng _
  refine lv_aload_n hC.1 hC.2.1 dL_law_2508 rfl (lv_at hl 3 rfl) ?_
  refine x_callSW hC hw (lv_size hl) ((c_L_ledger l G hst hG hdA (p0 := z_1) (by omega)).frame hdB) gL_law_L_ledger rfl dv_L_ledger_s rfl (Nat.le_of_ble_eq_true rfl) (by rw [hRf]; decide) (by rw [hRl]; decide) (by omega) (by omega) dL_law_2509 (fun r9 M1 H locs hq hw => ?_)
  obtain ⟨Ck_2, ⟨⟨zk_2, hrk_2⟩, Ak_2, dk_2, svk_2, hG, hCk_2, hdA⟩, hMk_2, hdB⟩ := hq
  subst hrk_2
  subst hCk_2
  subst hMk_2
  show W p l e R s m args below meth c H locs _ _ _ (F0 m 2512 ls [.int (iN (zk_2))])
  refine lv_istore (lv' := [(5, .int (iN (zk_2))), (0, .ref b), (1, .ref h0), (2, .ref a), (3, .ref o), (4, .int (iN (i)))]) hC.1 hC.2.1 dL_law_2512 hl (by decide) rfl (fun ls hl => ?_)
  refine lv_aload_n hC.1 hC.2.1 dL_law_2514 rfl (lv_at hl 3 rfl) ?_
  refine lv_aload_n hC.1 hC.2.1 dL_law_2515 rfl (lv_at hl 1 rfl) ?_
  refine lv_iload hC.1 hC.2.1 dL_law_2516 (lv_at hl 5 rfl) ?_
  refine x_const hC dL_law_2518 ?_
  refine x_iadd hC dL_law_2519 ?_
  refine x_sld hC hw hX hbl hbA (by omega) (by omega) (by omega) dL_law_2520 ?_
  obtain ⟨z_3, hz_3⟩ : ∃ z : Int, z = (xs (i + 1).toNat).toInt := ⟨_, rfl⟩
  rw [← hz_3]
  have hrz_3 : -2147483648 ≤ z_3 ∧ z_3 ≤ 2147483647 := by rw [hz_3]; exact iN_rng _
  rw [xU_comm hdB] at hw
  obtain ⟨va, oa, wa, ya, wk, th, br, re, la, ha, kp, kv, qv, qw, fa, fb, fvv, fw, fo, fy, hR⟩ := hm
  refine x_callV hC hw (lv_size hl) ((c_X5_ledger l G hR (p0 := z_3) (by omega)).frame hdB.symm) gL_law_X5_ledger rfl dv_X5_ledger (xU_l hR.1.1) rfl rfl (Nat.le_of_ble_eq_true rfl) (by rw [hRf]; decide) (by rw [hRl]; decide) (by omega) (by omega) dL_law_2521 (fun r9 M1 H locs hq hw => ?_)
  obtain ⟨Bk_4, ⟨zk_4, hrk_4, hzk_4, hm⟩, hMk_4, hdB9⟩ := hq
  subst hrk_4
  subst hMk_4
  have hdB := hdB9.symm
  rw [xU_comm hdB9] at hw
  show W p l e R s m args below meth c H locs _ _ _ (F0 m 2524 ls [.int (iN (zk_4))])
  refine lv_istore (lv' := [(6, .int (iN (zk_4))), (5, .int (iN (zk_2))), (0, .ref b), (1, .ref h0), (2, .ref a), (3, .ref o), (4, .int (iN (i)))]) hC.1 hC.2.1 dL_law_2524 hl (by decide) rfl (fun ls hl => ?_)
  refine lv_goto (tgt := 2555) hC.1 hC.2.1 dL_law_2526 (by decide) ?_
  refine W.widen (k := cu + 2) (n := su + (13)) (by omega) (by omega) ?_
  exact kk _ _ _ _ rf S hw ⟨_, _, _, _, rfl, hG, hm, hdA, hdB⟩ (lv_sub hl [2, 3, 4, 5, 6] rfl) (Nat.le_refl _)
set_option maxHeartbeats 8000000 in
set_option maxRecDepth 100000 in
theorem k_51 {p : Program} {l : Launch} {e : Env} {R : Room} {s : State} {m : MethodId} {args : Array Value} {below : List Frame} {meth : Method} {c : Code} {Q : State → Prop} {G : xG} {b L : Nat} {xs : Nat → Int32} {nm : String} (hst : l.stackTraces = false) (hRf : R.frames = 2048) {C9 S9 : Nat} (hRc : R.cells = C9) (hRs : R.slots = S9) (hC9 : 600000 ≤ C9) (hS9 : 7060000 ≤ S9) (hRl : R.locals = 84000) (hC : xB p s m args meth c cL_law 7 "RangeledgerLaw" nm wsL_law (some .boolean) G (xA (fun _ => none) s.heap.size)) (hX : va_X b L xs s s.heap) (hbl : b < s.heap.size) (hL : L ≤ 3072) {h0 a o : Nat} {rf : Int32} {S : Nat → Bool} {M : HM} {H : Heap} {locs : List Loc} {ls : Array Slot} {i : Int} {cu su : Nat} (hw : xD G (xA (fun _ => none) s.heap.size) s M H locs) (hS : LwS G M h0 a o rf S) (hl : lv_has ls 7 [(0, .ref b), (1, .ref h0), (2, .ref a), (3, .ref o), (4, .int (iN (i)))]) (hi : 0 ≤ i ∧ i + 6 ≤ L) (hcu : cu + 1000 ≤ C9) (hsu : su + 15590 ≤ S9) (kk : ∀ (M1 : HM) (H1 : Heap) (locs1 : List Loc) (ls1 : Array Slot) (rf1 : Int32) (S1 : Nat → Bool), xD G (xA (fun _ => none) s.heap.size) s M1 H1 locs1 → LwS G M1 h0 a o rf1 S1 → lv_has ls1 7 [(0, .ref b), (1, .ref h0), (2, .ref a), (3, .ref o), (4, .int (iN (i)))] → mC S1 100 ≤ mC S 100 + 0 → W p l e R s m args below meth c H1 locs1 (cu + 325) (su + (1625)) Q (F0 m 2555 ls1 [])) : W p l e R s m args below meth c H locs cu su Q (F0 m 2529 ls []) := by
  obtain ⟨A, B, d, sv, hM, hG, hm, hdA, hdB⟩ := hS
  subst hM
  have hbA : ¬ (xA (fun _ => none) s.heap.size) b := fun h9 => h9.elim (fun h8 => h8 rfl) (fun h8 => by omega)
  refine lv_aload_n hC.1 hC.2.1 dL_law_2529 rfl (lv_at hl 1 rfl) ?_
  obtain ⟨bs, vs, og, kk9, kv9, qb, qk, qv9, fb9, fv, hR⟩ := id hG
  refine x_callV hC hw (lv_size hl) (((c_X3_isSound l G hR).frame hdA).frame hdB) gL_law_X3_isSound rfl dv_X3_isSound (xU_l (xU_l hR.1)) rfl rfl (Nat.le_of_ble_eq_true rfl) (by rw [hRf]; decide) (by rw [hRl]; decide) (by omega) (by omega) dL_law_2530 (fun r9 M1 H locs hq hw => ?_)
  obtain ⟨Ck_1, ⟨Ak_1, ⟨zk_1, hrk_1, hEk_1, hzk_1⟩, hAk_1, hdA⟩, hMk_1, hdB⟩ := hq
  subst hrk_1
  subst hAk_1
  subst hMk_1
  replace hEk_1 := hEk_1.symm
  subst hEk_1
  show W p l e R s m args below meth c H locs _ _ _ (F0 m 2533 ls [.int (iN (zk_1))])
  refine lv_pop hC.1 hC.2.1 dL_law_2533 rfl ?_
  refine lv_aload_n hC.1 hC.2.1 dL_law_2534 rfl (lv_at hl 2 rfl) ?_
  rw [xU_comm hdB] at hw
  obtain ⟨va, oa, wa, ya, wk, th, br, re, la, ha, kp, kv, qv, qw, fa, fb, fvv, fw, fo, fy, hR⟩ := hm
  refine x_callV hC hw (lv_size hl) ((c_X5_isSound l G hR).frame hdB.symm) gL_law_X5_isSound rfl dv_X5_isSound (xU_l hR.1.1) rfl rfl (Nat.le_of_ble_eq_true rfl) (by rw [hRf]; decide) (by rw [hRl]; decide) (by omega) (by omega) dL_law_2535 (fun r9 M1 H locs hq hw => ?_)
  obtain ⟨Bk_2, ⟨zk_2, hrk_2, hzk_2, hm⟩, hMk_2, hdB9⟩ := hq
  subst hrk_2
  subst hMk_2
  have hdB := hdB9.symm
  rw [xU_comm hdB9] at hw
  show W p l e R s m args below meth c H locs _ _ _ (F0 m 2538 ls [.int (iN (zk_2))])
  refine lv_pop hC.1 hC.2.1 dL_law_2538 rfl ?_
  refine lv_goto (tgt := 2555) hC.1 hC.2.1 dL_law_2539 (by decide) ?_
  refine W.widen (k := cu + 325) (n := su + (1625)) (by omega) (by omega) ?_
  exact kk _ _ _ _ rf S hw ⟨_, _, _, _, rfl, hG, hm, hdA, hdB⟩ (lv_sub hl [0, 1, 2, 3, 4] rfl) (Nat.le_refl _)
set_option maxHeartbeats 8000000 in
set_option maxRecDepth 100000 in
theorem k_52 {p : Program} {l : Launch} {e : Env} {R : Room} {s : State} {m : MethodId} {args : Array Value} {below : List Frame} {meth : Method} {c : Code} {Q : State → Prop} {G : xG} {b L : Nat} {xs : Nat → Int32} {nm : String} (hst : l.stackTraces = false) (hRf : R.frames = 2048) {C9 S9 : Nat} (hRc : R.cells = C9) (hRs : R.slots = S9) (hC9 : 600000 ≤ C9) (hS9 : 7060000 ≤ S9) (hRl : R.locals = 84000) (hC : xB p s m args meth c cL_law 7 "RangeledgerLaw" nm wsL_law (some .boolean) G (xA (fun _ => none) s.heap.size)) (hX : va_X b L xs s s.heap) (hbl : b < s.heap.size) (hL : L ≤ 3072) {h0 a o : Nat} {rf : Int32} {S : Nat → Bool} {M : HM} {H : Heap} {locs : List Loc} {ls : Array Slot} {i : Int} {cu su : Nat} (hw : xD G (xA (fun _ => none) s.heap.size) s M H locs) (hS : LwS G M h0 a o rf S) (hl : lv_has ls 7 [(0, .ref b), (1, .ref h0), (2, .ref a), (3, .ref o), (4, .int (iN (i)))]) (hi : 0 ≤ i ∧ i + 6 ≤ L) (hcu : cu + 1000 ≤ C9) (hsu : su + 15590 ≤ S9) {K Tm : Nat} (hK : mC S 100 ≤ K) (hT : (K = 60 ∧ Tm = 1800) ∨ (K = 100 ∧ Tm = 3410)) (kk : ∀ (M1 : HM) (H1 : Heap) (locs1 : List Loc) (ls1 : Array Slot) (rf1 : Int32) (S1 : Nat → Bool), xD G (xA (fun _ => none) s.heap.size) s M1 H1 locs1 → LwS G M1 h0 a o rf1 S1 → lv_has ls1 7 [(0, .ref b), (1, .ref h0), (2, .ref a), (3, .ref o), (4, .int (iN (i)))] → mC S1 100 ≤ mC S 100 + 0 → W p l e R s m args below meth c H1 locs1 (cu + 700) (su + (0 + (4 * Tm + 1949))) Q (F0 m 2555 ls1 [])) : W p l e R s m args below meth c H locs cu su Q (F0 m 2542 ls []) := by
  obtain ⟨A, B, d, sv, hM, hG, hm, hdA, hdB⟩ := hS
  subst hM
  have hbA : ¬ (xA (fun _ => none) s.heap.size) b := fun h9 => h9.elim (fun h8 => h8 rfl) (fun h8 => by omega)
  refine lv_aload_n hC.1 hC.2.1 dL_law_2542 rfl (lv_at hl 1 rfl) ?_
  obtain ⟨bs, vs, og, kk9, kv9, qb, qk, qv9, fb9, fv, hR⟩ := id hG
  refine x_callV hC hw (lv_size hl) (((c_X3_digest l G hR).frame hdA).frame hdB) gL_law_X3_digest rfl dv_X3_digest (xU_l (xU_l hR.1)) rfl rfl (Nat.le_of_ble_eq_true rfl) (by rw [hRf]; decide) (by rw [hRl]; decide) (by omega) (by omega) dL_law_2543 (fun r9 M1 H locs hq hw => ?_)
  obtain ⟨Ck_1, ⟨Ak_1, ⟨dk_1, hrk_1, hEk_1⟩, hAk_1, hdA⟩, hMk_1, hdB⟩ := hq
  subst hrk_1
  subst hAk_1
  subst hMk_1
  replace hEk_1 := hEk_1.symm
  subst hEk_1
  show W p l e R s m args below meth c H locs _ _ _ (F0 m 2546 ls [.long (dk_1)])
  refine lv_pop2_2 hC.1 hC.2.1 dL_law_2546 rfl ?_
  refine lv_aload_n hC.1 hC.2.1 dL_law_2547 rfl (lv_at hl 2 rfl) ?_
  rw [xU_comm hdB] at hw
  obtain ⟨va, oa, wa, ya, wk, th, br, re, la, ha, kp, kv, qv, qw, fa, fb, fvv, fw, fo, fy, hR⟩ := hm
  refine x_callV hC hw (lv_size hl) ((c_X5_digest l G hR (K := K) (Tm := Tm) hK hT).frame hdB.symm) gL_law_X5_digest rfl dv_X5_digest (xU_l hR.1.1) rfl rfl (Nat.le_of_ble_eq_true rfl) (by rw [hRf]; decide) (by rw [hRl]; decide) (by omega) (by omega) dL_law_2548 (fun r9 M1 H locs hq hw => ?_)
  obtain ⟨Bk_2, ⟨dk_2, hrk_2, hm⟩, hMk_2, hdB9⟩ := hq
  subst hrk_2
  subst hMk_2
  have hdB := hdB9.symm
  rw [xU_comm hdB9] at hw
  show W p l e R s m args below meth c H locs _ _ _ (F0 m 2551 ls [.long (dk_2)])
  refine lv_pop2_2 hC.1 hC.2.1 dL_law_2551 rfl ?_
  refine lv_goto (tgt := 2555) hC.1 hC.2.1 dL_law_2552 (by decide) ?_
  refine W.widen (k := cu + 700) (n := su + (0 + (4 * Tm + 1949))) (by omega) (by omega) ?_
  exact kk _ _ _ _ rf S hw ⟨_, _, _, _, rfl, hG, hm, hdA, hdB⟩ (lv_sub hl [0, 1, 2, 3, 4] rfl) (Nat.le_refl _)
