/-! the law's cases -/
theorem dv_L_put_s : yL_put.cls ≠ "java/lang/invoke/MethodHandle" ∧ yL_put.cls ≠ "java/lang/invoke/VarHandle" ∧ (parseMethodDescriptor yL_put.desc).map (fun d => d.parameters.length) = some 5 := ⟨nmh_RL.1, nmh_RL.2, pds_60⟩
theorem dv_X5_put : yX5_put.cls = RX5 ∧ yX5_put.cls ≠ "java/lang/invoke/MethodHandle" ∧ yX5_put.cls ≠ "java/lang/invoke/VarHandle" ∧ (parseMethodDescriptor yX5_put.desc).map (fun d => d.parameters.length) = some 3 := ⟨rfl, nmh_RX5.1, nmh_RX5.2, pds_32⟩
theorem dv_L_putAbsent_s : yL_putAbsent.cls ≠ "java/lang/invoke/MethodHandle" ∧ yL_putAbsent.cls ≠ "java/lang/invoke/VarHandle" ∧ (parseMethodDescriptor yL_putAbsent.desc).map (fun d => d.parameters.length) = some 5 := ⟨nmh_RL.1, nmh_RL.2, pds_60⟩
theorem dv_X5_putAbsent : yX5_putAbsent.cls = RX5 ∧ yX5_putAbsent.cls ≠ "java/lang/invoke/MethodHandle" ∧ yX5_putAbsent.cls ≠ "java/lang/invoke/VarHandle" ∧ (parseMethodDescriptor yX5_putAbsent.desc).map (fun d => d.parameters.length) = some 3 := ⟨rfl, nmh_RX5.1, nmh_RX5.2, pds_32⟩
theorem dv_L_replace_s : yL_replace.cls ≠ "java/lang/invoke/MethodHandle" ∧ yL_replace.cls ≠ "java/lang/invoke/VarHandle" ∧ (parseMethodDescriptor yL_replace.desc).map (fun d => d.parameters.length) = some 5 := ⟨nmh_RL.1, nmh_RL.2, pds_60⟩
theorem dv_X5_replace : yX5_replace.cls = RX5 ∧ yX5_replace.cls ≠ "java/lang/invoke/MethodHandle" ∧ yX5_replace.cls ≠ "java/lang/invoke/VarHandle" ∧ (parseMethodDescriptor yX5_replace.desc).map (fun d => d.parameters.length) = some 3 := ⟨rfl, nmh_RX5.1, nmh_RX5.2, pds_32⟩
theorem dv_L_swap_s : yL_swap.cls ≠ "java/lang/invoke/MethodHandle" ∧ yL_swap.cls ≠ "java/lang/invoke/VarHandle" ∧ (parseMethodDescriptor yL_swap.desc).map (fun d => d.parameters.length) = some 6 := ⟨nmh_RL.1, nmh_RL.2, pds_61⟩
theorem dv_X5_swap : yX5_swap.cls = RX5 ∧ yX5_swap.cls ≠ "java/lang/invoke/MethodHandle" ∧ yX5_swap.cls ≠ "java/lang/invoke/VarHandle" ∧ (parseMethodDescriptor yX5_swap.desc).map (fun d => d.parameters.length) = some 4 := ⟨rfl, nmh_RX5.1, nmh_RX5.2, pds_55⟩
theorem dv_L_strike_s : yL_strike.cls ≠ "java/lang/invoke/MethodHandle" ∧ yL_strike.cls ≠ "java/lang/invoke/VarHandle" ∧ (parseMethodDescriptor yL_strike.desc).map (fun d => d.parameters.length) = some 4 := ⟨nmh_RL.1, nmh_RL.2, pds_62⟩
theorem dv_X5_strike : yX5_strike.cls = RX5 ∧ yX5_strike.cls ≠ "java/lang/invoke/MethodHandle" ∧ yX5_strike.cls ≠ "java/lang/invoke/VarHandle" ∧ (parseMethodDescriptor yX5_strike.desc).map (fun d => d.parameters.length) = some 2 := ⟨rfl, nmh_RX5.1, nmh_RX5.2, pds_3⟩
theorem dv_L_strikePair_s : yL_strikePair.cls ≠ "java/lang/invoke/MethodHandle" ∧ yL_strikePair.cls ≠ "java/lang/invoke/VarHandle" ∧ (parseMethodDescriptor yL_strikePair.desc).map (fun d => d.parameters.length) = some 5 := ⟨nmh_RL.1, nmh_RL.2, pds_60⟩
theorem dv_X5_strikePair : yX5_strikePair.cls = RX5 ∧ yX5_strikePair.cls ≠ "java/lang/invoke/MethodHandle" ∧ yX5_strikePair.cls ≠ "java/lang/invoke/VarHandle" ∧ (parseMethodDescriptor yX5_strikePair.desc).map (fun d => d.parameters.length) = some 3 := ⟨rfl, nmh_RX5.1, nmh_RX5.2, pds_25⟩
theorem dv_L_merge_s : yL_merge.cls ≠ "java/lang/invoke/MethodHandle" ∧ yL_merge.cls ≠ "java/lang/invoke/VarHandle" ∧ (parseMethodDescriptor yL_merge.desc).map (fun d => d.parameters.length) = some 5 := ⟨nmh_RL.1, nmh_RL.2, pds_60⟩
theorem dv_X5_merge : yX5_merge.cls = RX5 ∧ yX5_merge.cls ≠ "java/lang/invoke/MethodHandle" ∧ yX5_merge.cls ≠ "java/lang/invoke/VarHandle" ∧ (parseMethodDescriptor yX5_merge.desc).map (fun d => d.parameters.length) = some 3 := ⟨rfl, nmh_RX5.1, nmh_RX5.2, pds_32⟩
theorem dv_L_grow_s : yL_grow.cls ≠ "java/lang/invoke/MethodHandle" ∧ yL_grow.cls ≠ "java/lang/invoke/VarHandle" ∧ (parseMethodDescriptor yL_grow.desc).map (fun d => d.parameters.length) = some 4 := ⟨nmh_RL.1, nmh_RL.2, pds_62⟩
theorem dv_X5_grow : yX5_grow.cls = RX5 ∧ yX5_grow.cls ≠ "java/lang/invoke/MethodHandle" ∧ yX5_grow.cls ≠ "java/lang/invoke/VarHandle" ∧ (parseMethodDescriptor yX5_grow.desc).map (fun d => d.parameters.length) = some 2 := ⟨rfl, nmh_RX5.1, nmh_RX5.2, pds_3⟩
theorem dv_L_halve_s : yL_halve.cls ≠ "java/lang/invoke/MethodHandle" ∧ yL_halve.cls ≠ "java/lang/invoke/VarHandle" ∧ (parseMethodDescriptor yL_halve.desc).map (fun d => d.parameters.length) = some 4 := ⟨nmh_RL.1, nmh_RL.2, pds_62⟩
theorem dv_X5_halve : yX5_halve.cls = RX5 ∧ yX5_halve.cls ≠ "java/lang/invoke/MethodHandle" ∧ yX5_halve.cls ≠ "java/lang/invoke/VarHandle" ∧ (parseMethodDescriptor yX5_halve.desc).map (fun d => d.parameters.length) = some 2 := ⟨rfl, nmh_RX5.1, nmh_RX5.2, pds_3⟩
theorem dv_L_twice_s : yL_twice.cls ≠ "java/lang/invoke/MethodHandle" ∧ yL_twice.cls ≠ "java/lang/invoke/VarHandle" ∧ (parseMethodDescriptor yL_twice.desc).map (fun d => d.parameters.length) = some 4 := ⟨nmh_RL.1, nmh_RL.2, pds_62⟩
theorem dv_X5_twice : yX5_twice.cls = RX5 ∧ yX5_twice.cls ≠ "java/lang/invoke/MethodHandle" ∧ yX5_twice.cls ≠ "java/lang/invoke/VarHandle" ∧ (parseMethodDescriptor yX5_twice.desc).map (fun d => d.parameters.length) = some 2 := ⟨rfl, nmh_RX5.1, nmh_RX5.2, pds_3⟩
theorem dv_L_poll_s : yL_poll.cls ≠ "java/lang/invoke/MethodHandle" ∧ yL_poll.cls ≠ "java/lang/invoke/VarHandle" ∧ (parseMethodDescriptor yL_poll.desc).map (fun d => d.parameters.length) = some 4 := ⟨nmh_RL.1, nmh_RL.2, pds_63⟩
theorem dv_X5_poll : yX5_poll.cls = RX5 ∧ yX5_poll.cls ≠ "java/lang/invoke/MethodHandle" ∧ yX5_poll.cls ≠ "java/lang/invoke/VarHandle" ∧ (parseMethodDescriptor yX5_poll.desc).map (fun d => d.parameters.length) = some 2 := ⟨rfl, nmh_RX5.1, nmh_RX5.2, pds_56⟩
theorem dv_L_raise_s : yL_raise.cls ≠ "java/lang/invoke/MethodHandle" ∧ yL_raise.cls ≠ "java/lang/invoke/VarHandle" ∧ (parseMethodDescriptor yL_raise.desc).map (fun d => d.parameters.length) = some 4 := ⟨nmh_RL.1, nmh_RL.2, pds_62⟩
theorem dv_X5_raise : yX5_raise.cls = RX5 ∧ yX5_raise.cls ≠ "java/lang/invoke/MethodHandle" ∧ yX5_raise.cls ≠ "java/lang/invoke/VarHandle" ∧ (parseMethodDescriptor yX5_raise.desc).map (fun d => d.parameters.length) = some 2 := ⟨rfl, nmh_RX5.1, nmh_RX5.2, pds_3⟩
theorem dv_L_sift_s : yL_sift.cls ≠ "java/lang/invoke/MethodHandle" ∧ yL_sift.cls ≠ "java/lang/invoke/VarHandle" ∧ (parseMethodDescriptor yL_sift.desc).map (fun d => d.parameters.length) = some 4 := ⟨nmh_RL.1, nmh_RL.2, pds_62⟩
theorem dv_X5_sift : yX5_sift.cls = RX5 ∧ yX5_sift.cls ≠ "java/lang/invoke/MethodHandle" ∧ yX5_sift.cls ≠ "java/lang/invoke/VarHandle" ∧ (parseMethodDescriptor yX5_sift.desc).map (fun d => d.parameters.length) = some 2 := ⟨rfl, nmh_RX5.1, nmh_RX5.2, pds_3⟩
theorem dv_L_strikeValue_s : yL_strikeValue.cls ≠ "java/lang/invoke/MethodHandle" ∧ yL_strikeValue.cls ≠ "java/lang/invoke/VarHandle" ∧ (parseMethodDescriptor yL_strikeValue.desc).map (fun d => d.parameters.length) = some 4 := ⟨nmh_RL.1, nmh_RL.2, pds_62⟩
theorem dv_X5_strikeValue : yX5_strikeValue.cls = RX5 ∧ yX5_strikeValue.cls ≠ "java/lang/invoke/MethodHandle" ∧ yX5_strikeValue.cls ≠ "java/lang/invoke/VarHandle" ∧ (parseMethodDescriptor yX5_strikeValue.desc).map (fun d => d.parameters.length) = some 2 := ⟨rfl, nmh_RX5.1, nmh_RX5.2, pds_7⟩
theorem dv_L_clear_s : yL_clear.cls ≠ "java/lang/invoke/MethodHandle" ∧ yL_clear.cls ≠ "java/lang/invoke/VarHandle" ∧ (parseMethodDescriptor yL_clear.desc).map (fun d => d.parameters.length) = some 3 := ⟨nmh_RL.1, nmh_RL.2, pds_64⟩
theorem dv_X5_clear : yX5_clear.cls = RX5 ∧ yX5_clear.cls ≠ "java/lang/invoke/MethodHandle" ∧ yX5_clear.cls ≠ "java/lang/invoke/VarHandle" ∧ (parseMethodDescriptor yX5_clear.desc).map (fun d => d.parameters.length) = some 1 := ⟨rfl, nmh_RX5.1, nmh_RX5.2, pds_0⟩
theorem dv_L_pour_s : yL_pour.cls ≠ "java/lang/invoke/MethodHandle" ∧ yL_pour.cls ≠ "java/lang/invoke/VarHandle" ∧ (parseMethodDescriptor yL_pour.desc).map (fun d => d.parameters.length) = some 4 := ⟨nmh_RL.1, nmh_RL.2, pds_62⟩
theorem dv_X5_pour : yX5_pour.cls = RX5 ∧ yX5_pour.cls ≠ "java/lang/invoke/MethodHandle" ∧ yX5_pour.cls ≠ "java/lang/invoke/VarHandle" ∧ (parseMethodDescriptor yX5_pour.desc).map (fun d => d.parameters.length) = some 2 := ⟨rfl, nmh_RX5.1, nmh_RX5.2, pds_3⟩
theorem dv_L_copy_s : yL_copy.cls ≠ "java/lang/invoke/MethodHandle" ∧ yL_copy.cls ≠ "java/lang/invoke/VarHandle" ∧ (parseMethodDescriptor yL_copy.desc).map (fun d => d.parameters.length) = some 4 := ⟨nmh_RL.1, nmh_RL.2, pds_62⟩
theorem dv_X5_copy : yX5_copy.cls = RX5 ∧ yX5_copy.cls ≠ "java/lang/invoke/MethodHandle" ∧ yX5_copy.cls ≠ "java/lang/invoke/VarHandle" ∧ (parseMethodDescriptor yX5_copy.desc).map (fun d => d.parameters.length) = some 2 := ⟨rfl, nmh_RX5.1, nmh_RX5.2, pds_3⟩
theorem dv_X5_thrown : yX5_thrown.cls = RX5 ∧ yX5_thrown.cls ≠ "java/lang/invoke/MethodHandle" ∧ yX5_thrown.cls ≠ "java/lang/invoke/VarHandle" ∧ (parseMethodDescriptor yX5_thrown.desc).map (fun d => d.parameters.length) = some 0 := ⟨rfl, nmh_RX5.1, nmh_RX5.2, pds_4⟩
theorem dv_L_thin_s : yL_thin.cls ≠ "java/lang/invoke/MethodHandle" ∧ yL_thin.cls ≠ "java/lang/invoke/VarHandle" ∧ (parseMethodDescriptor yL_thin.desc).map (fun d => d.parameters.length) = some 5 := ⟨nmh_RL.1, nmh_RL.2, pds_65⟩
theorem dv_X5_thin : yX5_thin.cls = RX5 ∧ yX5_thin.cls ≠ "java/lang/invoke/MethodHandle" ∧ yX5_thin.cls ≠ "java/lang/invoke/VarHandle" ∧ (parseMethodDescriptor yX5_thin.desc).map (fun d => d.parameters.length) = some 3 := ⟨rfl, nmh_RX5.1, nmh_RX5.2, pds_57⟩
theorem dv_L_head_s : yL_head.cls ≠ "java/lang/invoke/MethodHandle" ∧ yL_head.cls ≠ "java/lang/invoke/VarHandle" ∧ (parseMethodDescriptor yL_head.desc).map (fun d => d.parameters.length) = some 5 := ⟨nmh_RL.1, nmh_RL.2, pds_65⟩
theorem dv_X5_head : yX5_head.cls = RX5 ∧ yX5_head.cls ≠ "java/lang/invoke/MethodHandle" ∧ yX5_head.cls ≠ "java/lang/invoke/VarHandle" ∧ (parseMethodDescriptor yX5_head.desc).map (fun d => d.parameters.length) = some 3 := ⟨rfl, nmh_RX5.1, nmh_RX5.2, pds_57⟩
theorem dv_L_tail_s : yL_tail.cls ≠ "java/lang/invoke/MethodHandle" ∧ yL_tail.cls ≠ "java/lang/invoke/VarHandle" ∧ (parseMethodDescriptor yL_tail.desc).map (fun d => d.parameters.length) = some 5 := ⟨nmh_RL.1, nmh_RL.2, pds_65⟩
theorem dv_X5_tail : yX5_tail.cls = RX5 ∧ yX5_tail.cls ≠ "java/lang/invoke/MethodHandle" ∧ yX5_tail.cls ≠ "java/lang/invoke/VarHandle" ∧ (parseMethodDescriptor yX5_tail.desc).map (fun d => d.parameters.length) = some 3 := ⟨rfl, nmh_RX5.1, nmh_RX5.2, pds_57⟩
theorem dv_L_sub_s : yL_sub.cls ≠ "java/lang/invoke/MethodHandle" ∧ yL_sub.cls ≠ "java/lang/invoke/VarHandle" ∧ (parseMethodDescriptor yL_sub.desc).map (fun d => d.parameters.length) = some 7 := ⟨nmh_RL.1, nmh_RL.2, pds_66⟩
theorem dv_X5_sub : yX5_sub.cls = RX5 ∧ yX5_sub.cls ≠ "java/lang/invoke/MethodHandle" ∧ yX5_sub.cls ≠ "java/lang/invoke/VarHandle" ∧ (parseMethodDescriptor yX5_sub.desc).map (fun d => d.parameters.length) = some 5 := ⟨rfl, nmh_RX5.1, nmh_RX5.2, pds_58⟩
theorem dv_L_part_s : yL_part.cls ≠ "java/lang/invoke/MethodHandle" ∧ yL_part.cls ≠ "java/lang/invoke/VarHandle" ∧ (parseMethodDescriptor yL_part.desc).map (fun d => d.parameters.length) = some 7 := ⟨nmh_RL.1, nmh_RL.2, pds_66⟩
theorem dv_X5_part : yX5_part.cls = RX5 ∧ yX5_part.cls ≠ "java/lang/invoke/MethodHandle" ∧ yX5_part.cls ≠ "java/lang/invoke/VarHandle" ∧ (parseMethodDescriptor yX5_part.desc).map (fun d => d.parameters.length) = some 5 := ⟨rfl, nmh_RX5.1, nmh_RX5.2, pds_58⟩
theorem dv_L_shut_s : yL_shut.cls ≠ "java/lang/invoke/MethodHandle" ∧ yL_shut.cls ≠ "java/lang/invoke/VarHandle" ∧ (parseMethodDescriptor yL_shut.desc).map (fun d => d.parameters.length) = some 3 := ⟨nmh_RL.1, nmh_RL.2, pds_64⟩
theorem dv_X5_shut : yX5_shut.cls = RX5 ∧ yX5_shut.cls ≠ "java/lang/invoke/MethodHandle" ∧ yX5_shut.cls ≠ "java/lang/invoke/VarHandle" ∧ (parseMethodDescriptor yX5_shut.desc).map (fun d => d.parameters.length) = some 1 := ⟨rfl, nmh_RX5.1, nmh_RX5.2, pds_0⟩
theorem dv_L_viewPut_s : yL_viewPut.cls ≠ "java/lang/invoke/MethodHandle" ∧ yL_viewPut.cls ≠ "java/lang/invoke/VarHandle" ∧ (parseMethodDescriptor yL_viewPut.desc).map (fun d => d.parameters.length) = some 5 := ⟨nmh_RL.1, nmh_RL.2, pds_60⟩
theorem dv_X5_viewPut : yX5_viewPut.cls = RX5 ∧ yX5_viewPut.cls ≠ "java/lang/invoke/MethodHandle" ∧ yX5_viewPut.cls ≠ "java/lang/invoke/VarHandle" ∧ (parseMethodDescriptor yX5_viewPut.desc).map (fun d => d.parameters.length) = some 3 := ⟨rfl, nmh_RX5.1, nmh_RX5.2, pds_32⟩
theorem dv_L_viewStrike_s : yL_viewStrike.cls ≠ "java/lang/invoke/MethodHandle" ∧ yL_viewStrike.cls ≠ "java/lang/invoke/VarHandle" ∧ (parseMethodDescriptor yL_viewStrike.desc).map (fun d => d.parameters.length) = some 4 := ⟨nmh_RL.1, nmh_RL.2, pds_62⟩
theorem dv_X5_viewStrike : yX5_viewStrike.cls = RX5 ∧ yX5_viewStrike.cls ≠ "java/lang/invoke/MethodHandle" ∧ yX5_viewStrike.cls ≠ "java/lang/invoke/VarHandle" ∧ (parseMethodDescriptor yX5_viewStrike.desc).map (fun d => d.parameters.length) = some 2 := ⟨rfl, nmh_RX5.1, nmh_RX5.2, pds_3⟩
theorem dv_L_viewMerge_s : yL_viewMerge.cls ≠ "java/lang/invoke/MethodHandle" ∧ yL_viewMerge.cls ≠ "java/lang/invoke/VarHandle" ∧ (parseMethodDescriptor yL_viewMerge.desc).map (fun d => d.parameters.length) = some 5 := ⟨nmh_RL.1, nmh_RL.2, pds_60⟩
theorem dv_X5_viewMerge : yX5_viewMerge.cls = RX5 ∧ yX5_viewMerge.cls ≠ "java/lang/invoke/MethodHandle" ∧ yX5_viewMerge.cls ≠ "java/lang/invoke/VarHandle" ∧ (parseMethodDescriptor yX5_viewMerge.desc).map (fun d => d.parameters.length) = some 3 := ⟨rfl, nmh_RX5.1, nmh_RX5.2, pds_32⟩
theorem dv_L_viewPoll_s : yL_viewPoll.cls ≠ "java/lang/invoke/MethodHandle" ∧ yL_viewPoll.cls ≠ "java/lang/invoke/VarHandle" ∧ (parseMethodDescriptor yL_viewPoll.desc).map (fun d => d.parameters.length) = some 4 := ⟨nmh_RL.1, nmh_RL.2, pds_63⟩
theorem dv_X5_viewPoll : yX5_viewPoll.cls = RX5 ∧ yX5_viewPoll.cls ≠ "java/lang/invoke/MethodHandle" ∧ yX5_viewPoll.cls ≠ "java/lang/invoke/VarHandle" ∧ (parseMethodDescriptor yX5_viewPoll.desc).map (fun d => d.parameters.length) = some 2 := ⟨rfl, nmh_RX5.1, nmh_RX5.2, pds_56⟩
theorem dv_L_viewClear_s : yL_viewClear.cls ≠ "java/lang/invoke/MethodHandle" ∧ yL_viewClear.cls ≠ "java/lang/invoke/VarHandle" ∧ (parseMethodDescriptor yL_viewClear.desc).map (fun d => d.parameters.length) = some 3 := ⟨nmh_RL.1, nmh_RL.2, pds_64⟩
theorem dv_X5_viewClear : yX5_viewClear.cls = RX5 ∧ yX5_viewClear.cls ≠ "java/lang/invoke/MethodHandle" ∧ yX5_viewClear.cls ≠ "java/lang/invoke/VarHandle" ∧ (parseMethodDescriptor yX5_viewClear.desc).map (fun d => d.parameters.length) = some 1 := ⟨rfl, nmh_RX5.1, nmh_RX5.2, pds_0⟩
theorem dv_L_walk_s : yL_walk.cls ≠ "java/lang/invoke/MethodHandle" ∧ yL_walk.cls ≠ "java/lang/invoke/VarHandle" ∧ (parseMethodDescriptor yL_walk.desc).map (fun d => d.parameters.length) = some 3 := ⟨nmh_RL.1, nmh_RL.2, pds_64⟩
theorem dv_X5_walk : yX5_walk.cls = RX5 ∧ yX5_walk.cls ≠ "java/lang/invoke/MethodHandle" ∧ yX5_walk.cls ≠ "java/lang/invoke/VarHandle" ∧ (parseMethodDescriptor yX5_walk.desc).map (fun d => d.parameters.length) = some 1 := ⟨rfl, nmh_RX5.1, nmh_RX5.2, pds_0⟩
theorem dv_L_viewWalk_s : yL_viewWalk.cls ≠ "java/lang/invoke/MethodHandle" ∧ yL_viewWalk.cls ≠ "java/lang/invoke/VarHandle" ∧ (parseMethodDescriptor yL_viewWalk.desc).map (fun d => d.parameters.length) = some 3 := ⟨nmh_RL.1, nmh_RL.2, pds_64⟩
theorem dv_X5_viewWalk : yX5_viewWalk.cls = RX5 ∧ yX5_viewWalk.cls ≠ "java/lang/invoke/MethodHandle" ∧ yX5_viewWalk.cls ≠ "java/lang/invoke/VarHandle" ∧ (parseMethodDescriptor yX5_viewWalk.desc).map (fun d => d.parameters.length) = some 1 := ⟨rfl, nmh_RX5.1, nmh_RX5.2, pds_0⟩
theorem dv_L_step_s : yL_step.cls ≠ "java/lang/invoke/MethodHandle" ∧ yL_step.cls ≠ "java/lang/invoke/VarHandle" ∧ (parseMethodDescriptor yL_step.desc).map (fun d => d.parameters.length) = some 2 := ⟨nmh_RL.1, nmh_RL.2, pds_67⟩
theorem dv_X5_step : yX5_step.cls = RX5 ∧ yX5_step.cls ≠ "java/lang/invoke/MethodHandle" ∧ yX5_step.cls ≠ "java/lang/invoke/VarHandle" ∧ (parseMethodDescriptor yX5_step.desc).map (fun d => d.parameters.length) = some 0 := ⟨rfl, nmh_RX5.1, nmh_RX5.2, pds_4⟩
theorem dv_L_write_s : yL_write.cls ≠ "java/lang/invoke/MethodHandle" ∧ yL_write.cls ≠ "java/lang/invoke/VarHandle" ∧ (parseMethodDescriptor yL_write.desc).map (fun d => d.parameters.length) = some 3 := ⟨nmh_RL.1, nmh_RL.2, pds_64⟩
theorem dv_X5_write : yX5_write.cls = RX5 ∧ yX5_write.cls ≠ "java/lang/invoke/MethodHandle" ∧ yX5_write.cls ≠ "java/lang/invoke/VarHandle" ∧ (parseMethodDescriptor yX5_write.desc).map (fun d => d.parameters.length) = some 1 := ⟨rfl, nmh_RX5.1, nmh_RX5.2, pds_0⟩
theorem dv_L_drop_s : yL_drop.cls ≠ "java/lang/invoke/MethodHandle" ∧ yL_drop.cls ≠ "java/lang/invoke/VarHandle" ∧ (parseMethodDescriptor yL_drop.desc).map (fun d => d.parameters.length) = some 2 := ⟨nmh_RL.1, nmh_RL.2, pds_67⟩
theorem dv_X5_drop : yX5_drop.cls = RX5 ∧ yX5_drop.cls ≠ "java/lang/invoke/MethodHandle" ∧ yX5_drop.cls ≠ "java/lang/invoke/VarHandle" ∧ (parseMethodDescriptor yX5_drop.desc).map (fun d => d.parameters.length) = some 0 := ⟨rfl, nmh_RX5.1, nmh_RX5.2, pds_4⟩
theorem dv_L_keep_s : yL_keep.cls ≠ "java/lang/invoke/MethodHandle" ∧ yL_keep.cls ≠ "java/lang/invoke/VarHandle" ∧ (parseMethodDescriptor yL_keep.desc).map (fun d => d.parameters.length) = some 4 := ⟨nmh_RL.1, nmh_RL.2, pds_63⟩
theorem dv_X5_keep : yX5_keep.cls = RX5 ∧ yX5_keep.cls ≠ "java/lang/invoke/MethodHandle" ∧ yX5_keep.cls ≠ "java/lang/invoke/VarHandle" ∧ (parseMethodDescriptor yX5_keep.desc).map (fun d => d.parameters.length) = some 2 := ⟨rfl, nmh_RX5.1, nmh_RX5.2, pds_56⟩
theorem dv_L_brand_s : yL_brand.cls ≠ "java/lang/invoke/MethodHandle" ∧ yL_brand.cls ≠ "java/lang/invoke/VarHandle" ∧ (parseMethodDescriptor yL_brand.desc).map (fun d => d.parameters.length) = some 3 := ⟨nmh_RL.1, nmh_RL.2, pds_64⟩
theorem dv_X5_brand : yX5_brand.cls = RX5 ∧ yX5_brand.cls ≠ "java/lang/invoke/MethodHandle" ∧ yX5_brand.cls ≠ "java/lang/invoke/VarHandle" ∧ (parseMethodDescriptor yX5_brand.desc).map (fun d => d.parameters.length) = some 1 := ⟨rfl, nmh_RX5.1, nmh_RX5.2, pds_0⟩
theorem dv_X3_knock : yX3_knock.cls = RX3 ∧ yX3_knock.cls ≠ "java/lang/invoke/MethodHandle" ∧ yX3_knock.cls ≠ "java/lang/invoke/VarHandle" ∧ (parseMethodDescriptor yX3_knock.desc).map (fun d => d.parameters.length) = some 0 := ⟨rfl, nmh_RX3.1, nmh_RX3.2, pds_4⟩
theorem dv_X5_knock : yX5_knock.cls = RX5 ∧ yX5_knock.cls ≠ "java/lang/invoke/MethodHandle" ∧ yX5_knock.cls ≠ "java/lang/invoke/VarHandle" ∧ (parseMethodDescriptor yX5_knock.desc).map (fun d => d.parameters.length) = some 0 := ⟨rfl, nmh_RX5.1, nmh_RX5.2, pds_4⟩
theorem dv_L_get_s : yL_get.cls ≠ "java/lang/invoke/MethodHandle" ∧ yL_get.cls ≠ "java/lang/invoke/VarHandle" ∧ (parseMethodDescriptor yL_get.desc).map (fun d => d.parameters.length) = some 4 := ⟨nmh_RL.1, nmh_RL.2, pds_62⟩
theorem dv_X5_get : yX5_get.cls = RX5 ∧ yX5_get.cls ≠ "java/lang/invoke/MethodHandle" ∧ yX5_get.cls ≠ "java/lang/invoke/VarHandle" ∧ (parseMethodDescriptor yX5_get.desc).map (fun d => d.parameters.length) = some 2 := ⟨rfl, nmh_RX5.1, nmh_RX5.2, pds_3⟩
theorem dv_L_getOr_s : yL_getOr.cls ≠ "java/lang/invoke/MethodHandle" ∧ yL_getOr.cls ≠ "java/lang/invoke/VarHandle" ∧ (parseMethodDescriptor yL_getOr.desc).map (fun d => d.parameters.length) = some 5 := ⟨nmh_RL.1, nmh_RL.2, pds_60⟩
theorem dv_X5_getOr : yX5_getOr.cls = RX5 ∧ yX5_getOr.cls ≠ "java/lang/invoke/MethodHandle" ∧ yX5_getOr.cls ≠ "java/lang/invoke/VarHandle" ∧ (parseMethodDescriptor yX5_getOr.desc).map (fun d => d.parameters.length) = some 3 := ⟨rfl, nmh_RX5.1, nmh_RX5.2, pds_32⟩
theorem dv_L_has_s : yL_has.cls ≠ "java/lang/invoke/MethodHandle" ∧ yL_has.cls ≠ "java/lang/invoke/VarHandle" ∧ (parseMethodDescriptor yL_has.desc).map (fun d => d.parameters.length) = some 4 := ⟨nmh_RL.1, nmh_RL.2, pds_62⟩
theorem dv_X5_has : yX5_has.cls = RX5 ∧ yX5_has.cls ≠ "java/lang/invoke/MethodHandle" ∧ yX5_has.cls ≠ "java/lang/invoke/VarHandle" ∧ (parseMethodDescriptor yX5_has.desc).map (fun d => d.parameters.length) = some 2 := ⟨rfl, nmh_RX5.1, nmh_RX5.2, pds_7⟩
theorem dv_L_hasValue_s : yL_hasValue.cls ≠ "java/lang/invoke/MethodHandle" ∧ yL_hasValue.cls ≠ "java/lang/invoke/VarHandle" ∧ (parseMethodDescriptor yL_hasValue.desc).map (fun d => d.parameters.length) = some 4 := ⟨nmh_RL.1, nmh_RL.2, pds_62⟩
theorem dv_X5_hasValue : yX5_hasValue.cls = RX5 ∧ yX5_hasValue.cls ≠ "java/lang/invoke/MethodHandle" ∧ yX5_hasValue.cls ≠ "java/lang/invoke/VarHandle" ∧ (parseMethodDescriptor yX5_hasValue.desc).map (fun d => d.parameters.length) = some 2 := ⟨rfl, nmh_RX5.1, nmh_RX5.2, pds_7⟩
theorem dv_L_ofBook_s : yL_ofBook.cls ≠ "java/lang/invoke/MethodHandle" ∧ yL_ofBook.cls ≠ "java/lang/invoke/VarHandle" ∧ (parseMethodDescriptor yL_ofBook.desc).map (fun d => d.parameters.length) = some 4 := ⟨nmh_RL.1, nmh_RL.2, pds_62⟩
theorem dv_X5_ofBook : yX5_ofBook.cls = RX5 ∧ yX5_ofBook.cls ≠ "java/lang/invoke/MethodHandle" ∧ yX5_ofBook.cls ≠ "java/lang/invoke/VarHandle" ∧ (parseMethodDescriptor yX5_ofBook.desc).map (fun d => d.parameters.length) = some 2 := ⟨rfl, nmh_RX5.1, nmh_RX5.2, pds_3⟩
theorem dv_L_near_s : yL_near.cls ≠ "java/lang/invoke/MethodHandle" ∧ yL_near.cls ≠ "java/lang/invoke/VarHandle" ∧ (parseMethodDescriptor yL_near.desc).map (fun d => d.parameters.length) = some 5 := ⟨nmh_RL.1, nmh_RL.2, pds_60⟩
theorem dv_X5_near : yX5_near.cls = RX5 ∧ yX5_near.cls ≠ "java/lang/invoke/MethodHandle" ∧ yX5_near.cls ≠ "java/lang/invoke/VarHandle" ∧ (parseMethodDescriptor yX5_near.desc).map (fun d => d.parameters.length) = some 3 := ⟨rfl, nmh_RX5.1, nmh_RX5.2, pds_32⟩
theorem dv_L_place_s : yL_place.cls ≠ "java/lang/invoke/MethodHandle" ∧ yL_place.cls ≠ "java/lang/invoke/VarHandle" ∧ (parseMethodDescriptor yL_place.desc).map (fun d => d.parameters.length) = some 4 := ⟨nmh_RL.1, nmh_RL.2, pds_62⟩
theorem dv_X5_place : yX5_place.cls = RX5 ∧ yX5_place.cls ≠ "java/lang/invoke/MethodHandle" ∧ yX5_place.cls ≠ "java/lang/invoke/VarHandle" ∧ (parseMethodDescriptor yX5_place.desc).map (fun d => d.parameters.length) = some 2 := ⟨rfl, nmh_RX5.1, nmh_RX5.2, pds_3⟩
theorem dv_L_at_s : yL_at.cls ≠ "java/lang/invoke/MethodHandle" ∧ yL_at.cls ≠ "java/lang/invoke/VarHandle" ∧ (parseMethodDescriptor yL_at.desc).map (fun d => d.parameters.length) = some 4 := ⟨nmh_RL.1, nmh_RL.2, pds_62⟩
theorem dv_X5_at : yX5_at.cls = RX5 ∧ yX5_at.cls ≠ "java/lang/invoke/MethodHandle" ∧ yX5_at.cls ≠ "java/lang/invoke/VarHandle" ∧ (parseMethodDescriptor yX5_at.desc).map (fun d => d.parameters.length) = some 2 := ⟨rfl, nmh_RX5.1, nmh_RX5.2, pds_3⟩
theorem dv_L_row_s : yL_row.cls ≠ "java/lang/invoke/MethodHandle" ∧ yL_row.cls ≠ "java/lang/invoke/VarHandle" ∧ (parseMethodDescriptor yL_row.desc).map (fun d => d.parameters.length) = some 3 := ⟨nmh_RL.1, nmh_RL.2, pds_64⟩
theorem dv_X5_row : yX5_row.cls = RX5 ∧ yX5_row.cls ≠ "java/lang/invoke/MethodHandle" ∧ yX5_row.cls ≠ "java/lang/invoke/VarHandle" ∧ (parseMethodDescriptor yX5_row.desc).map (fun d => d.parameters.length) = some 1 := ⟨rfl, nmh_RX5.1, nmh_RX5.2, pds_59⟩
theorem dv_L_same_s : yL_same.cls ≠ "java/lang/invoke/MethodHandle" ∧ yL_same.cls ≠ "java/lang/invoke/VarHandle" ∧ (parseMethodDescriptor yL_same.desc).map (fun d => d.parameters.length) = some 4 := ⟨nmh_RL.1, nmh_RL.2, pds_62⟩
theorem dv_X5_same : yX5_same.cls = RX5 ∧ yX5_same.cls ≠ "java/lang/invoke/MethodHandle" ∧ yX5_same.cls ≠ "java/lang/invoke/VarHandle" ∧ (parseMethodDescriptor yX5_same.desc).map (fun d => d.parameters.length) = some 2 := ⟨rfl, nmh_RX5.1, nmh_RX5.2, pds_7⟩
theorem dv_L_viewGet_s : yL_viewGet.cls ≠ "java/lang/invoke/MethodHandle" ∧ yL_viewGet.cls ≠ "java/lang/invoke/VarHandle" ∧ (parseMethodDescriptor yL_viewGet.desc).map (fun d => d.parameters.length) = some 4 := ⟨nmh_RL.1, nmh_RL.2, pds_62⟩
theorem dv_X5_viewGet : yX5_viewGet.cls = RX5 ∧ yX5_viewGet.cls ≠ "java/lang/invoke/MethodHandle" ∧ yX5_viewGet.cls ≠ "java/lang/invoke/VarHandle" ∧ (parseMethodDescriptor yX5_viewGet.desc).map (fun d => d.parameters.length) = some 2 := ⟨rfl, nmh_RX5.1, nmh_RX5.2, pds_3⟩
theorem dv_L_ofView_s : yL_ofView.cls ≠ "java/lang/invoke/MethodHandle" ∧ yL_ofView.cls ≠ "java/lang/invoke/VarHandle" ∧ (parseMethodDescriptor yL_ofView.desc).map (fun d => d.parameters.length) = some 4 := ⟨nmh_RL.1, nmh_RL.2, pds_62⟩
theorem dv_X5_ofView : yX5_ofView.cls = RX5 ∧ yX5_ofView.cls ≠ "java/lang/invoke/MethodHandle" ∧ yX5_ofView.cls ≠ "java/lang/invoke/VarHandle" ∧ (parseMethodDescriptor yX5_ofView.desc).map (fun d => d.parameters.length) = some 2 := ⟨rfl, nmh_RX5.1, nmh_RX5.2, pds_3⟩
theorem dv_L_viewNear_s : yL_viewNear.cls ≠ "java/lang/invoke/MethodHandle" ∧ yL_viewNear.cls ≠ "java/lang/invoke/VarHandle" ∧ (parseMethodDescriptor yL_viewNear.desc).map (fun d => d.parameters.length) = some 5 := ⟨nmh_RL.1, nmh_RL.2, pds_60⟩
theorem dv_X5_viewNear : yX5_viewNear.cls = RX5 ∧ yX5_viewNear.cls ≠ "java/lang/invoke/MethodHandle" ∧ yX5_viewNear.cls ≠ "java/lang/invoke/VarHandle" ∧ (parseMethodDescriptor yX5_viewNear.desc).map (fun d => d.parameters.length) = some 3 := ⟨rfl, nmh_RX5.1, nmh_RX5.2, pds_32⟩
theorem dv_L_viewRow_s : yL_viewRow.cls ≠ "java/lang/invoke/MethodHandle" ∧ yL_viewRow.cls ≠ "java/lang/invoke/VarHandle" ∧ (parseMethodDescriptor yL_viewRow.desc).map (fun d => d.parameters.length) = some 3 := ⟨nmh_RL.1, nmh_RL.2, pds_64⟩
theorem dv_X5_viewRow : yX5_viewRow.cls = RX5 ∧ yX5_viewRow.cls ≠ "java/lang/invoke/MethodHandle" ∧ yX5_viewRow.cls ≠ "java/lang/invoke/VarHandle" ∧ (parseMethodDescriptor yX5_viewRow.desc).map (fun d => d.parameters.length) = some 1 := ⟨rfl, nmh_RX5.1, nmh_RX5.2, pds_59⟩
theorem dv_L_ledger_s : yL_ledger.cls ≠ "java/lang/invoke/MethodHandle" ∧ yL_ledger.cls ≠ "java/lang/invoke/VarHandle" ∧ (parseMethodDescriptor yL_ledger.desc).map (fun d => d.parameters.length) = some 3 := ⟨nmh_RL.1, nmh_RL.2, pds_64⟩
theorem dv_X5_ledger : yX5_ledger.cls = RX5 ∧ yX5_ledger.cls ≠ "java/lang/invoke/MethodHandle" ∧ yX5_ledger.cls ≠ "java/lang/invoke/VarHandle" ∧ (parseMethodDescriptor yX5_ledger.desc).map (fun d => d.parameters.length) = some 1 := ⟨rfl, nmh_RX5.1, nmh_RX5.2, pds_0⟩
theorem dv_X5_isSound : yX5_isSound.cls = RX5 ∧ yX5_isSound.cls ≠ "java/lang/invoke/MethodHandle" ∧ yX5_isSound.cls ≠ "java/lang/invoke/VarHandle" ∧ (parseMethodDescriptor yX5_isSound.desc).map (fun d => d.parameters.length) = some 0 := ⟨rfl, nmh_RX5.1, nmh_RX5.2, pds_16⟩
theorem dv_X3_digest : yX3_digest.cls = RX3 ∧ yX3_digest.cls ≠ "java/lang/invoke/MethodHandle" ∧ yX3_digest.cls ≠ "java/lang/invoke/VarHandle" ∧ (parseMethodDescriptor yX3_digest.desc).map (fun d => d.parameters.length) = some 0 := ⟨rfl, nmh_RX3.1, nmh_RX3.2, pds_68⟩
theorem dv_X5_digest : yX5_digest.cls = RX5 ∧ yX5_digest.cls ≠ "java/lang/invoke/MethodHandle" ∧ yX5_digest.cls ≠ "java/lang/invoke/VarHandle" ∧ (parseMethodDescriptor yX5_digest.desc).map (fun d => d.parameters.length) = some 0 := ⟨rfl, nmh_RX5.1, nmh_RX5.2, pds_68⟩
set_option maxHeartbeats 8000000 in
set_option maxRecDepth 100000 in
theorem k_0 {p : Program} {l : Launch} {e : Env} {R : Room} {s : State} {m : MethodId} {args : Array Value} {below : List Frame} {meth : Method} {c : Code} {Q : State → Prop} {G : xG} {b L : Nat} {xs : Nat → Int32} {nm : String} (hst : l.stackTraces = false) (hRf : R.frames = 2048) {C9 S9 : Nat} (hRc : R.cells = C9) (hRs : R.slots = S9) (hC9 : 513000 ≤ C9) (hS9 : 6932000 ≤ S9) (hRl : R.locals = 84000) (hC : xB p s m args meth c cL_law 7 "RangeledgerLaw" nm wsL_law (some .boolean) G (xA (fun _ => none) s.heap.size)) (hX : va_X b L xs s s.heap) (hbl : b < s.heap.size) (hL : L ≤ 3072) {h0 a o : Nat} {N : Int} (hN : N ≤ 590) {s9 : ST} {S : Nat → Bool} {M : HM} {H : Heap} {locs : List Loc} {ls : Array Slot} {i : Int} {cu su : Nat} (hw : xD G (xA (fun _ => none) s.heap.size) s M H locs) (hS : LwS G M h0 a o N s9 S) (hl : lv_has ls 7 [(0, .ref b), (1, .ref h0), (2, .ref a), (3, .ref o), (4, .int (iN (i)))]) (hi : 0 ≤ i ∧ i + 6 ≤ L) (hcu : cu + 1000 ≤ C9) (hsu : su + 15590 ≤ S9) (kk : ∀ (M1 : HM) (H1 : Heap) (locs1 : List Loc) (ls1 : Array Slot) (s1 : ST) (S1 : Nat → Bool), xD G (xA (fun _ => none) s.heap.size) s M1 H1 locs1 → LwS G M1 h0 a o (N + 1) s1 S1 → lv_has ls1 7 [(0, .ref b), (1, .ref h0), (2, .ref a), (3, .ref o), (4, .int (iN (i)))] → mC S1 100 ≤ mC S 100 + 1 → W p l e R s m args below meth c H1 locs1 (cu + 3) (su + (18)) Q (F0 m 2584 ls1 [])) : W p l e R s m args below meth c H locs cu su Q (F0 m 272 ls []) := by
  obtain ⟨A, B, d, sv, th0, hM, hG, hm, hdA, hdB⟩ := hS
  subst hM
  obtain ⟨O, V, Wv, K, kp, kv, rfd⟩ := s9
  have hbA : ¬ (xA (fun _ => none) s.heap.size) b := fun h9 => h9.elim (fun h8 => h8 rfl) (fun h8 => by omega)
  refine lv_aload_n hC.1 hC.2.1 dL_law_272 rfl (lv_at hl 1 rfl) ?_
  refine lv_aload_n hC.1 hC.2.1 dL_law_273 rfl (lv_at hl 0 rfl) ?_
  refine lv_iload hC.1 hC.2.1 dL_law_274 (lv_at hl 4 rfl) ?_
  refine x_const hC dL_law_276 ?_
  refine x_iadd hC dL_law_277 ?_
  refine x_sld hC hw hX hbl hbA (by omega) (by omega) (by omega) dL_law_278 ?_
  obtain ⟨z_1, hz_1⟩ : ∃ z : Int, z = (xs (i + 1).toNat).toInt := ⟨_, rfl⟩
  rw [← hz_1]
  have hrz_1 : -2147483648 ≤ z_1 ∧ z_1 ≤ 2147483647 := by rw [hz_1]; exact iN_rng _
  refine lv_aload_n hC.1 hC.2.1 dL_law_279 rfl (lv_at hl 0 rfl) ?_
  refine lv_iload hC.1 hC.2.1 dL_law_280 (lv_at hl 4 rfl) ?_
  refine x_const hC dL_law_282 ?_
  refine x_iadd hC dL_law_283 ?_
  refine x_sld hC hw hX hbl hbA (by omega) (by omega) (by omega) dL_law_284 ?_
  obtain ⟨z_2, hz_2⟩ : ∃ z : Int, z = (xs (i + 2).toNat).toInt := ⟨_, rfl⟩
  rw [← hz_2]
  have hrz_2 : -2147483648 ≤ z_2 ∧ z_2 ≤ 2147483647 := by rw [hz_2]; exact iN_rng _
  refine lv_aload_n hC.1 hC.2.1 dL_law_285 rfl (lv_at hl 0 rfl) ?_
  refine lv_iload hC.1 hC.2.1 dL_law_286 (lv_at hl 4 rfl) ?_
  refine x_const hC dL_law_288 ?_
  refine x_iadd hC dL_law_289 ?_
  refine x_sld hC hw hX hbl hbA (by omega) (by omega) (by omega) dL_law_290 ?_
  obtain ⟨z_3, hz_3⟩ : ∃ z : Int, z = (xs (i + 3).toNat).toInt := ⟨_, rfl⟩
  rw [← hz_3]
  have hrz_3 : -2147483648 ≤ z_3 ∧ z_3 ≤ 2147483647 := by rw [hz_3]; exact iN_rng _
  refine lv_aload_n hC.1 hC.2.1 dL_law_291 rfl (lv_at hl 3 rfl) ?_
  refine x_callSW hC hw (lv_size hl) ((c_L_put l G hst hG hN hdA (p0 := z_1) (by omega) (p1 := z_2) (by omega) (p2 := z_3) (by omega)).frame hdB) gL_law_L_put rfl dv_L_put_s rfl (Nat.le_of_ble_eq_true rfl) (by rw [hRf]; decide) (by rw [hRl]; decide) (by first | (rw [hRc]; decide) | omega) (by first | (rw [hRs]; decide) | omega) dL_law_292 (fun r9 M1 H locs hq hw => ?_)
  obtain ⟨Ck_4, ⟨zk_4, hrk_4, Ak_4, dk_4, svk_4, hCk_4, hdA, hw9⟩, hMk_4, hdB⟩ := hq
  subst hrk_4
  subst hCk_4
  subst hMk_4
  have hzrk_4 : 0 ≤ zk_4 ∧ zk_4 ≤ 3 := by rcases hw9 with ⟨h1, _⟩ | ⟨h1, h2, _⟩; (· omega); (· omega)
  show W p l e R s m args below meth c H locs _ _ _ (F0 m 295 ls [.int (iN (zk_4))])
  refine lv_istore (lv' := [(5, .int (iN (zk_4))), (0, .ref b), (1, .ref h0), (2, .ref a), (3, .ref o), (4, .int (iN (i)))]) hC.1 hC.2.1 dL_law_295 hl (by decide) rfl (fun ls hl => ?_)
  refine lv_aload_n hC.1 hC.2.1 dL_law_297 rfl (lv_at hl 3 rfl) ?_
  refine lv_aload_n hC.1 hC.2.1 dL_law_298 rfl (lv_at hl 1 rfl) ?_
  refine lv_iload hC.1 hC.2.1 dL_law_299 (lv_at hl 5 rfl) ?_
  refine x_const hC dL_law_301 ?_
  refine x_iadd hC dL_law_302 ?_
  refine x_sld hC hw hX hbl hbA (by omega) (by omega) (by omega) dL_law_303 ?_
  rw [← hz_1]
  refine lv_aload_n hC.1 hC.2.1 dL_law_304 rfl (lv_at hl 1 rfl) ?_
  refine lv_iload hC.1 hC.2.1 dL_law_305 (lv_at hl 5 rfl) ?_
  refine x_const hC dL_law_307 ?_
  refine x_iadd hC dL_law_308 ?_
  refine x_sld hC hw hX hbl hbA (by omega) (by omega) (by omega) dL_law_309 ?_
  rw [← hz_2]
  refine lv_aload_n hC.1 hC.2.1 dL_law_310 rfl (lv_at hl 1 rfl) ?_
  refine lv_iload hC.1 hC.2.1 dL_law_311 (lv_at hl 5 rfl) ?_
  refine x_const hC dL_law_313 ?_
  refine x_iadd hC dL_law_314 ?_
  refine x_sld hC hw hX hbl hbA (by omega) (by omega) (by omega) dL_law_315 ?_
  rw [← hz_3]
  rw [xU_comm hdB] at hw
  have hm := hm.add (z_2).toNat
  obtain ⟨va, oa, wa, ya, wk, br, re, la, ha, qv, qw, fa, fb, fy, wt, hR, hK⟩ := hm
  replace hR : MGx G B a va oa wa ya wk th0 rfd br re la ha kp kv qv qw fa fb V O fy Wv wt (sAdd S (z_2).toNat) := hR
  replace hK : abM O wt br re la ha K := hK
  refine x_callV hC hw (lv_size hl) ((c_X5_put l G hR hK (p0 := z_1) (by omega) (p1 := z_2) (by omega) (p2 := z_3) (by omega) (fun _ => by simp [sAdd])).frame hdB.symm) gL_law_X5_put rfl dv_X5_put (xU_l hR.1.1) rfl rfl (Nat.le_of_ble_eq_true rfl) (by rw [hRf]; decide) (by rw [hRl]; decide) (by first | (rw [hRc]; decide) | omega) (by first | (rw [hRs]; decide) | omega) dL_law_316 (fun r9 M1 H locs hq hw => ?_)
  obtain ⟨Bk_5, ⟨zk_5, thk_5, hrk_5, hzk_5, hv9⟩, hMk_5, hdB9⟩ := hq
  subst hrk_5
  subst hMk_5
  have hdB := hdB9.symm
  rw [xU_comm hdB9] at hw
  obtain ⟨s1, hG, hm, hkt, hthr, hans⟩ : ∃ s1 : ST, RG G Ak_4 h0 (N + 1) s1 ∧ MGm G Bk_5 a (sAdd S (z_2).toNat) thk_5 s1 ∧ zk_4 = thk_5 ∧ (0 ≤ thk_5 ∧ thk_5 ≤ 3) ∧ (zk_4 = 0 → dk_4 = (iN zk_5).toInt64) := by
    rcases hw9 with ⟨h1, h2, ⟨z8, h3, h4, h5⟩, h6⟩ | ⟨h1, h2, h6⟩
    · rcases hv9 with ⟨g1, g2, g4, g5⟩ | ⟨g1, g2, g5⟩
      · exact ⟨_, h6, g5, by omega, by omega, fun _ => (show dk_4 = (iN zk_5).toInt64 by rw [h3, h5, g4])⟩
      · exfalso; omega
    · rcases hv9 with ⟨g1, g2, g4, g5⟩ | ⟨g1, g2, g5⟩
      · exfalso; omega
      · exact ⟨_, h6, g5, by omega, by omega, fun q9 => absurd q9 h1⟩
  clear hw9 hv9
  show W p l e R s m args below meth c H locs _ _ _ (F0 m 319 ls [.int (iN (zk_5))])
  refine lv_istore (lv' := [(6, .int (iN (zk_5))), (5, .int (iN (zk_4))), (0, .ref b), (1, .ref h0), (2, .ref a), (3, .ref o), (4, .int (iN (i)))]) hC.1 hC.2.1 dL_law_319 hl (by decide) rfl (fun ls hl => ?_)
  refine lv_goto (tgt := 2584) hC.1 hC.2.1 dL_law_321 (by decide) ?_
  refine W.widen (k := cu + 3) (n := su + (18)) (by omega) (by omega) ?_
  exact kk _ _ _ _ _ (sAdd S (z_2).toNat) hw ⟨_, _, _, _, _, rfl, hG, hm, hdA, hdB⟩ (lv_sub hl [2, 3, 4, 5, 6] rfl) (mC_add1 _ _)
set_option maxHeartbeats 8000000 in
set_option maxRecDepth 100000 in
theorem k_1 {p : Program} {l : Launch} {e : Env} {R : Room} {s : State} {m : MethodId} {args : Array Value} {below : List Frame} {meth : Method} {c : Code} {Q : State → Prop} {G : xG} {b L : Nat} {xs : Nat → Int32} {nm : String} (hst : l.stackTraces = false) (hRf : R.frames = 2048) {C9 S9 : Nat} (hRc : R.cells = C9) (hRs : R.slots = S9) (hC9 : 513000 ≤ C9) (hS9 : 6932000 ≤ S9) (hRl : R.locals = 84000) (hC : xB p s m args meth c cL_law 7 "RangeledgerLaw" nm wsL_law (some .boolean) G (xA (fun _ => none) s.heap.size)) (hX : va_X b L xs s s.heap) (hbl : b < s.heap.size) (hL : L ≤ 3072) {h0 a o : Nat} {N : Int} (hN : N ≤ 590) {s9 : ST} {S : Nat → Bool} {M : HM} {H : Heap} {locs : List Loc} {ls : Array Slot} {i : Int} {cu su : Nat} (hw : xD G (xA (fun _ => none) s.heap.size) s M H locs) (hS : LwS G M h0 a o N s9 S) (hl : lv_has ls 7 [(0, .ref b), (1, .ref h0), (2, .ref a), (3, .ref o), (4, .int (iN (i)))]) (hi : 0 ≤ i ∧ i + 6 ≤ L) (hcu : cu + 1000 ≤ C9) (hsu : su + 15590 ≤ S9) (kk : ∀ (M1 : HM) (H1 : Heap) (locs1 : List Loc) (ls1 : Array Slot) (s1 : ST) (S1 : Nat → Bool), xD G (xA (fun _ => none) s.heap.size) s M1 H1 locs1 → LwS G M1 h0 a o (N + 1) s1 S1 → lv_has ls1 7 [(0, .ref b), (1, .ref h0), (2, .ref a), (3, .ref o), (4, .int (iN (i)))] → mC S1 100 ≤ mC S 100 + 1 → W p l e R s m args below meth c H1 locs1 (cu + 3) (su + (18)) Q (F0 m 2584 ls1 [])) : W p l e R s m args below meth c H locs cu su Q (F0 m 324 ls []) := by
  obtain ⟨A, B, d, sv, th0, hM, hG, hm, hdA, hdB⟩ := hS
  subst hM
  obtain ⟨O, V, Wv, K, kp, kv, rfd⟩ := s9
  have hbA : ¬ (xA (fun _ => none) s.heap.size) b := fun h9 => h9.elim (fun h8 => h8 rfl) (fun h8 => by omega)
  refine lv_aload_n hC.1 hC.2.1 dL_law_324 rfl (lv_at hl 1 rfl) ?_
  refine lv_aload_n hC.1 hC.2.1 dL_law_325 rfl (lv_at hl 0 rfl) ?_
  refine lv_iload hC.1 hC.2.1 dL_law_326 (lv_at hl 4 rfl) ?_
  refine x_const hC dL_law_328 ?_
  refine x_iadd hC dL_law_329 ?_
  refine x_sld hC hw hX hbl hbA (by omega) (by omega) (by omega) dL_law_330 ?_
  obtain ⟨z_1, hz_1⟩ : ∃ z : Int, z = (xs (i + 1).toNat).toInt := ⟨_, rfl⟩
  rw [← hz_1]
  have hrz_1 : -2147483648 ≤ z_1 ∧ z_1 ≤ 2147483647 := by rw [hz_1]; exact iN_rng _
  refine lv_aload_n hC.1 hC.2.1 dL_law_331 rfl (lv_at hl 0 rfl) ?_
  refine lv_iload hC.1 hC.2.1 dL_law_332 (lv_at hl 4 rfl) ?_
  refine x_const hC dL_law_334 ?_
  refine x_iadd hC dL_law_335 ?_
  refine x_sld hC hw hX hbl hbA (by omega) (by omega) (by omega) dL_law_336 ?_
  obtain ⟨z_2, hz_2⟩ : ∃ z : Int, z = (xs (i + 2).toNat).toInt := ⟨_, rfl⟩
  rw [← hz_2]
  have hrz_2 : -2147483648 ≤ z_2 ∧ z_2 ≤ 2147483647 := by rw [hz_2]; exact iN_rng _
  refine lv_aload_n hC.1 hC.2.1 dL_law_337 rfl (lv_at hl 0 rfl) ?_
  refine lv_iload hC.1 hC.2.1 dL_law_338 (lv_at hl 4 rfl) ?_
  refine x_const hC dL_law_340 ?_
  refine x_iadd hC dL_law_341 ?_
  refine x_sld hC hw hX hbl hbA (by omega) (by omega) (by omega) dL_law_342 ?_
  obtain ⟨z_3, hz_3⟩ : ∃ z : Int, z = (xs (i + 3).toNat).toInt := ⟨_, rfl⟩
  rw [← hz_3]
  have hrz_3 : -2147483648 ≤ z_3 ∧ z_3 ≤ 2147483647 := by rw [hz_3]; exact iN_rng _
  refine lv_aload_n hC.1 hC.2.1 dL_law_343 rfl (lv_at hl 3 rfl) ?_
  refine x_callSW hC hw (lv_size hl) ((c_L_putAbsent l G hst hG hN hdA (p0 := z_1) (by omega) (p1 := z_2) (by omega) (p2 := z_3) (by omega)).frame hdB) gL_law_L_putAbsent rfl dv_L_putAbsent_s rfl (Nat.le_of_ble_eq_true rfl) (by rw [hRf]; decide) (by rw [hRl]; decide) (by first | (rw [hRc]; decide) | omega) (by first | (rw [hRs]; decide) | omega) dL_law_344 (fun r9 M1 H locs hq hw => ?_)
  obtain ⟨Ck_4, ⟨zk_4, hrk_4, Ak_4, dk_4, svk_4, hCk_4, hdA, hw9⟩, hMk_4, hdB⟩ := hq
  subst hrk_4
  subst hCk_4
  subst hMk_4
  have hzrk_4 : 0 ≤ zk_4 ∧ zk_4 ≤ 3 := by rcases hw9 with ⟨h1, _⟩ | ⟨h1, h2, _⟩; (· omega); (· omega)
  show W p l e R s m args below meth c H locs _ _ _ (F0 m 347 ls [.int (iN (zk_4))])
  refine lv_istore (lv' := [(5, .int (iN (zk_4))), (0, .ref b), (1, .ref h0), (2, .ref a), (3, .ref o), (4, .int (iN (i)))]) hC.1 hC.2.1 dL_law_347 hl (by decide) rfl (fun ls hl => ?_)
  refine lv_aload_n hC.1 hC.2.1 dL_law_349 rfl (lv_at hl 3 rfl) ?_
  refine lv_aload_n hC.1 hC.2.1 dL_law_350 rfl (lv_at hl 1 rfl) ?_
  refine lv_iload hC.1 hC.2.1 dL_law_351 (lv_at hl 5 rfl) ?_
  refine x_const hC dL_law_353 ?_
  refine x_iadd hC dL_law_354 ?_
  refine x_sld hC hw hX hbl hbA (by omega) (by omega) (by omega) dL_law_355 ?_
  rw [← hz_1]
  refine lv_aload_n hC.1 hC.2.1 dL_law_356 rfl (lv_at hl 1 rfl) ?_
  refine lv_iload hC.1 hC.2.1 dL_law_357 (lv_at hl 5 rfl) ?_
  refine x_const hC dL_law_359 ?_
  refine x_iadd hC dL_law_360 ?_
  refine x_sld hC hw hX hbl hbA (by omega) (by omega) (by omega) dL_law_361 ?_
  rw [← hz_2]
  refine lv_aload_n hC.1 hC.2.1 dL_law_362 rfl (lv_at hl 1 rfl) ?_
  refine lv_iload hC.1 hC.2.1 dL_law_363 (lv_at hl 5 rfl) ?_
  refine x_const hC dL_law_365 ?_
  refine x_iadd hC dL_law_366 ?_
  refine x_sld hC hw hX hbl hbA (by omega) (by omega) (by omega) dL_law_367 ?_
  rw [← hz_3]
  rw [xU_comm hdB] at hw
  have hm := hm.add (z_2).toNat
  obtain ⟨va, oa, wa, ya, wk, br, re, la, ha, qv, qw, fa, fb, fy, wt, hR, hK⟩ := hm
  replace hR : MGx G B a va oa wa ya wk th0 rfd br re la ha kp kv qv qw fa fb V O fy Wv wt (sAdd S (z_2).toNat) := hR
  replace hK : abM O wt br re la ha K := hK
  refine x_callV hC hw (lv_size hl) ((c_X5_putAbsent l G hR hK (p0 := z_1) (by omega) (p1 := z_2) (by omega) (p2 := z_3) (by omega) (fun _ => by simp [sAdd])).frame hdB.symm) gL_law_X5_putAbsent rfl dv_X5_putAbsent (xU_l hR.1.1) rfl rfl (Nat.le_of_ble_eq_true rfl) (by rw [hRf]; decide) (by rw [hRl]; decide) (by first | (rw [hRc]; decide) | omega) (by first | (rw [hRs]; decide) | omega) dL_law_368 (fun r9 M1 H locs hq hw => ?_)
  obtain ⟨Bk_5, ⟨zk_5, thk_5, hrk_5, hzk_5, hv9⟩, hMk_5, hdB9⟩ := hq
  subst hrk_5
  subst hMk_5
  have hdB := hdB9.symm
  rw [xU_comm hdB9] at hw
  obtain ⟨s1, hG, hm, hkt, hthr, hans⟩ : ∃ s1 : ST, RG G Ak_4 h0 (N + 1) s1 ∧ MGm G Bk_5 a (sAdd S (z_2).toNat) thk_5 s1 ∧ zk_4 = thk_5 ∧ (0 ≤ thk_5 ∧ thk_5 ≤ 3) ∧ (zk_4 = 0 → dk_4 = (iN zk_5).toInt64) := by
    rcases hw9 with ⟨h1, h2, ⟨z8, h3, h4, h5⟩, h6⟩ | ⟨h1, h2, h6⟩
    · rcases hv9 with ⟨g1, g2, g4, g5⟩ | ⟨g1, g2, g5⟩
      · exact ⟨_, h6, g5, by omega, by omega, fun _ => (show dk_4 = (iN zk_5).toInt64 by rw [h3, h5, g4])⟩
      · exfalso; omega
    · rcases hv9 with ⟨g1, g2, g4, g5⟩ | ⟨g1, g2, g5⟩
      · exfalso; omega
      · exact ⟨_, h6, g5, by omega, by omega, fun q9 => absurd q9 h1⟩
  clear hw9 hv9
  show W p l e R s m args below meth c H locs _ _ _ (F0 m 371 ls [.int (iN (zk_5))])
  refine lv_istore (lv' := [(6, .int (iN (zk_5))), (5, .int (iN (zk_4))), (0, .ref b), (1, .ref h0), (2, .ref a), (3, .ref o), (4, .int (iN (i)))]) hC.1 hC.2.1 dL_law_371 hl (by decide) rfl (fun ls hl => ?_)
  refine lv_goto (tgt := 2584) hC.1 hC.2.1 dL_law_373 (by decide) ?_
  refine W.widen (k := cu + 3) (n := su + (18)) (by omega) (by omega) ?_
  exact kk _ _ _ _ _ (sAdd S (z_2).toNat) hw ⟨_, _, _, _, _, rfl, hG, hm, hdA, hdB⟩ (lv_sub hl [2, 3, 4, 5, 6] rfl) (mC_add1 _ _)
set_option maxHeartbeats 8000000 in
set_option maxRecDepth 100000 in
theorem k_2 {p : Program} {l : Launch} {e : Env} {R : Room} {s : State} {m : MethodId} {args : Array Value} {below : List Frame} {meth : Method} {c : Code} {Q : State → Prop} {G : xG} {b L : Nat} {xs : Nat → Int32} {nm : String} (hst : l.stackTraces = false) (hRf : R.frames = 2048) {C9 S9 : Nat} (hRc : R.cells = C9) (hRs : R.slots = S9) (hC9 : 513000 ≤ C9) (hS9 : 6932000 ≤ S9) (hRl : R.locals = 84000) (hC : xB p s m args meth c cL_law 7 "RangeledgerLaw" nm wsL_law (some .boolean) G (xA (fun _ => none) s.heap.size)) (hX : va_X b L xs s s.heap) (hbl : b < s.heap.size) (hL : L ≤ 3072) {h0 a o : Nat} {N : Int} (hN : N ≤ 590) {s9 : ST} {S : Nat → Bool} {M : HM} {H : Heap} {locs : List Loc} {ls : Array Slot} {i : Int} {cu su : Nat} (hw : xD G (xA (fun _ => none) s.heap.size) s M H locs) (hS : LwS G M h0 a o N s9 S) (hl : lv_has ls 7 [(0, .ref b), (1, .ref h0), (2, .ref a), (3, .ref o), (4, .int (iN (i)))]) (hi : 0 ≤ i ∧ i + 6 ≤ L) (hcu : cu + 1000 ≤ C9) (hsu : su + 15590 ≤ S9) (kk : ∀ (M1 : HM) (H1 : Heap) (locs1 : List Loc) (ls1 : Array Slot) (s1 : ST) (S1 : Nat → Bool), xD G (xA (fun _ => none) s.heap.size) s M1 H1 locs1 → LwS G M1 h0 a o (N + 1) s1 S1 → lv_has ls1 7 [(0, .ref b), (1, .ref h0), (2, .ref a), (3, .ref o), (4, .int (iN (i)))] → mC S1 100 ≤ mC S 100 + 1 → W p l e R s m args below meth c H1 locs1 (cu + 3) (su + (18)) Q (F0 m 2584 ls1 [])) : W p l e R s m args below meth c H locs cu su Q (F0 m 376 ls []) := by
  obtain ⟨A, B, d, sv, th0, hM, hG, hm, hdA, hdB⟩ := hS
  subst hM
  obtain ⟨O, V, Wv, K, kp, kv, rfd⟩ := s9
  have hbA : ¬ (xA (fun _ => none) s.heap.size) b := fun h9 => h9.elim (fun h8 => h8 rfl) (fun h8 => by omega)
  refine lv_aload_n hC.1 hC.2.1 dL_law_376 rfl (lv_at hl 1 rfl) ?_
  refine lv_aload_n hC.1 hC.2.1 dL_law_377 rfl (lv_at hl 0 rfl) ?_
  refine lv_iload hC.1 hC.2.1 dL_law_378 (lv_at hl 4 rfl) ?_
  refine x_const hC dL_law_380 ?_
  refine x_iadd hC dL_law_381 ?_
  refine x_sld hC hw hX hbl hbA (by omega) (by omega) (by omega) dL_law_382 ?_
  obtain ⟨z_1, hz_1⟩ : ∃ z : Int, z = (xs (i + 1).toNat).toInt := ⟨_, rfl⟩
  rw [← hz_1]
  have hrz_1 : -2147483648 ≤ z_1 ∧ z_1 ≤ 2147483647 := by rw [hz_1]; exact iN_rng _
  refine lv_aload_n hC.1 hC.2.1 dL_law_383 rfl (lv_at hl 0 rfl) ?_
  refine lv_iload hC.1 hC.2.1 dL_law_384 (lv_at hl 4 rfl) ?_
  refine x_const hC dL_law_386 ?_
  refine x_iadd hC dL_law_387 ?_
  refine x_sld hC hw hX hbl hbA (by omega) (by omega) (by omega) dL_law_388 ?_
  obtain ⟨z_2, hz_2⟩ : ∃ z : Int, z = (xs (i + 2).toNat).toInt := ⟨_, rfl⟩
  rw [← hz_2]
  have hrz_2 : -2147483648 ≤ z_2 ∧ z_2 ≤ 2147483647 := by rw [hz_2]; exact iN_rng _
  refine lv_aload_n hC.1 hC.2.1 dL_law_389 rfl (lv_at hl 0 rfl) ?_
  refine lv_iload hC.1 hC.2.1 dL_law_390 (lv_at hl 4 rfl) ?_
  refine x_const hC dL_law_392 ?_
  refine x_iadd hC dL_law_393 ?_
  refine x_sld hC hw hX hbl hbA (by omega) (by omega) (by omega) dL_law_394 ?_
  obtain ⟨z_3, hz_3⟩ : ∃ z : Int, z = (xs (i + 3).toNat).toInt := ⟨_, rfl⟩
  rw [← hz_3]
  have hrz_3 : -2147483648 ≤ z_3 ∧ z_3 ≤ 2147483647 := by rw [hz_3]; exact iN_rng _
  refine lv_aload_n hC.1 hC.2.1 dL_law_395 rfl (lv_at hl 3 rfl) ?_
  refine x_callSW hC hw (lv_size hl) ((c_L_replace l G hst hG hN hdA (p0 := z_1) (by omega) (p1 := z_2) (by omega) (p2 := z_3) (by omega)).frame hdB) gL_law_L_replace rfl dv_L_replace_s rfl (Nat.le_of_ble_eq_true rfl) (by rw [hRf]; decide) (by rw [hRl]; decide) (by first | (rw [hRc]; decide) | omega) (by first | (rw [hRs]; decide) | omega) dL_law_396 (fun r9 M1 H locs hq hw => ?_)
  obtain ⟨Ck_4, ⟨zk_4, hrk_4, Ak_4, dk_4, svk_4, hCk_4, hdA, hw9⟩, hMk_4, hdB⟩ := hq
  subst hrk_4
  subst hCk_4
  subst hMk_4
  have hzrk_4 : 0 ≤ zk_4 ∧ zk_4 ≤ 3 := by rcases hw9 with ⟨h1, _⟩ | ⟨h1, h2, _⟩; (· omega); (· omega)
  show W p l e R s m args below meth c H locs _ _ _ (F0 m 399 ls [.int (iN (zk_4))])
  refine lv_istore (lv' := [(5, .int (iN (zk_4))), (0, .ref b), (1, .ref h0), (2, .ref a), (3, .ref o), (4, .int (iN (i)))]) hC.1 hC.2.1 dL_law_399 hl (by decide) rfl (fun ls hl => ?_)
  refine lv_aload_n hC.1 hC.2.1 dL_law_401 rfl (lv_at hl 3 rfl) ?_
  refine lv_aload_n hC.1 hC.2.1 dL_law_402 rfl (lv_at hl 1 rfl) ?_
  refine lv_iload hC.1 hC.2.1 dL_law_403 (lv_at hl 5 rfl) ?_
  refine x_const hC dL_law_405 ?_
  refine x_iadd hC dL_law_406 ?_
  refine x_sld hC hw hX hbl hbA (by omega) (by omega) (by omega) dL_law_407 ?_
  rw [← hz_1]
  refine lv_aload_n hC.1 hC.2.1 dL_law_408 rfl (lv_at hl 1 rfl) ?_
  refine lv_iload hC.1 hC.2.1 dL_law_409 (lv_at hl 5 rfl) ?_
  refine x_const hC dL_law_411 ?_
  refine x_iadd hC dL_law_412 ?_
  refine x_sld hC hw hX hbl hbA (by omega) (by omega) (by omega) dL_law_413 ?_
  rw [← hz_2]
  refine lv_aload_n hC.1 hC.2.1 dL_law_414 rfl (lv_at hl 1 rfl) ?_
  refine lv_iload hC.1 hC.2.1 dL_law_415 (lv_at hl 5 rfl) ?_
  refine x_const hC dL_law_417 ?_
  refine x_iadd hC dL_law_418 ?_
  refine x_sld hC hw hX hbl hbA (by omega) (by omega) (by omega) dL_law_419 ?_
  rw [← hz_3]
  rw [xU_comm hdB] at hw
  have hm := hm.add (z_2).toNat
  obtain ⟨va, oa, wa, ya, wk, br, re, la, ha, qv, qw, fa, fb, fy, wt, hR, hK⟩ := hm
  replace hR : MGx G B a va oa wa ya wk th0 rfd br re la ha kp kv qv qw fa fb V O fy Wv wt (sAdd S (z_2).toNat) := hR
  replace hK : abM O wt br re la ha K := hK
  refine x_callV hC hw (lv_size hl) ((c_X5_replace l G hR hK (p0 := z_1) (by omega) (p1 := z_2) (by omega) (p2 := z_3) (by omega) (fun _ => by simp [sAdd])).frame hdB.symm) gL_law_X5_replace rfl dv_X5_replace (xU_l hR.1.1) rfl rfl (Nat.le_of_ble_eq_true rfl) (by rw [hRf]; decide) (by rw [hRl]; decide) (by first | (rw [hRc]; decide) | omega) (by first | (rw [hRs]; decide) | omega) dL_law_420 (fun r9 M1 H locs hq hw => ?_)
  obtain ⟨Bk_5, ⟨zk_5, thk_5, hrk_5, hzk_5, hv9⟩, hMk_5, hdB9⟩ := hq
  subst hrk_5
  subst hMk_5
  have hdB := hdB9.symm
  rw [xU_comm hdB9] at hw
  obtain ⟨s1, hG, hm, hkt, hthr, hans⟩ : ∃ s1 : ST, RG G Ak_4 h0 (N + 1) s1 ∧ MGm G Bk_5 a (sAdd S (z_2).toNat) thk_5 s1 ∧ zk_4 = thk_5 ∧ (0 ≤ thk_5 ∧ thk_5 ≤ 3) ∧ (zk_4 = 0 → dk_4 = (iN zk_5).toInt64) := by
    rcases hw9 with ⟨h1, h2, ⟨z8, h3, h4, h5⟩, h6⟩ | ⟨h1, h2, h6⟩
    · rcases hv9 with ⟨g1, g2, g4, g5⟩ | ⟨g1, g2, g5⟩
      · exact ⟨_, h6, g5, by omega, by omega, fun _ => (show dk_4 = (iN zk_5).toInt64 by rw [h3, h5, g4])⟩
      · exfalso; omega
    · rcases hv9 with ⟨g1, g2, g4, g5⟩ | ⟨g1, g2, g5⟩
      · exfalso; omega
      · exact ⟨_, h6, g5, by omega, by omega, fun q9 => absurd q9 h1⟩
  clear hw9 hv9
  show W p l e R s m args below meth c H locs _ _ _ (F0 m 423 ls [.int (iN (zk_5))])
  refine lv_istore (lv' := [(6, .int (iN (zk_5))), (5, .int (iN (zk_4))), (0, .ref b), (1, .ref h0), (2, .ref a), (3, .ref o), (4, .int (iN (i)))]) hC.1 hC.2.1 dL_law_423 hl (by decide) rfl (fun ls hl => ?_)
  refine lv_goto (tgt := 2584) hC.1 hC.2.1 dL_law_425 (by decide) ?_
  refine W.widen (k := cu + 3) (n := su + (18)) (by omega) (by omega) ?_
  exact kk _ _ _ _ _ (sAdd S (z_2).toNat) hw ⟨_, _, _, _, _, rfl, hG, hm, hdA, hdB⟩ (lv_sub hl [2, 3, 4, 5, 6] rfl) (mC_add1 _ _)
set_option maxHeartbeats 8000000 in
set_option maxRecDepth 100000 in
theorem k_3 {p : Program} {l : Launch} {e : Env} {R : Room} {s : State} {m : MethodId} {args : Array Value} {below : List Frame} {meth : Method} {c : Code} {Q : State → Prop} {G : xG} {b L : Nat} {xs : Nat → Int32} {nm : String} (hst : l.stackTraces = false) (hRf : R.frames = 2048) {C9 S9 : Nat} (hRc : R.cells = C9) (hRs : R.slots = S9) (hC9 : 513000 ≤ C9) (hS9 : 6932000 ≤ S9) (hRl : R.locals = 84000) (hC : xB p s m args meth c cL_law 7 "RangeledgerLaw" nm wsL_law (some .boolean) G (xA (fun _ => none) s.heap.size)) (hX : va_X b L xs s s.heap) (hbl : b < s.heap.size) (hL : L ≤ 3072) {h0 a o : Nat} {N : Int} (hN : N ≤ 590) {s9 : ST} {S : Nat → Bool} {M : HM} {H : Heap} {locs : List Loc} {ls : Array Slot} {i : Int} {cu su : Nat} (hw : xD G (xA (fun _ => none) s.heap.size) s M H locs) (hS : LwS G M h0 a o N s9 S) (hl : lv_has ls 7 [(0, .ref b), (1, .ref h0), (2, .ref a), (3, .ref o), (4, .int (iN (i)))]) (hi : 0 ≤ i ∧ i + 6 ≤ L) (hcu : cu + 1000 ≤ C9) (hsu : su + 15590 ≤ S9) (kk : ∀ (M1 : HM) (H1 : Heap) (locs1 : List Loc) (ls1 : Array Slot) (s1 : ST) (S1 : Nat → Bool), xD G (xA (fun _ => none) s.heap.size) s M1 H1 locs1 → LwS G M1 h0 a o (N + 1) s1 S1 → lv_has ls1 7 [(0, .ref b), (1, .ref h0), (2, .ref a), (3, .ref o), (4, .int (iN (i)))] → mC S1 100 ≤ mC S 100 + 1 → W p l e R s m args below meth c H1 locs1 (cu + 4) (su + (24)) Q (F0 m 2584 ls1 [])) : W p l e R s m args below meth c H locs cu su Q (F0 m 428 ls []) := by
  obtain ⟨A, B, d, sv, th0, hM, hG, hm, hdA, hdB⟩ := hS
  subst hM
  obtain ⟨O, V, Wv, K, kp, kv, rfd⟩ := s9
  have hbA : ¬ (xA (fun _ => none) s.heap.size) b := fun h9 => h9.elim (fun h8 => h8 rfl) (fun h8 => by omega)
  refine lv_aload_n hC.1 hC.2.1 dL_law_428 rfl (lv_at hl 1 rfl) ?_
  refine lv_aload_n hC.1 hC.2.1 dL_law_429 rfl (lv_at hl 0 rfl) ?_
  refine lv_iload hC.1 hC.2.1 dL_law_430 (lv_at hl 4 rfl) ?_
  refine x_const hC dL_law_432 ?_
  refine x_iadd hC dL_law_433 ?_
  refine x_sld hC hw hX hbl hbA (by omega) (by omega) (by omega) dL_law_434 ?_
  obtain ⟨z_1, hz_1⟩ : ∃ z : Int, z = (xs (i + 1).toNat).toInt := ⟨_, rfl⟩
  rw [← hz_1]
  have hrz_1 : -2147483648 ≤ z_1 ∧ z_1 ≤ 2147483647 := by rw [hz_1]; exact iN_rng _
  refine lv_aload_n hC.1 hC.2.1 dL_law_435 rfl (lv_at hl 0 rfl) ?_
  refine lv_iload hC.1 hC.2.1 dL_law_436 (lv_at hl 4 rfl) ?_
  refine x_const hC dL_law_438 ?_
  refine x_iadd hC dL_law_439 ?_
  refine x_sld hC hw hX hbl hbA (by omega) (by omega) (by omega) dL_law_440 ?_
  obtain ⟨z_2, hz_2⟩ : ∃ z : Int, z = (xs (i + 2).toNat).toInt := ⟨_, rfl⟩
  rw [← hz_2]
  have hrz_2 : -2147483648 ≤ z_2 ∧ z_2 ≤ 2147483647 := by rw [hz_2]; exact iN_rng _
  refine lv_aload_n hC.1 hC.2.1 dL_law_441 rfl (lv_at hl 0 rfl) ?_
  refine lv_iload hC.1 hC.2.1 dL_law_442 (lv_at hl 4 rfl) ?_
  refine x_const hC dL_law_444 ?_
  refine x_iadd hC dL_law_445 ?_
  refine x_sld hC hw hX hbl hbA (by omega) (by omega) (by omega) dL_law_446 ?_
  obtain ⟨z_3, hz_3⟩ : ∃ z : Int, z = (xs (i + 3).toNat).toInt := ⟨_, rfl⟩
  rw [← hz_3]
  have hrz_3 : -2147483648 ≤ z_3 ∧ z_3 ≤ 2147483647 := by rw [hz_3]; exact iN_rng _
  refine lv_aload_n hC.1 hC.2.1 dL_law_447 rfl (lv_at hl 0 rfl) ?_
  refine lv_iload hC.1 hC.2.1 dL_law_448 (lv_at hl 4 rfl) ?_
  refine x_const hC dL_law_450 ?_
  refine x_iadd hC dL_law_451 ?_
  refine x_sld hC hw hX hbl hbA (by omega) (by omega) (by omega) dL_law_452 ?_
  obtain ⟨z_4, hz_4⟩ : ∃ z : Int, z = (xs (i + 4).toNat).toInt := ⟨_, rfl⟩
  rw [← hz_4]
  have hrz_4 : -2147483648 ≤ z_4 ∧ z_4 ≤ 2147483647 := by rw [hz_4]; exact iN_rng _
  refine lv_aload_n hC.1 hC.2.1 dL_law_453 rfl (lv_at hl 3 rfl) ?_
  refine x_callSW hC hw (lv_size hl) ((c_L_swap l G hst hG hN hdA (p0 := z_1) (by omega) (p1 := z_2) (by omega) (p2 := z_3) (by omega) (p3 := z_4) (by omega)).frame hdB) gL_law_L_swap rfl dv_L_swap_s rfl (Nat.le_of_ble_eq_true rfl) (by rw [hRf]; decide) (by rw [hRl]; decide) (by first | (rw [hRc]; decide) | omega) (by first | (rw [hRs]; decide) | omega) dL_law_454 (fun r9 M1 H locs hq hw => ?_)
  obtain ⟨Ck_5, ⟨zk_5, hrk_5, Ak_5, dk_5, svk_5, hCk_5, hdA, hw9⟩, hMk_5, hdB⟩ := hq
  subst hrk_5
  subst hCk_5
  subst hMk_5
  have hzrk_5 : 0 ≤ zk_5 ∧ zk_5 ≤ 3 := by rcases hw9 with ⟨h1, _⟩ | ⟨h1, h2, _⟩; (· omega); (· omega)
  show W p l e R s m args below meth c H locs _ _ _ (F0 m 457 ls [.int (iN (zk_5))])
  refine lv_istore (lv' := [(5, .int (iN (zk_5))), (0, .ref b), (1, .ref h0), (2, .ref a), (3, .ref o), (4, .int (iN (i)))]) hC.1 hC.2.1 dL_law_457 hl (by decide) rfl (fun ls hl => ?_)
  refine lv_aload_n hC.1 hC.2.1 dL_law_459 rfl (lv_at hl 3 rfl) ?_
  refine lv_aload_n hC.1 hC.2.1 dL_law_460 rfl (lv_at hl 1 rfl) ?_
  refine lv_iload hC.1 hC.2.1 dL_law_461 (lv_at hl 5 rfl) ?_
  refine x_const hC dL_law_463 ?_
  refine x_iadd hC dL_law_464 ?_
  refine x_sld hC hw hX hbl hbA (by omega) (by omega) (by omega) dL_law_465 ?_
  rw [← hz_1]
  refine lv_aload_n hC.1 hC.2.1 dL_law_466 rfl (lv_at hl 1 rfl) ?_
  refine lv_iload hC.1 hC.2.1 dL_law_467 (lv_at hl 5 rfl) ?_
  refine x_const hC dL_law_469 ?_
  refine x_iadd hC dL_law_470 ?_
  refine x_sld hC hw hX hbl hbA (by omega) (by omega) (by omega) dL_law_471 ?_
  rw [← hz_2]
  refine lv_aload_n hC.1 hC.2.1 dL_law_472 rfl (lv_at hl 1 rfl) ?_
  refine lv_iload hC.1 hC.2.1 dL_law_473 (lv_at hl 5 rfl) ?_
  refine x_const hC dL_law_475 ?_
  refine x_iadd hC dL_law_476 ?_
  refine x_sld hC hw hX hbl hbA (by omega) (by omega) (by omega) dL_law_477 ?_
  rw [← hz_3]
  refine lv_aload_n hC.1 hC.2.1 dL_law_478 rfl (lv_at hl 1 rfl) ?_
  refine lv_iload hC.1 hC.2.1 dL_law_479 (lv_at hl 5 rfl) ?_
  refine x_const hC dL_law_481 ?_
  refine x_iadd hC dL_law_482 ?_
  refine x_sld hC hw hX hbl hbA (by omega) (by omega) (by omega) dL_law_483 ?_
  rw [← hz_4]
  rw [xU_comm hdB] at hw
  have hm := hm.add (z_2).toNat
  obtain ⟨va, oa, wa, ya, wk, br, re, la, ha, qv, qw, fa, fb, fy, wt, hR, hK⟩ := hm
  replace hR : MGx G B a va oa wa ya wk th0 rfd br re la ha kp kv qv qw fa fb V O fy Wv wt (sAdd S (z_2).toNat) := hR
  replace hK : abM O wt br re la ha K := hK
  refine x_callV hC hw (lv_size hl) ((c_X5_swap l G hR hK (p0 := z_1) (by omega) (p1 := z_2) (by omega) (p2 := z_3) (by omega) (p3 := z_4) (by omega) (fun _ => by simp [sAdd])).frame hdB.symm) gL_law_X5_swap rfl dv_X5_swap (xU_l hR.1.1) rfl rfl (Nat.le_of_ble_eq_true rfl) (by rw [hRf]; decide) (by rw [hRl]; decide) (by first | (rw [hRc]; decide) | omega) (by first | (rw [hRs]; decide) | omega) dL_law_484 (fun r9 M1 H locs hq hw => ?_)
  obtain ⟨Bk_6, ⟨zk_6, thk_6, hrk_6, hzk_6, hv9⟩, hMk_6, hdB9⟩ := hq
  subst hrk_6
  subst hMk_6
  have hdB := hdB9.symm
  rw [xU_comm hdB9] at hw
  obtain ⟨s1, hG, hm, hkt, hthr, hans, hbo⟩ : ∃ s1 : ST, RG G Ak_5 h0 (N + 1) s1 ∧ MGm G Bk_6 a (sAdd S (z_2).toNat) thk_6 s1 ∧ zk_5 = thk_6 ∧ (0 ≤ thk_6 ∧ thk_6 ≤ 3) ∧ (zk_5 = 0 → dk_5 = (iN zk_6).toInt64) ∧ (zk_5 = 0 → zk_6 = 0 ∨ zk_6 = 1) := by
    rcases hw9 with ⟨h1, h2, ⟨z8, h3, h4, h5⟩, h6⟩ | ⟨h1, h2, h6⟩
    · rcases hv9 with ⟨g1, g2, g4, g5⟩ | ⟨g1, g2, g5⟩
      · exact ⟨_, h6, g5, by omega, by omega, fun _ => (show dk_5 = (iN zk_6).toInt64 by rw [h3, h5, g4]), fun _ => by rw [g4]; unfold A_swap; split <;> simp⟩
      · exfalso; omega
    · rcases hv9 with ⟨g1, g2, g4, g5⟩ | ⟨g1, g2, g5⟩
      · exfalso; omega
      · exact ⟨_, h6, g5, by omega, by omega, fun q9 => absurd q9 h1, fun q9 => absurd q9 h1⟩
  clear hw9 hv9
  show W p l e R s m args below meth c H locs _ _ _ (F0 m 487 ls [.int (iN (zk_6))])
  refine lv_istore (lv' := [(6, .int (iN (zk_6))), (5, .int (iN (zk_5))), (0, .ref b), (1, .ref h0), (2, .ref a), (3, .ref o), (4, .int (iN (i)))]) hC.1 hC.2.1 dL_law_487 hl (by decide) rfl (fun ls hl => ?_)
  refine lv_goto (tgt := 2584) hC.1 hC.2.1 dL_law_489 (by decide) ?_
  refine W.widen (k := cu + 4) (n := su + (24)) (by omega) (by omega) ?_
  exact kk _ _ _ _ _ (sAdd S (z_2).toNat) hw ⟨_, _, _, _, _, rfl, hG, hm, hdA, hdB⟩ (lv_sub hl [2, 3, 4, 5, 6] rfl) (mC_add1 _ _)
set_option maxHeartbeats 8000000 in
set_option maxRecDepth 100000 in
theorem k_4 {p : Program} {l : Launch} {e : Env} {R : Room} {s : State} {m : MethodId} {args : Array Value} {below : List Frame} {meth : Method} {c : Code} {Q : State → Prop} {G : xG} {b L : Nat} {xs : Nat → Int32} {nm : String} (hst : l.stackTraces = false) (hRf : R.frames = 2048) {C9 S9 : Nat} (hRc : R.cells = C9) (hRs : R.slots = S9) (hC9 : 513000 ≤ C9) (hS9 : 6932000 ≤ S9) (hRl : R.locals = 84000) (hC : xB p s m args meth c cL_law 7 "RangeledgerLaw" nm wsL_law (some .boolean) G (xA (fun _ => none) s.heap.size)) (hX : va_X b L xs s s.heap) (hbl : b < s.heap.size) (hL : L ≤ 3072) {h0 a o : Nat} {N : Int} (hN : N ≤ 590) {s9 : ST} {S : Nat → Bool} {M : HM} {H : Heap} {locs : List Loc} {ls : Array Slot} {i : Int} {cu su : Nat} (hw : xD G (xA (fun _ => none) s.heap.size) s M H locs) (hS : LwS G M h0 a o N s9 S) (hl : lv_has ls 7 [(0, .ref b), (1, .ref h0), (2, .ref a), (3, .ref o), (4, .int (iN (i)))]) (hi : 0 ≤ i ∧ i + 6 ≤ L) (hcu : cu + 1000 ≤ C9) (hsu : su + 15590 ≤ S9) (kk : ∀ (M1 : HM) (H1 : Heap) (locs1 : List Loc) (ls1 : Array Slot) (s1 : ST) (S1 : Nat → Bool), xD G (xA (fun _ => none) s.heap.size) s M1 H1 locs1 → LwS G M1 h0 a o (N + 1) s1 S1 → lv_has ls1 7 [(0, .ref b), (1, .ref h0), (2, .ref a), (3, .ref o), (4, .int (iN (i)))] → mC S1 100 ≤ mC S 100 + 0 → W p l e R s m args below meth c H1 locs1 (cu + 2) (su + (12)) Q (F0 m 2584 ls1 [])) : W p l e R s m args below meth c H locs cu su Q (F0 m 492 ls []) := by
  obtain ⟨A, B, d, sv, th0, hM, hG, hm, hdA, hdB⟩ := hS
  subst hM
  obtain ⟨O, V, Wv, K, kp, kv, rfd⟩ := s9
  have hbA : ¬ (xA (fun _ => none) s.heap.size) b := fun h9 => h9.elim (fun h8 => h8 rfl) (fun h8 => by omega)
  refine lv_aload_n hC.1 hC.2.1 dL_law_492 rfl (lv_at hl 1 rfl) ?_
  refine lv_aload_n hC.1 hC.2.1 dL_law_493 rfl (lv_at hl 0 rfl) ?_
  refine lv_iload hC.1 hC.2.1 dL_law_494 (lv_at hl 4 rfl) ?_
  refine x_const hC dL_law_496 ?_
  refine x_iadd hC dL_law_497 ?_
  refine x_sld hC hw hX hbl hbA (by omega) (by omega) (by omega) dL_law_498 ?_
  obtain ⟨z_1, hz_1⟩ : ∃ z : Int, z = (xs (i + 1).toNat).toInt := ⟨_, rfl⟩
  rw [← hz_1]
  have hrz_1 : -2147483648 ≤ z_1 ∧ z_1 ≤ 2147483647 := by rw [hz_1]; exact iN_rng _
  refine lv_aload_n hC.1 hC.2.1 dL_law_499 rfl (lv_at hl 0 rfl) ?_
  refine lv_iload hC.1 hC.2.1 dL_law_500 (lv_at hl 4 rfl) ?_
  refine x_const hC dL_law_502 ?_
  refine x_iadd hC dL_law_503 ?_
  refine x_sld hC hw hX hbl hbA (by omega) (by omega) (by omega) dL_law_504 ?_
  obtain ⟨z_2, hz_2⟩ : ∃ z : Int, z = (xs (i + 2).toNat).toInt := ⟨_, rfl⟩
  rw [← hz_2]
  have hrz_2 : -2147483648 ≤ z_2 ∧ z_2 ≤ 2147483647 := by rw [hz_2]; exact iN_rng _
  refine lv_aload_n hC.1 hC.2.1 dL_law_505 rfl (lv_at hl 3 rfl) ?_
  refine x_callSW hC hw (lv_size hl) ((c_L_strike l G hst hG hN hdA (p0 := z_1) (by omega) (p1 := z_2) (by omega)).frame hdB) gL_law_L_strike rfl dv_L_strike_s rfl (Nat.le_of_ble_eq_true rfl) (by rw [hRf]; decide) (by rw [hRl]; decide) (by first | (rw [hRc]; decide) | omega) (by first | (rw [hRs]; decide) | omega) dL_law_506 (fun r9 M1 H locs hq hw => ?_)
  obtain ⟨Ck_3, ⟨zk_3, hrk_3, Ak_3, dk_3, svk_3, hCk_3, hdA, hw9⟩, hMk_3, hdB⟩ := hq
  subst hrk_3
  subst hCk_3
  subst hMk_3
  have hzrk_3 : 0 ≤ zk_3 ∧ zk_3 ≤ 3 := by rcases hw9 with ⟨h1, _⟩ | ⟨h1, h2, _⟩; (· omega); (· omega)
  show W p l e R s m args below meth c H locs _ _ _ (F0 m 509 ls [.int (iN (zk_3))])
  refine lv_istore (lv' := [(5, .int (iN (zk_3))), (0, .ref b), (1, .ref h0), (2, .ref a), (3, .ref o), (4, .int (iN (i)))]) hC.1 hC.2.1 dL_law_509 hl (by decide) rfl (fun ls hl => ?_)
  refine lv_aload_n hC.1 hC.2.1 dL_law_511 rfl (lv_at hl 3 rfl) ?_
  refine lv_aload_n hC.1 hC.2.1 dL_law_512 rfl (lv_at hl 1 rfl) ?_
  refine lv_iload hC.1 hC.2.1 dL_law_513 (lv_at hl 5 rfl) ?_
  refine x_const hC dL_law_515 ?_
  refine x_iadd hC dL_law_516 ?_
  refine x_sld hC hw hX hbl hbA (by omega) (by omega) (by omega) dL_law_517 ?_
  rw [← hz_1]
  refine lv_aload_n hC.1 hC.2.1 dL_law_518 rfl (lv_at hl 1 rfl) ?_
  refine lv_iload hC.1 hC.2.1 dL_law_519 (lv_at hl 5 rfl) ?_
  refine x_const hC dL_law_521 ?_
  refine x_iadd hC dL_law_522 ?_
  refine x_sld hC hw hX hbl hbA (by omega) (by omega) (by omega) dL_law_523 ?_
  rw [← hz_2]
  rw [xU_comm hdB] at hw
  obtain ⟨va, oa, wa, ya, wk, br, re, la, ha, qv, qw, fa, fb, fy, wt, hR, hK⟩ := hm
  replace hR : MGx G B a va oa wa ya wk th0 rfd br re la ha kp kv qv qw fa fb V O fy Wv wt S := hR
  replace hK : abM O wt br re la ha K := hK
  refine x_callV hC hw (lv_size hl) ((c_X5_strike l G hR hK (p0 := z_1) (by omega) (p1 := z_2) (by omega)).frame hdB.symm) gL_law_X5_strike rfl dv_X5_strike (xU_l hR.1.1) rfl rfl (Nat.le_of_ble_eq_true rfl) (by rw [hRf]; decide) (by rw [hRl]; decide) (by first | (rw [hRc]; decide) | omega) (by first | (rw [hRs]; decide) | omega) dL_law_524 (fun r9 M1 H locs hq hw => ?_)
  obtain ⟨Bk_4, ⟨zk_4, thk_4, hrk_4, hzk_4, hv9⟩, hMk_4, hdB9⟩ := hq
  subst hrk_4
  subst hMk_4
  have hdB := hdB9.symm
  rw [xU_comm hdB9] at hw
  obtain ⟨s1, hG, hm, hkt, hthr, hans⟩ : ∃ s1 : ST, RG G Ak_3 h0 (N + 1) s1 ∧ MGm G Bk_4 a S thk_4 s1 ∧ zk_3 = thk_4 ∧ (0 ≤ thk_4 ∧ thk_4 ≤ 3) ∧ (zk_3 = 0 → dk_3 = (iN zk_4).toInt64) := by
    rcases hw9 with ⟨h1, h2, ⟨z8, h3, h4, h5⟩, h6⟩ | ⟨h1, h2, h6⟩
    · rcases hv9 with ⟨g1, g2, g4, g5⟩ | ⟨g1, g2, g5⟩
      · exact ⟨_, h6, g5, by omega, by omega, fun _ => (show dk_3 = (iN zk_4).toInt64 by rw [h3, h5, g4])⟩
      · exfalso; omega
    · rcases hv9 with ⟨g1, g2, g4, g5⟩ | ⟨g1, g2, g5⟩
      · exfalso; omega
      · exact ⟨_, h6, g5, by omega, by omega, fun q9 => absurd q9 h1⟩
  clear hw9 hv9
  show W p l e R s m args below meth c H locs _ _ _ (F0 m 527 ls [.int (iN (zk_4))])
  refine lv_istore (lv' := [(6, .int (iN (zk_4))), (5, .int (iN (zk_3))), (0, .ref b), (1, .ref h0), (2, .ref a), (3, .ref o), (4, .int (iN (i)))]) hC.1 hC.2.1 dL_law_527 hl (by decide) rfl (fun ls hl => ?_)
  refine lv_goto (tgt := 2584) hC.1 hC.2.1 dL_law_529 (by decide) ?_
  refine W.widen (k := cu + 2) (n := su + (12)) (by omega) (by omega) ?_
  exact kk _ _ _ _ _ S hw ⟨_, _, _, _, _, rfl, hG, hm, hdA, hdB⟩ (lv_sub hl [2, 3, 4, 5, 6] rfl) (Nat.le_refl _)
set_option maxHeartbeats 8000000 in
set_option maxRecDepth 100000 in
theorem k_5 {p : Program} {l : Launch} {e : Env} {R : Room} {s : State} {m : MethodId} {args : Array Value} {below : List Frame} {meth : Method} {c : Code} {Q : State → Prop} {G : xG} {b L : Nat} {xs : Nat → Int32} {nm : String} (hst : l.stackTraces = false) (hRf : R.frames = 2048) {C9 S9 : Nat} (hRc : R.cells = C9) (hRs : R.slots = S9) (hC9 : 513000 ≤ C9) (hS9 : 6932000 ≤ S9) (hRl : R.locals = 84000) (hC : xB p s m args meth c cL_law 7 "RangeledgerLaw" nm wsL_law (some .boolean) G (xA (fun _ => none) s.heap.size)) (hX : va_X b L xs s s.heap) (hbl : b < s.heap.size) (hL : L ≤ 3072) {h0 a o : Nat} {N : Int} (hN : N ≤ 590) {s9 : ST} {S : Nat → Bool} {M : HM} {H : Heap} {locs : List Loc} {ls : Array Slot} {i : Int} {cu su : Nat} (hw : xD G (xA (fun _ => none) s.heap.size) s M H locs) (hS : LwS G M h0 a o N s9 S) (hl : lv_has ls 7 [(0, .ref b), (1, .ref h0), (2, .ref a), (3, .ref o), (4, .int (iN (i)))]) (hi : 0 ≤ i ∧ i + 6 ≤ L) (hcu : cu + 1000 ≤ C9) (hsu : su + 15590 ≤ S9) (kk : ∀ (M1 : HM) (H1 : Heap) (locs1 : List Loc) (ls1 : Array Slot) (s1 : ST) (S1 : Nat → Bool), xD G (xA (fun _ => none) s.heap.size) s M1 H1 locs1 → LwS G M1 h0 a o (N + 1) s1 S1 → lv_has ls1 7 [(0, .ref b), (1, .ref h0), (2, .ref a), (3, .ref o), (4, .int (iN (i)))] → mC S1 100 ≤ mC S 100 + 0 → W p l e R s m args below meth c H1 locs1 (cu + 3) (su + (18)) Q (F0 m 2584 ls1 [])) : W p l e R s m args below meth c H locs cu su Q (F0 m 532 ls []) := by
  obtain ⟨A, B, d, sv, th0, hM, hG, hm, hdA, hdB⟩ := hS
  subst hM
  obtain ⟨O, V, Wv, K, kp, kv, rfd⟩ := s9
  have hbA : ¬ (xA (fun _ => none) s.heap.size) b := fun h9 => h9.elim (fun h8 => h8 rfl) (fun h8 => by omega)
  refine lv_aload_n hC.1 hC.2.1 dL_law_532 rfl (lv_at hl 1 rfl) ?_
  refine lv_aload_n hC.1 hC.2.1 dL_law_533 rfl (lv_at hl 0 rfl) ?_
  refine lv_iload hC.1 hC.2.1 dL_law_534 (lv_at hl 4 rfl) ?_
  refine x_const hC dL_law_536 ?_
  refine x_iadd hC dL_law_537 ?_
  refine x_sld hC hw hX hbl hbA (by omega) (by omega) (by omega) dL_law_538 ?_
  obtain ⟨z_1, hz_1⟩ : ∃ z : Int, z = (xs (i + 1).toNat).toInt := ⟨_, rfl⟩
  rw [← hz_1]
  have hrz_1 : -2147483648 ≤ z_1 ∧ z_1 ≤ 2147483647 := by rw [hz_1]; exact iN_rng _
  refine lv_aload_n hC.1 hC.2.1 dL_law_539 rfl (lv_at hl 0 rfl) ?_
  refine lv_iload hC.1 hC.2.1 dL_law_540 (lv_at hl 4 rfl) ?_
  refine x_const hC dL_law_542 ?_
  refine x_iadd hC dL_law_543 ?_
  refine x_sld hC hw hX hbl hbA (by omega) (by omega) (by omega) dL_law_544 ?_
  obtain ⟨z_2, hz_2⟩ : ∃ z : Int, z = (xs (i + 2).toNat).toInt := ⟨_, rfl⟩
  rw [← hz_2]
  have hrz_2 : -2147483648 ≤ z_2 ∧ z_2 ≤ 2147483647 := by rw [hz_2]; exact iN_rng _
  refine lv_aload_n hC.1 hC.2.1 dL_law_545 rfl (lv_at hl 0 rfl) ?_
  refine lv_iload hC.1 hC.2.1 dL_law_546 (lv_at hl 4 rfl) ?_
  refine x_const hC dL_law_548 ?_
  refine x_iadd hC dL_law_549 ?_
  refine x_sld hC hw hX hbl hbA (by omega) (by omega) (by omega) dL_law_550 ?_
  obtain ⟨z_3, hz_3⟩ : ∃ z : Int, z = (xs (i + 3).toNat).toInt := ⟨_, rfl⟩
  rw [← hz_3]
  have hrz_3 : -2147483648 ≤ z_3 ∧ z_3 ≤ 2147483647 := by rw [hz_3]; exact iN_rng _
  refine lv_aload_n hC.1 hC.2.1 dL_law_551 rfl (lv_at hl 3 rfl) ?_
  refine x_callSW hC hw (lv_size hl) ((c_L_strikePair l G hst hG hN hdA (p0 := z_1) (by omega) (p1 := z_2) (by omega) (p2 := z_3) (by omega)).frame hdB) gL_law_L_strikePair rfl dv_L_strikePair_s rfl (Nat.le_of_ble_eq_true rfl) (by rw [hRf]; decide) (by rw [hRl]; decide) (by first | (rw [hRc]; decide) | omega) (by first | (rw [hRs]; decide) | omega) dL_law_552 (fun r9 M1 H locs hq hw => ?_)
  obtain ⟨Ck_4, ⟨zk_4, hrk_4, Ak_4, dk_4, svk_4, hCk_4, hdA, hw9⟩, hMk_4, hdB⟩ := hq
  subst hrk_4
  subst hCk_4
  subst hMk_4
  have hzrk_4 : 0 ≤ zk_4 ∧ zk_4 ≤ 3 := by rcases hw9 with ⟨h1, _⟩ | ⟨h1, h2, _⟩; (· omega); (· omega)
  show W p l e R s m args below meth c H locs _ _ _ (F0 m 555 ls [.int (iN (zk_4))])
  refine lv_istore (lv' := [(5, .int (iN (zk_4))), (0, .ref b), (1, .ref h0), (2, .ref a), (3, .ref o), (4, .int (iN (i)))]) hC.1 hC.2.1 dL_law_555 hl (by decide) rfl (fun ls hl => ?_)
  refine lv_aload_n hC.1 hC.2.1 dL_law_557 rfl (lv_at hl 3 rfl) ?_
  refine lv_aload_n hC.1 hC.2.1 dL_law_558 rfl (lv_at hl 1 rfl) ?_
  refine lv_iload hC.1 hC.2.1 dL_law_559 (lv_at hl 5 rfl) ?_
  refine x_const hC dL_law_561 ?_
  refine x_iadd hC dL_law_562 ?_
  refine x_sld hC hw hX hbl hbA (by omega) (by omega) (by omega) dL_law_563 ?_
  rw [← hz_1]
  refine lv_aload_n hC.1 hC.2.1 dL_law_564 rfl (lv_at hl 1 rfl) ?_
  refine lv_iload hC.1 hC.2.1 dL_law_565 (lv_at hl 5 rfl) ?_
  refine x_const hC dL_law_567 ?_
  refine x_iadd hC dL_law_568 ?_
  refine x_sld hC hw hX hbl hbA (by omega) (by omega) (by omega) dL_law_569 ?_
  rw [← hz_2]
  refine lv_aload_n hC.1 hC.2.1 dL_law_570 rfl (lv_at hl 1 rfl) ?_
  refine lv_iload hC.1 hC.2.1 dL_law_571 (lv_at hl 5 rfl) ?_
  refine x_const hC dL_law_573 ?_
  refine x_iadd hC dL_law_574 ?_
  refine x_sld hC hw hX hbl hbA (by omega) (by omega) (by omega) dL_law_575 ?_
  rw [← hz_3]
  rw [xU_comm hdB] at hw
  obtain ⟨va, oa, wa, ya, wk, br, re, la, ha, qv, qw, fa, fb, fy, wt, hR, hK⟩ := hm
  replace hR : MGx G B a va oa wa ya wk th0 rfd br re la ha kp kv qv qw fa fb V O fy Wv wt S := hR
  replace hK : abM O wt br re la ha K := hK
  refine x_callV hC hw (lv_size hl) ((c_X5_strikePair l G hR hK (p0 := z_1) (by omega) (p1 := z_2) (by omega) (p2 := z_3) (by omega)).frame hdB.symm) gL_law_X5_strikePair rfl dv_X5_strikePair (xU_l hR.1.1) rfl rfl (Nat.le_of_ble_eq_true rfl) (by rw [hRf]; decide) (by rw [hRl]; decide) (by first | (rw [hRc]; decide) | omega) (by first | (rw [hRs]; decide) | omega) dL_law_576 (fun r9 M1 H locs hq hw => ?_)
  obtain ⟨Bk_5, ⟨zk_5, thk_5, hrk_5, hzk_5, hv9⟩, hMk_5, hdB9⟩ := hq
  subst hrk_5
  subst hMk_5
  have hdB := hdB9.symm
  rw [xU_comm hdB9] at hw
  obtain ⟨s1, hG, hm, hkt, hthr, hans, hbo⟩ : ∃ s1 : ST, RG G Ak_4 h0 (N + 1) s1 ∧ MGm G Bk_5 a S thk_5 s1 ∧ zk_4 = thk_5 ∧ (0 ≤ thk_5 ∧ thk_5 ≤ 3) ∧ (zk_4 = 0 → dk_4 = (iN zk_5).toInt64) ∧ (zk_4 = 0 → zk_5 = 0 ∨ zk_5 = 1) := by
    rcases hw9 with ⟨h1, h2, ⟨z8, h3, h4, h5⟩, h6⟩ | ⟨h1, h2, h6⟩
    · rcases hv9 with ⟨g1, g2, g4, g5⟩ | ⟨g1, g2, g5⟩
      · exact ⟨_, h6, g5, by omega, by omega, fun _ => (show dk_4 = (iN zk_5).toInt64 by rw [h3, h5, g4]), fun _ => by rw [g4]; unfold A_strikePair; split <;> simp⟩
      · exfalso; omega
    · rcases hv9 with ⟨g1, g2, g4, g5⟩ | ⟨g1, g2, g5⟩
      · exfalso; omega
      · exact ⟨_, h6, g5, by omega, by omega, fun q9 => absurd q9 h1, fun q9 => absurd q9 h1⟩
  clear hw9 hv9
  show W p l e R s m args below meth c H locs _ _ _ (F0 m 579 ls [.int (iN (zk_5))])
  refine lv_istore (lv' := [(6, .int (iN (zk_5))), (5, .int (iN (zk_4))), (0, .ref b), (1, .ref h0), (2, .ref a), (3, .ref o), (4, .int (iN (i)))]) hC.1 hC.2.1 dL_law_579 hl (by decide) rfl (fun ls hl => ?_)
  refine lv_goto (tgt := 2584) hC.1 hC.2.1 dL_law_581 (by decide) ?_
  refine W.widen (k := cu + 3) (n := su + (18)) (by omega) (by omega) ?_
  exact kk _ _ _ _ _ S hw ⟨_, _, _, _, _, rfl, hG, hm, hdA, hdB⟩ (lv_sub hl [2, 3, 4, 5, 6] rfl) (Nat.le_refl _)
set_option maxHeartbeats 8000000 in
set_option maxRecDepth 100000 in
theorem k_6 {p : Program} {l : Launch} {e : Env} {R : Room} {s : State} {m : MethodId} {args : Array Value} {below : List Frame} {meth : Method} {c : Code} {Q : State → Prop} {G : xG} {b L : Nat} {xs : Nat → Int32} {nm : String} (hst : l.stackTraces = false) (hRf : R.frames = 2048) {C9 S9 : Nat} (hRc : R.cells = C9) (hRs : R.slots = S9) (hC9 : 513000 ≤ C9) (hS9 : 6932000 ≤ S9) (hRl : R.locals = 84000) (hC : xB p s m args meth c cL_law 7 "RangeledgerLaw" nm wsL_law (some .boolean) G (xA (fun _ => none) s.heap.size)) (hX : va_X b L xs s s.heap) (hbl : b < s.heap.size) (hL : L ≤ 3072) {h0 a o : Nat} {N : Int} (hN : N ≤ 590) {s9 : ST} {S : Nat → Bool} {M : HM} {H : Heap} {locs : List Loc} {ls : Array Slot} {i : Int} {cu su : Nat} (hw : xD G (xA (fun _ => none) s.heap.size) s M H locs) (hS : LwS G M h0 a o N s9 S) (hl : lv_has ls 7 [(0, .ref b), (1, .ref h0), (2, .ref a), (3, .ref o), (4, .int (iN (i)))]) (hi : 0 ≤ i ∧ i + 6 ≤ L) (hcu : cu + 1000 ≤ C9) (hsu : su + 15590 ≤ S9) (kk : ∀ (M1 : HM) (H1 : Heap) (locs1 : List Loc) (ls1 : Array Slot) (s1 : ST) (S1 : Nat → Bool), xD G (xA (fun _ => none) s.heap.size) s M1 H1 locs1 → LwS G M1 h0 a o (N + 1) s1 S1 → lv_has ls1 7 [(0, .ref b), (1, .ref h0), (2, .ref a), (3, .ref o), (4, .int (iN (i)))] → mC S1 100 ≤ mC S 100 + 1 → W p l e R s m args below meth c H1 locs1 (cu + 3) (su + (18)) Q (F0 m 2584 ls1 [])) : W p l e R s m args below meth c H locs cu su Q (F0 m 584 ls []) := by
  obtain ⟨A, B, d, sv, th0, hM, hG, hm, hdA, hdB⟩ := hS
  subst hM
  obtain ⟨O, V, Wv, K, kp, kv, rfd⟩ := s9
  have hbA : ¬ (xA (fun _ => none) s.heap.size) b := fun h9 => h9.elim (fun h8 => h8 rfl) (fun h8 => by omega)
  refine lv_aload_n hC.1 hC.2.1 dL_law_584 rfl (lv_at hl 1 rfl) ?_
  refine lv_aload_n hC.1 hC.2.1 dL_law_585 rfl (lv_at hl 0 rfl) ?_
  refine lv_iload hC.1 hC.2.1 dL_law_586 (lv_at hl 4 rfl) ?_
  refine x_const hC dL_law_588 ?_
  refine x_iadd hC dL_law_589 ?_
  refine x_sld hC hw hX hbl hbA (by omega) (by omega) (by omega) dL_law_590 ?_
  obtain ⟨z_1, hz_1⟩ : ∃ z : Int, z = (xs (i + 1).toNat).toInt := ⟨_, rfl⟩
  rw [← hz_1]
  have hrz_1 : -2147483648 ≤ z_1 ∧ z_1 ≤ 2147483647 := by rw [hz_1]; exact iN_rng _
  refine lv_aload_n hC.1 hC.2.1 dL_law_591 rfl (lv_at hl 0 rfl) ?_
  refine lv_iload hC.1 hC.2.1 dL_law_592 (lv_at hl 4 rfl) ?_
  refine x_const hC dL_law_594 ?_
  refine x_iadd hC dL_law_595 ?_
  refine x_sld hC hw hX hbl hbA (by omega) (by omega) (by omega) dL_law_596 ?_
  obtain ⟨z_2, hz_2⟩ : ∃ z : Int, z = (xs (i + 2).toNat).toInt := ⟨_, rfl⟩
  rw [← hz_2]
  have hrz_2 : -2147483648 ≤ z_2 ∧ z_2 ≤ 2147483647 := by rw [hz_2]; exact iN_rng _
  refine lv_aload_n hC.1 hC.2.1 dL_law_597 rfl (lv_at hl 0 rfl) ?_
  refine lv_iload hC.1 hC.2.1 dL_law_598 (lv_at hl 4 rfl) ?_
  refine x_const hC dL_law_600 ?_
  refine x_iadd hC dL_law_601 ?_
  refine x_sld hC hw hX hbl hbA (by omega) (by omega) (by omega) dL_law_602 ?_
  obtain ⟨z_3, hz_3⟩ : ∃ z : Int, z = (xs (i + 3).toNat).toInt := ⟨_, rfl⟩
  rw [← hz_3]
  have hrz_3 : -2147483648 ≤ z_3 ∧ z_3 ≤ 2147483647 := by rw [hz_3]; exact iN_rng _
  refine lv_aload_n hC.1 hC.2.1 dL_law_603 rfl (lv_at hl 3 rfl) ?_
  refine x_callSW hC hw (lv_size hl) ((c_L_merge l G hst hG hN hdA (p0 := z_1) (by omega) (p1 := z_2) (by omega) (p2 := z_3) (by omega)).frame hdB) gL_law_L_merge rfl dv_L_merge_s rfl (Nat.le_of_ble_eq_true rfl) (by rw [hRf]; decide) (by rw [hRl]; decide) (by first | (rw [hRc]; decide) | omega) (by first | (rw [hRs]; decide) | omega) dL_law_604 (fun r9 M1 H locs hq hw => ?_)
  obtain ⟨Ck_4, ⟨zk_4, hrk_4, Ak_4, dk_4, svk_4, hCk_4, hdA, hw9⟩, hMk_4, hdB⟩ := hq
  subst hrk_4
  subst hCk_4
  subst hMk_4
  have hzrk_4 : 0 ≤ zk_4 ∧ zk_4 ≤ 3 := by rcases hw9 with ⟨h1, _⟩ | ⟨h1, h2, _⟩; (· omega); (· omega)
  show W p l e R s m args below meth c H locs _ _ _ (F0 m 607 ls [.int (iN (zk_4))])
  refine lv_istore (lv' := [(5, .int (iN (zk_4))), (0, .ref b), (1, .ref h0), (2, .ref a), (3, .ref o), (4, .int (iN (i)))]) hC.1 hC.2.1 dL_law_607 hl (by decide) rfl (fun ls hl => ?_)
  refine lv_aload_n hC.1 hC.2.1 dL_law_609 rfl (lv_at hl 3 rfl) ?_
  refine lv_aload_n hC.1 hC.2.1 dL_law_610 rfl (lv_at hl 1 rfl) ?_
  refine lv_iload hC.1 hC.2.1 dL_law_611 (lv_at hl 5 rfl) ?_
  refine x_const hC dL_law_613 ?_
  refine x_iadd hC dL_law_614 ?_
  refine x_sld hC hw hX hbl hbA (by omega) (by omega) (by omega) dL_law_615 ?_
  rw [← hz_1]
  refine lv_aload_n hC.1 hC.2.1 dL_law_616 rfl (lv_at hl 1 rfl) ?_
  refine lv_iload hC.1 hC.2.1 dL_law_617 (lv_at hl 5 rfl) ?_
  refine x_const hC dL_law_619 ?_
  refine x_iadd hC dL_law_620 ?_
  refine x_sld hC hw hX hbl hbA (by omega) (by omega) (by omega) dL_law_621 ?_
  rw [← hz_2]
  refine lv_aload_n hC.1 hC.2.1 dL_law_622 rfl (lv_at hl 1 rfl) ?_
  refine lv_iload hC.1 hC.2.1 dL_law_623 (lv_at hl 5 rfl) ?_
  refine x_const hC dL_law_625 ?_
  refine x_iadd hC dL_law_626 ?_
  refine x_sld hC hw hX hbl hbA (by omega) (by omega) (by omega) dL_law_627 ?_
  rw [← hz_3]
  rw [xU_comm hdB] at hw
  have hm := hm.add (z_2).toNat
  obtain ⟨va, oa, wa, ya, wk, br, re, la, ha, qv, qw, fa, fb, fy, wt, hR, hK⟩ := hm
  replace hR : MGx G B a va oa wa ya wk th0 rfd br re la ha kp kv qv qw fa fb V O fy Wv wt (sAdd S (z_2).toNat) := hR
  replace hK : abM O wt br re la ha K := hK
  refine x_callV hC hw (lv_size hl) ((c_X5_merge l G hR hK (p0 := z_1) (by omega) (p1 := z_2) (by omega) (p2 := z_3) (by omega) (fun _ => by simp [sAdd])).frame hdB.symm) gL_law_X5_merge rfl dv_X5_merge (xU_l hR.1.1) rfl rfl (Nat.le_of_ble_eq_true rfl) (by rw [hRf]; decide) (by rw [hRl]; decide) (by first | (rw [hRc]; decide) | omega) (by first | (rw [hRs]; decide) | omega) dL_law_628 (fun r9 M1 H locs hq hw => ?_)
  obtain ⟨Bk_5, ⟨zk_5, thk_5, hrk_5, hzk_5, hv9⟩, hMk_5, hdB9⟩ := hq
  subst hrk_5
  subst hMk_5
  have hdB := hdB9.symm
  rw [xU_comm hdB9] at hw
  obtain ⟨s1, hG, hm, hkt, hthr, hans⟩ : ∃ s1 : ST, RG G Ak_4 h0 (N + 1) s1 ∧ MGm G Bk_5 a (sAdd S (z_2).toNat) thk_5 s1 ∧ zk_4 = thk_5 ∧ (0 ≤ thk_5 ∧ thk_5 ≤ 3) ∧ (zk_4 = 0 → dk_4 = (iN zk_5).toInt64) := by
    rcases hw9 with ⟨h1, h2, ⟨z8, h3, h4, h5⟩, h6⟩ | ⟨h1, h2, h6⟩
    · rcases hv9 with ⟨g1, g2, g4, g5⟩ | ⟨g1, g2, g5⟩
      · exact ⟨_, h6, g5, by omega, by omega, fun _ => (show dk_4 = (iN zk_5).toInt64 by rw [h3, h5, g4])⟩
      · exfalso; omega
    · rcases hv9 with ⟨g1, g2, g4, g5⟩ | ⟨g1, g2, g5⟩
      · exfalso; omega
      · exact ⟨_, h6, g5, by omega, by omega, fun q9 => absurd q9 h1⟩
  clear hw9 hv9
  show W p l e R s m args below meth c H locs _ _ _ (F0 m 631 ls [.int (iN (zk_5))])
  refine lv_istore (lv' := [(6, .int (iN (zk_5))), (5, .int (iN (zk_4))), (0, .ref b), (1, .ref h0), (2, .ref a), (3, .ref o), (4, .int (iN (i)))]) hC.1 hC.2.1 dL_law_631 hl (by decide) rfl (fun ls hl => ?_)
  refine lv_goto (tgt := 2584) hC.1 hC.2.1 dL_law_633 (by decide) ?_
  refine W.widen (k := cu + 3) (n := su + (18)) (by omega) (by omega) ?_
  exact kk _ _ _ _ _ (sAdd S (z_2).toNat) hw ⟨_, _, _, _, _, rfl, hG, hm, hdA, hdB⟩ (lv_sub hl [2, 3, 4, 5, 6] rfl) (mC_add1 _ _)
set_option maxHeartbeats 8000000 in
set_option maxRecDepth 100000 in
theorem k_7 {p : Program} {l : Launch} {e : Env} {R : Room} {s : State} {m : MethodId} {args : Array Value} {below : List Frame} {meth : Method} {c : Code} {Q : State → Prop} {G : xG} {b L : Nat} {xs : Nat → Int32} {nm : String} (hst : l.stackTraces = false) (hRf : R.frames = 2048) {C9 S9 : Nat} (hRc : R.cells = C9) (hRs : R.slots = S9) (hC9 : 513000 ≤ C9) (hS9 : 6932000 ≤ S9) (hRl : R.locals = 84000) (hC : xB p s m args meth c cL_law 7 "RangeledgerLaw" nm wsL_law (some .boolean) G (xA (fun _ => none) s.heap.size)) (hX : va_X b L xs s s.heap) (hbl : b < s.heap.size) (hL : L ≤ 3072) {h0 a o : Nat} {N : Int} (hN : N ≤ 590) {s9 : ST} {S : Nat → Bool} {M : HM} {H : Heap} {locs : List Loc} {ls : Array Slot} {i : Int} {cu su : Nat} (hw : xD G (xA (fun _ => none) s.heap.size) s M H locs) (hS : LwS G M h0 a o N s9 S) (hl : lv_has ls 7 [(0, .ref b), (1, .ref h0), (2, .ref a), (3, .ref o), (4, .int (iN (i)))]) (hi : 0 ≤ i ∧ i + 6 ≤ L) (hcu : cu + 1000 ≤ C9) (hsu : su + 15590 ≤ S9) (kk : ∀ (M1 : HM) (H1 : Heap) (locs1 : List Loc) (ls1 : Array Slot) (s1 : ST) (S1 : Nat → Bool), xD G (xA (fun _ => none) s.heap.size) s M1 H1 locs1 → LwS G M1 h0 a o (N + 1) s1 S1 → lv_has ls1 7 [(0, .ref b), (1, .ref h0), (2, .ref a), (3, .ref o), (4, .int (iN (i)))] → mC S1 100 ≤ mC S 100 + 1 → W p l e R s m args below meth c H1 locs1 (cu + 2) (su + (12)) Q (F0 m 2584 ls1 [])) : W p l e R s m args below meth c H locs cu su Q (F0 m 636 ls []) := by
  obtain ⟨A, B, d, sv, th0, hM, hG, hm, hdA, hdB⟩ := hS
  subst hM
  obtain ⟨O, V, Wv, K, kp, kv, rfd⟩ := s9
  have hbA : ¬ (xA (fun _ => none) s.heap.size) b := fun h9 => h9.elim (fun h8 => h8 rfl) (fun h8 => by omega)
  refine lv_aload_n hC.1 hC.2.1 dL_law_636 rfl (lv_at hl 1 rfl) ?_
  refine lv_aload_n hC.1 hC.2.1 dL_law_637 rfl (lv_at hl 0 rfl) ?_
  refine lv_iload hC.1 hC.2.1 dL_law_638 (lv_at hl 4 rfl) ?_
  refine x_const hC dL_law_640 ?_
  refine x_iadd hC dL_law_641 ?_
  refine x_sld hC hw hX hbl hbA (by omega) (by omega) (by omega) dL_law_642 ?_
  obtain ⟨z_1, hz_1⟩ : ∃ z : Int, z = (xs (i + 1).toNat).toInt := ⟨_, rfl⟩
  rw [← hz_1]
  have hrz_1 : -2147483648 ≤ z_1 ∧ z_1 ≤ 2147483647 := by rw [hz_1]; exact iN_rng _
  refine lv_aload_n hC.1 hC.2.1 dL_law_643 rfl (lv_at hl 0 rfl) ?_
  refine lv_iload hC.1 hC.2.1 dL_law_644 (lv_at hl 4 rfl) ?_
  refine x_const hC dL_law_646 ?_
  refine x_iadd hC dL_law_647 ?_
  refine x_sld hC hw hX hbl hbA (by omega) (by omega) (by omega) dL_law_648 ?_
  obtain ⟨z_2, hz_2⟩ : ∃ z : Int, z = (xs (i + 2).toNat).toInt := ⟨_, rfl⟩
  rw [← hz_2]
  have hrz_2 : -2147483648 ≤ z_2 ∧ z_2 ≤ 2147483647 := by rw [hz_2]; exact iN_rng _
  refine lv_aload_n hC.1 hC.2.1 dL_law_649 rfl (lv_at hl 3 rfl) ?_
  refine x_callSW hC hw (lv_size hl) ((c_L_grow l G hst hG hN hdA (p0 := z_1) (by omega) (p1 := z_2) (by omega)).frame hdB) gL_law_L_grow rfl dv_L_grow_s rfl (Nat.le_of_ble_eq_true rfl) (by rw [hRf]; decide) (by rw [hRl]; decide) (by first | (rw [hRc]; decide) | omega) (by first | (rw [hRs]; decide) | omega) dL_law_650 (fun r9 M1 H locs hq hw => ?_)
  obtain ⟨Ck_3, ⟨zk_3, hrk_3, Ak_3, dk_3, svk_3, hCk_3, hdA, hw9⟩, hMk_3, hdB⟩ := hq
  subst hrk_3
  subst hCk_3
  subst hMk_3
  have hzrk_3 : 0 ≤ zk_3 ∧ zk_3 ≤ 3 := by rcases hw9 with ⟨h1, _⟩ | ⟨h1, h2, _⟩; (· omega); (· omega)
  show W p l e R s m args below meth c H locs _ _ _ (F0 m 653 ls [.int (iN (zk_3))])
  refine lv_istore (lv' := [(5, .int (iN (zk_3))), (0, .ref b), (1, .ref h0), (2, .ref a), (3, .ref o), (4, .int (iN (i)))]) hC.1 hC.2.1 dL_law_653 hl (by decide) rfl (fun ls hl => ?_)
  refine lv_aload_n hC.1 hC.2.1 dL_law_655 rfl (lv_at hl 3 rfl) ?_
  refine lv_aload_n hC.1 hC.2.1 dL_law_656 rfl (lv_at hl 1 rfl) ?_
  refine lv_iload hC.1 hC.2.1 dL_law_657 (lv_at hl 5 rfl) ?_
  refine x_const hC dL_law_659 ?_
  refine x_iadd hC dL_law_660 ?_
  refine x_sld hC hw hX hbl hbA (by omega) (by omega) (by omega) dL_law_661 ?_
  rw [← hz_1]
  refine lv_aload_n hC.1 hC.2.1 dL_law_662 rfl (lv_at hl 1 rfl) ?_
  refine lv_iload hC.1 hC.2.1 dL_law_663 (lv_at hl 5 rfl) ?_
  refine x_const hC dL_law_665 ?_
  refine x_iadd hC dL_law_666 ?_
  refine x_sld hC hw hX hbl hbA (by omega) (by omega) (by omega) dL_law_667 ?_
  rw [← hz_2]
  rw [xU_comm hdB] at hw
  have hm := hm.add (z_2).toNat
  obtain ⟨va, oa, wa, ya, wk, br, re, la, ha, qv, qw, fa, fb, fy, wt, hR, hK⟩ := hm
  replace hR : MGx G B a va oa wa ya wk th0 rfd br re la ha kp kv qv qw fa fb V O fy Wv wt (sAdd S (z_2).toNat) := hR
  replace hK : abM O wt br re la ha K := hK
  refine x_callV hC hw (lv_size hl) ((c_X5_grow l G hR hK (p0 := z_1) (by omega) (p1 := z_2) (by omega) (fun _ => by simp [sAdd])).frame hdB.symm) gL_law_X5_grow rfl dv_X5_grow (xU_l hR.1.1) rfl rfl (Nat.le_of_ble_eq_true rfl) (by rw [hRf]; decide) (by rw [hRl]; decide) (by first | (rw [hRc]; decide) | omega) (by first | (rw [hRs]; decide) | omega) dL_law_668 (fun r9 M1 H locs hq hw => ?_)
  obtain ⟨Bk_4, ⟨zk_4, thk_4, hrk_4, hzk_4, hv9⟩, hMk_4, hdB9⟩ := hq
  subst hrk_4
  subst hMk_4
  have hdB := hdB9.symm
  rw [xU_comm hdB9] at hw
  obtain ⟨s1, hG, hm, hkt, hthr, hans⟩ : ∃ s1 : ST, RG G Ak_3 h0 (N + 1) s1 ∧ MGm G Bk_4 a (sAdd S (z_2).toNat) thk_4 s1 ∧ zk_3 = thk_4 ∧ (0 ≤ thk_4 ∧ thk_4 ≤ 3) ∧ (zk_3 = 0 → dk_3 = (iN zk_4).toInt64) := by
    rcases hw9 with ⟨h1, h2, ⟨z8, h3, h4, h5⟩, h6⟩ | ⟨h1, h2, h6⟩
    · rcases hv9 with ⟨g1, g2, g4, g5⟩ | ⟨g1, g2, g5⟩
      · exact ⟨_, h6, g5, by omega, by omega, fun _ => (show dk_3 = (iN zk_4).toInt64 by rw [h3, h5, g4])⟩
      · exfalso; omega
    · rcases hv9 with ⟨g1, g2, g4, g5⟩ | ⟨g1, g2, g5⟩
      · exfalso; omega
      · exact ⟨_, h6, g5, by omega, by omega, fun q9 => absurd q9 h1⟩
  clear hw9 hv9
  show W p l e R s m args below meth c H locs _ _ _ (F0 m 671 ls [.int (iN (zk_4))])
  refine lv_istore (lv' := [(6, .int (iN (zk_4))), (5, .int (iN (zk_3))), (0, .ref b), (1, .ref h0), (2, .ref a), (3, .ref o), (4, .int (iN (i)))]) hC.1 hC.2.1 dL_law_671 hl (by decide) rfl (fun ls hl => ?_)
  refine lv_goto (tgt := 2584) hC.1 hC.2.1 dL_law_673 (by decide) ?_
  refine W.widen (k := cu + 2) (n := su + (12)) (by omega) (by omega) ?_
  exact kk _ _ _ _ _ (sAdd S (z_2).toNat) hw ⟨_, _, _, _, _, rfl, hG, hm, hdA, hdB⟩ (lv_sub hl [2, 3, 4, 5, 6] rfl) (mC_add1 _ _)
set_option maxHeartbeats 8000000 in
set_option maxRecDepth 100000 in
theorem k_8 {p : Program} {l : Launch} {e : Env} {R : Room} {s : State} {m : MethodId} {args : Array Value} {below : List Frame} {meth : Method} {c : Code} {Q : State → Prop} {G : xG} {b L : Nat} {xs : Nat → Int32} {nm : String} (hst : l.stackTraces = false) (hRf : R.frames = 2048) {C9 S9 : Nat} (hRc : R.cells = C9) (hRs : R.slots = S9) (hC9 : 513000 ≤ C9) (hS9 : 6932000 ≤ S9) (hRl : R.locals = 84000) (hC : xB p s m args meth c cL_law 7 "RangeledgerLaw" nm wsL_law (some .boolean) G (xA (fun _ => none) s.heap.size)) (hX : va_X b L xs s s.heap) (hbl : b < s.heap.size) (hL : L ≤ 3072) {h0 a o : Nat} {N : Int} (hN : N ≤ 590) {s9 : ST} {S : Nat → Bool} {M : HM} {H : Heap} {locs : List Loc} {ls : Array Slot} {i : Int} {cu su : Nat} (hw : xD G (xA (fun _ => none) s.heap.size) s M H locs) (hS : LwS G M h0 a o N s9 S) (hl : lv_has ls 7 [(0, .ref b), (1, .ref h0), (2, .ref a), (3, .ref o), (4, .int (iN (i)))]) (hi : 0 ≤ i ∧ i + 6 ≤ L) (hcu : cu + 1000 ≤ C9) (hsu : su + 15590 ≤ S9) (kk : ∀ (M1 : HM) (H1 : Heap) (locs1 : List Loc) (ls1 : Array Slot) (s1 : ST) (S1 : Nat → Bool), xD G (xA (fun _ => none) s.heap.size) s M1 H1 locs1 → LwS G M1 h0 a o (N + 1) s1 S1 → lv_has ls1 7 [(0, .ref b), (1, .ref h0), (2, .ref a), (3, .ref o), (4, .int (iN (i)))] → mC S1 100 ≤ mC S 100 + 0 → W p l e R s m args below meth c H1 locs1 (cu + 2) (su + (12)) Q (F0 m 2584 ls1 [])) : W p l e R s m args below meth c H locs cu su Q (F0 m 676 ls []) := by
  obtain ⟨A, B, d, sv, th0, hM, hG, hm, hdA, hdB⟩ := hS
  subst hM
  obtain ⟨O, V, Wv, K, kp, kv, rfd⟩ := s9
  have hbA : ¬ (xA (fun _ => none) s.heap.size) b := fun h9 => h9.elim (fun h8 => h8 rfl) (fun h8 => by omega)
  refine lv_aload_n hC.1 hC.2.1 dL_law_676 rfl (lv_at hl 1 rfl) ?_
  refine lv_aload_n hC.1 hC.2.1 dL_law_677 rfl (lv_at hl 0 rfl) ?_
  refine lv_iload hC.1 hC.2.1 dL_law_678 (lv_at hl 4 rfl) ?_
  refine x_const hC dL_law_680 ?_
  refine x_iadd hC dL_law_681 ?_
  refine x_sld hC hw hX hbl hbA (by omega) (by omega) (by omega) dL_law_682 ?_
  obtain ⟨z_1, hz_1⟩ : ∃ z : Int, z = (xs (i + 1).toNat).toInt := ⟨_, rfl⟩
  rw [← hz_1]
  have hrz_1 : -2147483648 ≤ z_1 ∧ z_1 ≤ 2147483647 := by rw [hz_1]; exact iN_rng _
  refine lv_aload_n hC.1 hC.2.1 dL_law_683 rfl (lv_at hl 0 rfl) ?_
  refine lv_iload hC.1 hC.2.1 dL_law_684 (lv_at hl 4 rfl) ?_
  refine x_const hC dL_law_686 ?_
  refine x_iadd hC dL_law_687 ?_
  refine x_sld hC hw hX hbl hbA (by omega) (by omega) (by omega) dL_law_688 ?_
  obtain ⟨z_2, hz_2⟩ : ∃ z : Int, z = (xs (i + 2).toNat).toInt := ⟨_, rfl⟩
  rw [← hz_2]
  have hrz_2 : -2147483648 ≤ z_2 ∧ z_2 ≤ 2147483647 := by rw [hz_2]; exact iN_rng _
  refine lv_aload_n hC.1 hC.2.1 dL_law_689 rfl (lv_at hl 3 rfl) ?_
  refine x_callSW hC hw (lv_size hl) ((c_L_halve l G hst hG hN hdA (p0 := z_1) (by omega) (p1 := z_2) (by omega)).frame hdB) gL_law_L_halve rfl dv_L_halve_s rfl (Nat.le_of_ble_eq_true rfl) (by rw [hRf]; decide) (by rw [hRl]; decide) (by first | (rw [hRc]; decide) | omega) (by first | (rw [hRs]; decide) | omega) dL_law_690 (fun r9 M1 H locs hq hw => ?_)
  obtain ⟨Ck_3, ⟨zk_3, hrk_3, Ak_3, dk_3, svk_3, hCk_3, hdA, hw9⟩, hMk_3, hdB⟩ := hq
  subst hrk_3
  subst hCk_3
  subst hMk_3
  have hzrk_3 : 0 ≤ zk_3 ∧ zk_3 ≤ 3 := by rcases hw9 with ⟨h1, _⟩ | ⟨h1, h2, _⟩; (· omega); (· omega)
  show W p l e R s m args below meth c H locs _ _ _ (F0 m 693 ls [.int (iN (zk_3))])
  refine lv_istore (lv' := [(5, .int (iN (zk_3))), (0, .ref b), (1, .ref h0), (2, .ref a), (3, .ref o), (4, .int (iN (i)))]) hC.1 hC.2.1 dL_law_693 hl (by decide) rfl (fun ls hl => ?_)
  refine lv_aload_n hC.1 hC.2.1 dL_law_695 rfl (lv_at hl 3 rfl) ?_
  refine lv_aload_n hC.1 hC.2.1 dL_law_696 rfl (lv_at hl 1 rfl) ?_
  refine lv_iload hC.1 hC.2.1 dL_law_697 (lv_at hl 5 rfl) ?_
  refine x_const hC dL_law_699 ?_
  refine x_iadd hC dL_law_700 ?_
  refine x_sld hC hw hX hbl hbA (by omega) (by omega) (by omega) dL_law_701 ?_
  rw [← hz_1]
  refine lv_aload_n hC.1 hC.2.1 dL_law_702 rfl (lv_at hl 1 rfl) ?_
  refine lv_iload hC.1 hC.2.1 dL_law_703 (lv_at hl 5 rfl) ?_
  refine x_const hC dL_law_705 ?_
  refine x_iadd hC dL_law_706 ?_
  refine x_sld hC hw hX hbl hbA (by omega) (by omega) (by omega) dL_law_707 ?_
  rw [← hz_2]
  rw [xU_comm hdB] at hw
  obtain ⟨va, oa, wa, ya, wk, br, re, la, ha, qv, qw, fa, fb, fy, wt, hR, hK⟩ := hm
  replace hR : MGx G B a va oa wa ya wk th0 rfd br re la ha kp kv qv qw fa fb V O fy Wv wt S := hR
  replace hK : abM O wt br re la ha K := hK
  refine x_callV hC hw (lv_size hl) ((c_X5_halve l G hR hK (p0 := z_1) (by omega) (p1 := z_2) (by omega)).frame hdB.symm) gL_law_X5_halve rfl dv_X5_halve (xU_l hR.1.1) rfl rfl (Nat.le_of_ble_eq_true rfl) (by rw [hRf]; decide) (by rw [hRl]; decide) (by first | (rw [hRc]; decide) | omega) (by first | (rw [hRs]; decide) | omega) dL_law_708 (fun r9 M1 H locs hq hw => ?_)
  obtain ⟨Bk_4, ⟨zk_4, thk_4, hrk_4, hzk_4, hv9⟩, hMk_4, hdB9⟩ := hq
  subst hrk_4
  subst hMk_4
  have hdB := hdB9.symm
  rw [xU_comm hdB9] at hw
  obtain ⟨s1, hG, hm, hkt, hthr, hans⟩ : ∃ s1 : ST, RG G Ak_3 h0 (N + 1) s1 ∧ MGm G Bk_4 a S thk_4 s1 ∧ zk_3 = thk_4 ∧ (0 ≤ thk_4 ∧ thk_4 ≤ 3) ∧ (zk_3 = 0 → dk_3 = (iN zk_4).toInt64) := by
    rcases hw9 with ⟨h1, h2, ⟨z8, h3, h4, h5⟩, h6⟩ | ⟨h1, h2, h6⟩
    · rcases hv9 with ⟨g1, g2, g4, g5⟩ | ⟨g1, g2, g5⟩
      · exact ⟨_, h6, g5, by omega, by omega, fun _ => (show dk_3 = (iN zk_4).toInt64 by rw [h3, h5, g4])⟩
      · exfalso; omega
    · rcases hv9 with ⟨g1, g2, g4, g5⟩ | ⟨g1, g2, g5⟩
      · exfalso; omega
      · exact ⟨_, h6, g5, by omega, by omega, fun q9 => absurd q9 h1⟩
  clear hw9 hv9
  show W p l e R s m args below meth c H locs _ _ _ (F0 m 711 ls [.int (iN (zk_4))])
  refine lv_istore (lv' := [(6, .int (iN (zk_4))), (5, .int (iN (zk_3))), (0, .ref b), (1, .ref h0), (2, .ref a), (3, .ref o), (4, .int (iN (i)))]) hC.1 hC.2.1 dL_law_711 hl (by decide) rfl (fun ls hl => ?_)
  refine lv_goto (tgt := 2584) hC.1 hC.2.1 dL_law_713 (by decide) ?_
  refine W.widen (k := cu + 2) (n := su + (12)) (by omega) (by omega) ?_
  exact kk _ _ _ _ _ S hw ⟨_, _, _, _, _, rfl, hG, hm, hdA, hdB⟩ (lv_sub hl [2, 3, 4, 5, 6] rfl) (Nat.le_refl _)
set_option maxHeartbeats 8000000 in
set_option maxRecDepth 100000 in
theorem k_9 {p : Program} {l : Launch} {e : Env} {R : Room} {s : State} {m : MethodId} {args : Array Value} {below : List Frame} {meth : Method} {c : Code} {Q : State → Prop} {G : xG} {b L : Nat} {xs : Nat → Int32} {nm : String} (hst : l.stackTraces = false) (hRf : R.frames = 2048) {C9 S9 : Nat} (hRc : R.cells = C9) (hRs : R.slots = S9) (hC9 : 513000 ≤ C9) (hS9 : 6932000 ≤ S9) (hRl : R.locals = 84000) (hC : xB p s m args meth c cL_law 7 "RangeledgerLaw" nm wsL_law (some .boolean) G (xA (fun _ => none) s.heap.size)) (hX : va_X b L xs s s.heap) (hbl : b < s.heap.size) (hL : L ≤ 3072) {h0 a o : Nat} {N : Int} (hN : N ≤ 590) {s9 : ST} {S : Nat → Bool} {M : HM} {H : Heap} {locs : List Loc} {ls : Array Slot} {i : Int} {cu su : Nat} (hw : xD G (xA (fun _ => none) s.heap.size) s M H locs) (hS : LwS G M h0 a o N s9 S) (hl : lv_has ls 7 [(0, .ref b), (1, .ref h0), (2, .ref a), (3, .ref o), (4, .int (iN (i)))]) (hi : 0 ≤ i ∧ i + 6 ≤ L) (hcu : cu + 1000 ≤ C9) (hsu : su + 15590 ≤ S9) (kk : ∀ (M1 : HM) (H1 : Heap) (locs1 : List Loc) (ls1 : Array Slot) (s1 : ST) (S1 : Nat → Bool), xD G (xA (fun _ => none) s.heap.size) s M1 H1 locs1 → LwS G M1 h0 a o (N + 1) s1 S1 → lv_has ls1 7 [(0, .ref b), (1, .ref h0), (2, .ref a), (3, .ref o), (4, .int (iN (i)))] → mC S1 100 ≤ mC S 100 + 1 → W p l e R s m args below meth c H1 locs1 (cu + 2) (su + (12)) Q (F0 m 2584 ls1 [])) : W p l e R s m args below meth c H locs cu su Q (F0 m 716 ls []) := by
  obtain ⟨A, B, d, sv, th0, hM, hG, hm, hdA, hdB⟩ := hS
  subst hM
  obtain ⟨O, V, Wv, K, kp, kv, rfd⟩ := s9
  have hbA : ¬ (xA (fun _ => none) s.heap.size) b := fun h9 => h9.elim (fun h8 => h8 rfl) (fun h8 => by omega)
  refine lv_aload_n hC.1 hC.2.1 dL_law_716 rfl (lv_at hl 1 rfl) ?_
  refine lv_aload_n hC.1 hC.2.1 dL_law_717 rfl (lv_at hl 0 rfl) ?_
  refine lv_iload hC.1 hC.2.1 dL_law_718 (lv_at hl 4 rfl) ?_
  refine x_const hC dL_law_720 ?_
  refine x_iadd hC dL_law_721 ?_
  refine x_sld hC hw hX hbl hbA (by omega) (by omega) (by omega) dL_law_722 ?_
  obtain ⟨z_1, hz_1⟩ : ∃ z : Int, z = (xs (i + 1).toNat).toInt := ⟨_, rfl⟩
  rw [← hz_1]
  have hrz_1 : -2147483648 ≤ z_1 ∧ z_1 ≤ 2147483647 := by rw [hz_1]; exact iN_rng _
  refine lv_aload_n hC.1 hC.2.1 dL_law_723 rfl (lv_at hl 0 rfl) ?_
  refine lv_iload hC.1 hC.2.1 dL_law_724 (lv_at hl 4 rfl) ?_
  refine x_const hC dL_law_726 ?_
  refine x_iadd hC dL_law_727 ?_
  refine x_sld hC hw hX hbl hbA (by omega) (by omega) (by omega) dL_law_728 ?_
  obtain ⟨z_2, hz_2⟩ : ∃ z : Int, z = (xs (i + 2).toNat).toInt := ⟨_, rfl⟩
  rw [← hz_2]
  have hrz_2 : -2147483648 ≤ z_2 ∧ z_2 ≤ 2147483647 := by rw [hz_2]; exact iN_rng _
  refine lv_aload_n hC.1 hC.2.1 dL_law_729 rfl (lv_at hl 3 rfl) ?_
  refine x_callSW hC hw (lv_size hl) ((c_L_twice l G hst hG hN hdA (p0 := z_1) (by omega) (p1 := z_2) (by omega)).frame hdB) gL_law_L_twice rfl dv_L_twice_s rfl (Nat.le_of_ble_eq_true rfl) (by rw [hRf]; decide) (by rw [hRl]; decide) (by first | (rw [hRc]; decide) | omega) (by first | (rw [hRs]; decide) | omega) dL_law_730 (fun r9 M1 H locs hq hw => ?_)
  obtain ⟨Ck_3, ⟨zk_3, hrk_3, Ak_3, dk_3, svk_3, hCk_3, hdA, hw9⟩, hMk_3, hdB⟩ := hq
  subst hrk_3
  subst hCk_3
  subst hMk_3
  have hzrk_3 : 0 ≤ zk_3 ∧ zk_3 ≤ 3 := by rcases hw9 with ⟨h1, _⟩ | ⟨h1, h2, _⟩; (· omega); (· omega)
  show W p l e R s m args below meth c H locs _ _ _ (F0 m 733 ls [.int (iN (zk_3))])
  refine lv_istore (lv' := [(5, .int (iN (zk_3))), (0, .ref b), (1, .ref h0), (2, .ref a), (3, .ref o), (4, .int (iN (i)))]) hC.1 hC.2.1 dL_law_733 hl (by decide) rfl (fun ls hl => ?_)
  refine lv_aload_n hC.1 hC.2.1 dL_law_735 rfl (lv_at hl 3 rfl) ?_
  refine lv_aload_n hC.1 hC.2.1 dL_law_736 rfl (lv_at hl 1 rfl) ?_
  refine lv_iload hC.1 hC.2.1 dL_law_737 (lv_at hl 5 rfl) ?_
  refine x_const hC dL_law_739 ?_
  refine x_iadd hC dL_law_740 ?_
  refine x_sld hC hw hX hbl hbA (by omega) (by omega) (by omega) dL_law_741 ?_
  rw [← hz_1]
  refine lv_aload_n hC.1 hC.2.1 dL_law_742 rfl (lv_at hl 1 rfl) ?_
  refine lv_iload hC.1 hC.2.1 dL_law_743 (lv_at hl 5 rfl) ?_
  refine x_const hC dL_law_745 ?_
  refine x_iadd hC dL_law_746 ?_
  refine x_sld hC hw hX hbl hbA (by omega) (by omega) (by omega) dL_law_747 ?_
  rw [← hz_2]
  rw [xU_comm hdB] at hw
  have hm := hm.add (z_2).toNat
  obtain ⟨va, oa, wa, ya, wk, br, re, la, ha, qv, qw, fa, fb, fy, wt, hR, hK⟩ := hm
  replace hR : MGx G B a va oa wa ya wk th0 rfd br re la ha kp kv qv qw fa fb V O fy Wv wt (sAdd S (z_2).toNat) := hR
  replace hK : abM O wt br re la ha K := hK
  refine x_callV hC hw (lv_size hl) ((c_X5_twice l G hR hK (p0 := z_1) (by omega) (p1 := z_2) (by omega) (fun _ => by simp [sAdd])).frame hdB.symm) gL_law_X5_twice rfl dv_X5_twice (xU_l hR.1.1) rfl rfl (Nat.le_of_ble_eq_true rfl) (by rw [hRf]; decide) (by rw [hRl]; decide) (by first | (rw [hRc]; decide) | omega) (by first | (rw [hRs]; decide) | omega) dL_law_748 (fun r9 M1 H locs hq hw => ?_)
  obtain ⟨Bk_4, ⟨zk_4, thk_4, hrk_4, hzk_4, hv9⟩, hMk_4, hdB9⟩ := hq
  subst hrk_4
  subst hMk_4
  have hdB := hdB9.symm
  rw [xU_comm hdB9] at hw
  obtain ⟨s1, hG, hm, hkt, hthr, hans⟩ : ∃ s1 : ST, RG G Ak_3 h0 (N + 1) s1 ∧ MGm G Bk_4 a (sAdd S (z_2).toNat) thk_4 s1 ∧ zk_3 = thk_4 ∧ (0 ≤ thk_4 ∧ thk_4 ≤ 3) ∧ (zk_3 = 0 → dk_3 = (iN zk_4).toInt64) := by
    rcases hw9 with ⟨h1, h2, ⟨z8, h3, h4, h5⟩, h6⟩ | ⟨h1, h2, h6⟩
    · rcases hv9 with ⟨g1, g2, g4, g5⟩ | ⟨g1, g2, g5⟩
      · exact ⟨_, h6, g5, by omega, by omega, fun _ => (show dk_3 = (iN zk_4).toInt64 by rw [h3, h5, g4])⟩
      · exfalso; omega
    · rcases hv9 with ⟨g1, g2, g4, g5⟩ | ⟨g1, g2, g5⟩
      · exfalso; omega
      · exact ⟨_, h6, g5, by omega, by omega, fun q9 => absurd q9 h1⟩
  clear hw9 hv9
  show W p l e R s m args below meth c H locs _ _ _ (F0 m 751 ls [.int (iN (zk_4))])
  refine lv_istore (lv' := [(6, .int (iN (zk_4))), (5, .int (iN (zk_3))), (0, .ref b), (1, .ref h0), (2, .ref a), (3, .ref o), (4, .int (iN (i)))]) hC.1 hC.2.1 dL_law_751 hl (by decide) rfl (fun ls hl => ?_)
  refine lv_goto (tgt := 2584) hC.1 hC.2.1 dL_law_753 (by decide) ?_
  refine W.widen (k := cu + 2) (n := su + (12)) (by omega) (by omega) ?_
  exact kk _ _ _ _ _ (sAdd S (z_2).toNat) hw ⟨_, _, _, _, _, rfl, hG, hm, hdA, hdB⟩ (lv_sub hl [2, 3, 4, 5, 6] rfl) (mC_add1 _ _)
set_option maxHeartbeats 8000000 in
set_option maxRecDepth 100000 in
theorem k_10 {p : Program} {l : Launch} {e : Env} {R : Room} {s : State} {m : MethodId} {args : Array Value} {below : List Frame} {meth : Method} {c : Code} {Q : State → Prop} {G : xG} {b L : Nat} {xs : Nat → Int32} {nm : String} (hst : l.stackTraces = false) (hRf : R.frames = 2048) {C9 S9 : Nat} (hRc : R.cells = C9) (hRs : R.slots = S9) (hC9 : 513000 ≤ C9) (hS9 : 6932000 ≤ S9) (hRl : R.locals = 84000) (hC : xB p s m args meth c cL_law 7 "RangeledgerLaw" nm wsL_law (some .boolean) G (xA (fun _ => none) s.heap.size)) (hX : va_X b L xs s s.heap) (hbl : b < s.heap.size) (hL : L ≤ 3072) {h0 a o : Nat} {N : Int} (hN : N ≤ 590) {s9 : ST} {S : Nat → Bool} {M : HM} {H : Heap} {locs : List Loc} {ls : Array Slot} {i : Int} {cu su : Nat} (hw : xD G (xA (fun _ => none) s.heap.size) s M H locs) (hS : LwS G M h0 a o N s9 S) (hl : lv_has ls 7 [(0, .ref b), (1, .ref h0), (2, .ref a), (3, .ref o), (4, .int (iN (i)))]) (hi : 0 ≤ i ∧ i + 6 ≤ L) (hcu : cu + 1000 ≤ C9) (hsu : su + 15590 ≤ S9) (kk : ∀ (M1 : HM) (H1 : Heap) (locs1 : List Loc) (ls1 : Array Slot) (s1 : ST) (S1 : Nat → Bool), xD G (xA (fun _ => none) s.heap.size) s M1 H1 locs1 → LwS G M1 h0 a o (N + 1) s1 S1 → lv_has ls1 7 [(0, .ref b), (1, .ref h0), (2, .ref a), (3, .ref o), (4, .int (iN (i)))] → mC S1 100 ≤ mC S 100 + 0 → W p l e R s m args below meth c H1 locs1 (cu + 2) (su + (11)) Q (F0 m 2584 ls1 [])) : W p l e R s m args below meth c H locs cu su Q (F0 m 756 ls []) := by
  obtain ⟨A, B, d, sv, th0, hM, hG, hm, hdA, hdB⟩ := hS
  subst hM
  obtain ⟨O, V, Wv, K, kp, kv, rfd⟩ := s9
  have hbA : ¬ (xA (fun _ => none) s.heap.size) b := fun h9 => h9.elim (fun h8 => h8 rfl) (fun h8 => by omega)
  refine lv_aload_n hC.1 hC.2.1 dL_law_756 rfl (lv_at hl 1 rfl) ?_
  refine lv_aload_n hC.1 hC.2.1 dL_law_757 rfl (lv_at hl 0 rfl) ?_
  refine lv_iload hC.1 hC.2.1 dL_law_758 (lv_at hl 4 rfl) ?_
  refine x_const hC dL_law_760 ?_
  refine x_iadd hC dL_law_761 ?_
  refine x_sld hC hw hX hbl hbA (by omega) (by omega) (by omega) dL_law_762 ?_
  obtain ⟨z_1, hz_1⟩ : ∃ z : Int, z = (xs (i + 1).toNat).toInt := ⟨_, rfl⟩
  rw [← hz_1]
  have hrz_1 : -2147483648 ≤ z_1 ∧ z_1 ≤ 2147483647 := by rw [hz_1]; exact iN_rng _
  refine lv_aload_n hC.1 hC.2.1 dL_law_763 rfl (lv_at hl 0 rfl) ?_
  refine lv_iload hC.1 hC.2.1 dL_law_764 (lv_at hl 4 rfl) ?_
  refine x_const hC dL_law_766 ?_
  refine x_iadd hC dL_law_767 ?_
  refine x_sld hC hw hX hbl hbA (by omega) (by omega) (by omega) dL_law_768 ?_
  obtain ⟨z_2, hz_2⟩ : ∃ z : Int, z = (xs (i + 2).toNat).toInt := ⟨_, rfl⟩
  rw [← hz_2]
  have hrz_2 : -2147483648 ≤ z_2 ∧ z_2 ≤ 2147483647 := by rw [hz_2]; exact iN_rng _
  refine x_if_eq (tgt := 776) hC ⟨by omega, by omega⟩ dL_law_769 (by decide) (fun c_3 => ?_) (fun c_3 => ?_)
  · refine x_const hC dL_law_776 ?_
    refine lv_aload_n hC.1 hC.2.1 dL_law_777 rfl (lv_at hl 3 rfl) ?_
    refine x_callSW hC hw (lv_size hl) ((c_L_poll l G hst hG hN hdA (p0 := z_1) (by omega) (p1 := 0) (by omega) (by omega)).frame hdB) gL_law_L_poll rfl dv_L_poll_s rfl (Nat.le_of_ble_eq_true rfl) (by rw [hRf]; decide) (by rw [hRl]; decide) (by first | (rw [hRc]; decide) | omega) (by first | (rw [hRs]; decide) | omega) dL_law_778 (fun r9 M1 H locs hq hw => ?_)
    obtain ⟨Ck_4, ⟨zk_4, hrk_4, Ak_4, dk_4, svk_4, hCk_4, hdA, hw9⟩, hMk_4, hdB⟩ := hq
    subst hrk_4
    subst hCk_4
    subst hMk_4
    have hzrk_4 : 0 ≤ zk_4 ∧ zk_4 ≤ 3 := by rcases hw9 with ⟨h1, _⟩ | ⟨h1, h2, _⟩; (· omega); (· omega)
    show W p l e R s m args below meth c H locs _ _ _ (F0 m 781 ls [.int (iN (zk_4))])
    refine lv_istore (lv' := [(5, .int (iN (zk_4))), (0, .ref b), (1, .ref h0), (2, .ref a), (3, .ref o), (4, .int (iN (i)))]) hC.1 hC.2.1 dL_law_781 hl (by decide) rfl (fun ls hl => ?_)
    refine lv_aload_n hC.1 hC.2.1 dL_law_783 rfl (lv_at hl 3 rfl) ?_
    refine lv_aload_n hC.1 hC.2.1 dL_law_784 rfl (lv_at hl 1 rfl) ?_
    refine lv_iload hC.1 hC.2.1 dL_law_785 (lv_at hl 5 rfl) ?_
    refine x_const hC dL_law_787 ?_
    refine x_iadd hC dL_law_788 ?_
    refine x_sld hC hw hX hbl hbA (by omega) (by omega) (by omega) dL_law_789 ?_
    rw [← hz_1]
    refine lv_aload_n hC.1 hC.2.1 dL_law_790 rfl (lv_at hl 1 rfl) ?_
    refine lv_iload hC.1 hC.2.1 dL_law_791 (lv_at hl 5 rfl) ?_
    refine x_const hC dL_law_793 ?_
    refine x_iadd hC dL_law_794 ?_
    refine x_sld hC hw hX hbl hbA (by omega) (by omega) (by omega) dL_law_795 ?_
    rw [← hz_2]
    refine x_if_eq (tgt := 803) hC ⟨by omega, by omega⟩ dL_law_796 (by decide) (fun c_5 => ?_) (fun c_5 => ?_)
    · refine x_const hC dL_law_803 ?_
      rw [xU_comm hdB] at hw
      obtain ⟨va, oa, wa, ya, wk, br, re, la, ha, qv, qw, fa, fb, fy, wt, hR, hK⟩ := hm
      replace hR : MGx G B a va oa wa ya wk th0 rfd br re la ha kp kv qv qw fa fb V O fy Wv wt S := hR
      replace hK : abM O wt br re la ha K := hK
      refine x_callV hC hw (lv_size hl) ((c_X5_poll l G hR hK (p0 := z_1) (by omega) (p1 := 0) (by omega)).frame hdB.symm) gL_law_X5_poll rfl dv_X5_poll (xU_l hR.1.1) rfl rfl (Nat.le_of_ble_eq_true rfl) (by rw [hRf]; decide) (by rw [hRl]; decide) (by first | (rw [hRc]; decide) | omega) (by first | (rw [hRs]; decide) | omega) dL_law_804 (fun r9 M1 H locs hq hw => ?_)
      obtain ⟨Bk_6, ⟨zk_6, thk_6, hrk_6, hzk_6, hv9⟩, hMk_6, hdB9⟩ := hq
      subst hrk_6
      subst hMk_6
      have hdB := hdB9.symm
      rw [xU_comm hdB9] at hw
      obtain ⟨s1, hG, hm, hkt, hthr, hans⟩ : ∃ s1 : ST, RG G Ak_4 h0 (N + 1) s1 ∧ MGm G Bk_6 a S thk_6 s1 ∧ zk_4 = thk_6 ∧ (0 ≤ thk_6 ∧ thk_6 ≤ 3) ∧ (zk_4 = 0 → dk_4 = (iN zk_6).toInt64) := by
        rcases hw9 with ⟨h1, h2, ⟨z8, h3, h4, h5⟩, h6⟩ | ⟨h1, h2, h6⟩
        · rcases hv9 with ⟨g1, g2, g4, g5⟩ | ⟨g1, g2, g5⟩
          · exact ⟨_, h6, g5, by omega, by omega, fun _ => (show dk_4 = (iN zk_6).toInt64 by rw [h3, h5, g4])⟩
          · exfalso; omega
        · rcases hv9 with ⟨g1, g2, g4, g5⟩ | ⟨g1, g2, g5⟩
          · exfalso; omega
          · exact ⟨_, h6, g5, by omega, by omega, fun q9 => absurd q9 h1⟩
      clear hw9 hv9
      show W p l e R s m args below meth c H locs _ _ _ (F0 m 807 ls [.int (iN (zk_6))])
      refine lv_istore (lv' := [(6, .int (iN (zk_6))), (5, .int (iN (zk_4))), (0, .ref b), (1, .ref h0), (2, .ref a), (3, .ref o), (4, .int (iN (i)))]) hC.1 hC.2.1 dL_law_807 hl (by decide) rfl (fun ls hl => ?_)
      refine lv_goto (tgt := 2584) hC.1 hC.2.1 dL_law_809 (by decide) ?_
      refine W.widen (k := cu + 2) (n := su + (11)) (by omega) (by omega) ?_
      exact kk _ _ _ _ _ S hw ⟨_, _, _, _, _, rfl, hG, hm, hdA, hdB⟩ (lv_sub hl [2, 3, 4, 5, 6] rfl) (Nat.le_refl _)
    · exact absurd c_3 c_5
  · refine x_const hC dL_law_772 ?_
    refine lv_goto (tgt := 777) hC.1 hC.2.1 dL_law_773 (by decide) ?_
    refine lv_aload_n hC.1 hC.2.1 dL_law_777 rfl (lv_at hl 3 rfl) ?_
    refine x_callSW hC hw (lv_size hl) ((c_L_poll l G hst hG hN hdA (p0 := z_1) (by omega) (p1 := 1) (by omega) (by omega)).frame hdB) gL_law_L_poll rfl dv_L_poll_s rfl (Nat.le_of_ble_eq_true rfl) (by rw [hRf]; decide) (by rw [hRl]; decide) (by first | (rw [hRc]; decide) | omega) (by first | (rw [hRs]; decide) | omega) dL_law_778 (fun r9 M1 H locs hq hw => ?_)
    obtain ⟨Ck_7, ⟨zk_7, hrk_7, Ak_7, dk_7, svk_7, hCk_7, hdA, hw9⟩, hMk_7, hdB⟩ := hq
    subst hrk_7
    subst hCk_7
    subst hMk_7
    have hzrk_7 : 0 ≤ zk_7 ∧ zk_7 ≤ 3 := by rcases hw9 with ⟨h1, _⟩ | ⟨h1, h2, _⟩; (· omega); (· omega)
    show W p l e R s m args below meth c H locs _ _ _ (F0 m 781 ls [.int (iN (zk_7))])
    refine lv_istore (lv' := [(5, .int (iN (zk_7))), (0, .ref b), (1, .ref h0), (2, .ref a), (3, .ref o), (4, .int (iN (i)))]) hC.1 hC.2.1 dL_law_781 hl (by decide) rfl (fun ls hl => ?_)
    refine lv_aload_n hC.1 hC.2.1 dL_law_783 rfl (lv_at hl 3 rfl) ?_
    refine lv_aload_n hC.1 hC.2.1 dL_law_784 rfl (lv_at hl 1 rfl) ?_
    refine lv_iload hC.1 hC.2.1 dL_law_785 (lv_at hl 5 rfl) ?_
    refine x_const hC dL_law_787 ?_
    refine x_iadd hC dL_law_788 ?_
    refine x_sld hC hw hX hbl hbA (by omega) (by omega) (by omega) dL_law_789 ?_
    rw [← hz_1]
    refine lv_aload_n hC.1 hC.2.1 dL_law_790 rfl (lv_at hl 1 rfl) ?_
    refine lv_iload hC.1 hC.2.1 dL_law_791 (lv_at hl 5 rfl) ?_
    refine x_const hC dL_law_793 ?_
    refine x_iadd hC dL_law_794 ?_
    refine x_sld hC hw hX hbl hbA (by omega) (by omega) (by omega) dL_law_795 ?_
    rw [← hz_2]
    refine x_if_eq (tgt := 803) hC ⟨by omega, by omega⟩ dL_law_796 (by decide) (fun c_8 => ?_) (fun c_8 => ?_)
    · exact absurd c_8 c_3
    · refine x_const hC dL_law_799 ?_
      refine lv_goto (tgt := 804) hC.1 hC.2.1 dL_law_800 (by decide) ?_
      rw [xU_comm hdB] at hw
      obtain ⟨va, oa, wa, ya, wk, br, re, la, ha, qv, qw, fa, fb, fy, wt, hR, hK⟩ := hm
      replace hR : MGx G B a va oa wa ya wk th0 rfd br re la ha kp kv qv qw fa fb V O fy Wv wt S := hR
      replace hK : abM O wt br re la ha K := hK
      refine x_callV hC hw (lv_size hl) ((c_X5_poll l G hR hK (p0 := z_1) (by omega) (p1 := 1) (by omega)).frame hdB.symm) gL_law_X5_poll rfl dv_X5_poll (xU_l hR.1.1) rfl rfl (Nat.le_of_ble_eq_true rfl) (by rw [hRf]; decide) (by rw [hRl]; decide) (by first | (rw [hRc]; decide) | omega) (by first | (rw [hRs]; decide) | omega) dL_law_804 (fun r9 M1 H locs hq hw => ?_)
      obtain ⟨Bk_9, ⟨zk_9, thk_9, hrk_9, hzk_9, hv9⟩, hMk_9, hdB9⟩ := hq
      subst hrk_9
      subst hMk_9
      have hdB := hdB9.symm
      rw [xU_comm hdB9] at hw
      obtain ⟨s1, hG, hm, hkt, hthr, hans⟩ : ∃ s1 : ST, RG G Ak_7 h0 (N + 1) s1 ∧ MGm G Bk_9 a S thk_9 s1 ∧ zk_7 = thk_9 ∧ (0 ≤ thk_9 ∧ thk_9 ≤ 3) ∧ (zk_7 = 0 → dk_7 = (iN zk_9).toInt64) := by
        rcases hw9 with ⟨h1, h2, ⟨z8, h3, h4, h5⟩, h6⟩ | ⟨h1, h2, h6⟩
        · rcases hv9 with ⟨g1, g2, g4, g5⟩ | ⟨g1, g2, g5⟩
          · exact ⟨_, h6, g5, by omega, by omega, fun _ => (show dk_7 = (iN zk_9).toInt64 by rw [h3, h5, g4])⟩
          · exfalso; omega
        · rcases hv9 with ⟨g1, g2, g4, g5⟩ | ⟨g1, g2, g5⟩
          · exfalso; omega
          · exact ⟨_, h6, g5, by omega, by omega, fun q9 => absurd q9 h1⟩
      clear hw9 hv9
      show W p l e R s m args below meth c H locs _ _ _ (F0 m 807 ls [.int (iN (zk_9))])
      refine lv_istore (lv' := [(6, .int (iN (zk_9))), (5, .int (iN (zk_7))), (0, .ref b), (1, .ref h0), (2, .ref a), (3, .ref o), (4, .int (iN (i)))]) hC.1 hC.2.1 dL_law_807 hl (by decide) rfl (fun ls hl => ?_)
      refine lv_goto (tgt := 2584) hC.1 hC.2.1 dL_law_809 (by decide) ?_
      refine W.widen (k := cu + 2) (n := su + (11)) (by omega) (by omega) ?_
      exact kk _ _ _ _ _ S hw ⟨_, _, _, _, _, rfl, hG, hm, hdA, hdB⟩ (lv_sub hl [2, 3, 4, 5, 6] rfl) (Nat.le_refl _)
set_option maxHeartbeats 8000000 in
set_option maxRecDepth 100000 in
theorem k_11 {p : Program} {l : Launch} {e : Env} {R : Room} {s : State} {m : MethodId} {args : Array Value} {below : List Frame} {meth : Method} {c : Code} {Q : State → Prop} {G : xG} {b L : Nat} {xs : Nat → Int32} {nm : String} (hst : l.stackTraces = false) (hRf : R.frames = 2048) {C9 S9 : Nat} (hRc : R.cells = C9) (hRs : R.slots = S9) (hC9 : 513000 ≤ C9) (hS9 : 6932000 ≤ S9) (hRl : R.locals = 84000) (hC : xB p s m args meth c cL_law 7 "RangeledgerLaw" nm wsL_law (some .boolean) G (xA (fun _ => none) s.heap.size)) (hX : va_X b L xs s s.heap) (hbl : b < s.heap.size) (hL : L ≤ 3072) {h0 a o : Nat} {N : Int} (hN : N ≤ 590) {s9 : ST} {S : Nat → Bool} {M : HM} {H : Heap} {locs : List Loc} {ls : Array Slot} {i : Int} {cu su : Nat} (hw : xD G (xA (fun _ => none) s.heap.size) s M H locs) (hS : LwS G M h0 a o N s9 S) (hl : lv_has ls 7 [(0, .ref b), (1, .ref h0), (2, .ref a), (3, .ref o), (4, .int (iN (i)))]) (hi : 0 ≤ i ∧ i + 6 ≤ L) (hcu : cu + 1000 ≤ C9) (hsu : su + 15590 ≤ S9) (kk : ∀ (M1 : HM) (H1 : Heap) (locs1 : List Loc) (ls1 : Array Slot) (s1 : ST) (S1 : Nat → Bool), xD G (xA (fun _ => none) s.heap.size) s M1 H1 locs1 → LwS G M1 h0 a o (N + 1) s1 S1 → lv_has ls1 7 [(0, .ref b), (1, .ref h0), (2, .ref a), (3, .ref o), (4, .int (iN (i)))] → mC S1 100 ≤ mC S 100 + 0 → W p l e R s m args below meth c H1 locs1 (cu + 2) (su + (12)) Q (F0 m 2584 ls1 [])) : W p l e R s m args below meth c H locs cu su Q (F0 m 812 ls []) := by
  obtain ⟨A, B, d, sv, th0, hM, hG, hm, hdA, hdB⟩ := hS
  subst hM
  obtain ⟨O, V, Wv, K, kp, kv, rfd⟩ := s9
  have hbA : ¬ (xA (fun _ => none) s.heap.size) b := fun h9 => h9.elim (fun h8 => h8 rfl) (fun h8 => by omega)
  refine lv_aload_n hC.1 hC.2.1 dL_law_812 rfl (lv_at hl 1 rfl) ?_
  refine lv_aload_n hC.1 hC.2.1 dL_law_813 rfl (lv_at hl 0 rfl) ?_
  refine lv_iload hC.1 hC.2.1 dL_law_814 (lv_at hl 4 rfl) ?_
  refine x_const hC dL_law_816 ?_
  refine x_iadd hC dL_law_817 ?_
  refine x_sld hC hw hX hbl hbA (by omega) (by omega) (by omega) dL_law_818 ?_
  obtain ⟨z_1, hz_1⟩ : ∃ z : Int, z = (xs (i + 1).toNat).toInt := ⟨_, rfl⟩
  rw [← hz_1]
  have hrz_1 : -2147483648 ≤ z_1 ∧ z_1 ≤ 2147483647 := by rw [hz_1]; exact iN_rng _
  refine lv_aload_n hC.1 hC.2.1 dL_law_819 rfl (lv_at hl 0 rfl) ?_
  refine lv_iload hC.1 hC.2.1 dL_law_820 (lv_at hl 4 rfl) ?_
  refine x_const hC dL_law_822 ?_
  refine x_iadd hC dL_law_823 ?_
  refine x_sld hC hw hX hbl hbA (by omega) (by omega) (by omega) dL_law_824 ?_
  obtain ⟨z_2, hz_2⟩ : ∃ z : Int, z = (xs (i + 2).toNat).toInt := ⟨_, rfl⟩
  rw [← hz_2]
  have hrz_2 : -2147483648 ≤ z_2 ∧ z_2 ≤ 2147483647 := by rw [hz_2]; exact iN_rng _
  refine lv_aload_n hC.1 hC.2.1 dL_law_825 rfl (lv_at hl 3 rfl) ?_
  refine x_callSW hC hw (lv_size hl) ((c_L_raise l G hst hG hN hdA (p0 := z_1) (by omega) (p1 := z_2) (by omega)).frame hdB) gL_law_L_raise rfl dv_L_raise_s rfl (Nat.le_of_ble_eq_true rfl) (by rw [hRf]; decide) (by rw [hRl]; decide) (by first | (rw [hRc]; decide) | omega) (by first | (rw [hRs]; decide) | omega) dL_law_826 (fun r9 M1 H locs hq hw => ?_)
  obtain ⟨Ck_3, ⟨zk_3, hrk_3, Ak_3, dk_3, svk_3, hCk_3, hdA, hw9⟩, hMk_3, hdB⟩ := hq
  subst hrk_3
  subst hCk_3
  subst hMk_3
  have hzrk_3 : 0 ≤ zk_3 ∧ zk_3 ≤ 3 := by rcases hw9 with ⟨h1, _⟩ | ⟨h1, h2, _⟩; (· omega); (· omega)
  show W p l e R s m args below meth c H locs _ _ _ (F0 m 829 ls [.int (iN (zk_3))])
  refine lv_istore (lv' := [(5, .int (iN (zk_3))), (0, .ref b), (1, .ref h0), (2, .ref a), (3, .ref o), (4, .int (iN (i)))]) hC.1 hC.2.1 dL_law_829 hl (by decide) rfl (fun ls hl => ?_)
  refine lv_aload_n hC.1 hC.2.1 dL_law_831 rfl (lv_at hl 3 rfl) ?_
  refine lv_aload_n hC.1 hC.2.1 dL_law_832 rfl (lv_at hl 1 rfl) ?_
  refine lv_iload hC.1 hC.2.1 dL_law_833 (lv_at hl 5 rfl) ?_
  refine x_const hC dL_law_835 ?_
  refine x_iadd hC dL_law_836 ?_
  refine x_sld hC hw hX hbl hbA (by omega) (by omega) (by omega) dL_law_837 ?_
  rw [← hz_1]
  refine lv_aload_n hC.1 hC.2.1 dL_law_838 rfl (lv_at hl 1 rfl) ?_
  refine lv_iload hC.1 hC.2.1 dL_law_839 (lv_at hl 5 rfl) ?_
  refine x_const hC dL_law_841 ?_
  refine x_iadd hC dL_law_842 ?_
  refine x_sld hC hw hX hbl hbA (by omega) (by omega) (by omega) dL_law_843 ?_
  rw [← hz_2]
  rw [xU_comm hdB] at hw
  obtain ⟨va, oa, wa, ya, wk, br, re, la, ha, qv, qw, fa, fb, fy, wt, hR, hK⟩ := hm
  replace hR : MGx G B a va oa wa ya wk th0 rfd br re la ha kp kv qv qw fa fb V O fy Wv wt S := hR
  replace hK : abM O wt br re la ha K := hK
  refine x_callV hC hw (lv_size hl) ((c_X5_raise l G hR hK (p0 := z_1) (by omega) (p1 := z_2) (by omega)).frame hdB.symm) gL_law_X5_raise rfl dv_X5_raise (xU_l hR.1.1) rfl rfl (Nat.le_of_ble_eq_true rfl) (by rw [hRf]; decide) (by rw [hRl]; decide) (by first | (rw [hRc]; decide) | omega) (by first | (rw [hRs]; decide) | omega) dL_law_844 (fun r9 M1 H locs hq hw => ?_)
  obtain ⟨Bk_4, ⟨zk_4, thk_4, hrk_4, hzk_4, hv9⟩, hMk_4, hdB9⟩ := hq
  subst hrk_4
  subst hMk_4
  have hdB := hdB9.symm
  rw [xU_comm hdB9] at hw
  obtain ⟨s1, hG, hm, hkt, hthr, hans⟩ : ∃ s1 : ST, RG G Ak_3 h0 (N + 1) s1 ∧ MGm G Bk_4 a S thk_4 s1 ∧ zk_3 = thk_4 ∧ (0 ≤ thk_4 ∧ thk_4 ≤ 3) ∧ (zk_3 = 0 → dk_3 = (iN zk_4).toInt64) := by
    rcases hw9 with ⟨h1, h2, ⟨z8, h3, h4, h5⟩, h6⟩ | ⟨h1, h2, h6⟩
    · rcases hv9 with ⟨g1, g2, g4, g5⟩ | ⟨g1, g2, g5⟩
      · exact ⟨_, h6, g5, by omega, by omega, fun _ => (show dk_3 = (iN zk_4).toInt64 by rw [h3, h5, g4])⟩
      · exfalso; omega
    · rcases hv9 with ⟨g1, g2, g4, g5⟩ | ⟨g1, g2, g5⟩
      · exfalso; omega
      · exact ⟨_, h6, g5, by omega, by omega, fun q9 => absurd q9 h1⟩
  clear hw9 hv9
  show W p l e R s m args below meth c H locs _ _ _ (F0 m 847 ls [.int (iN (zk_4))])
  refine lv_istore (lv' := [(6, .int (iN (zk_4))), (5, .int (iN (zk_3))), (0, .ref b), (1, .ref h0), (2, .ref a), (3, .ref o), (4, .int (iN (i)))]) hC.1 hC.2.1 dL_law_847 hl (by decide) rfl (fun ls hl => ?_)
  refine lv_goto (tgt := 2584) hC.1 hC.2.1 dL_law_849 (by decide) ?_
  refine W.widen (k := cu + 2) (n := su + (12)) (by omega) (by omega) ?_
  exact kk _ _ _ _ _ S hw ⟨_, _, _, _, _, rfl, hG, hm, hdA, hdB⟩ (lv_sub hl [2, 3, 4, 5, 6] rfl) (Nat.le_refl _)
set_option maxHeartbeats 8000000 in
set_option maxRecDepth 100000 in
theorem k_12 {p : Program} {l : Launch} {e : Env} {R : Room} {s : State} {m : MethodId} {args : Array Value} {below : List Frame} {meth : Method} {c : Code} {Q : State → Prop} {G : xG} {b L : Nat} {xs : Nat → Int32} {nm : String} (hst : l.stackTraces = false) (hRf : R.frames = 2048) {C9 S9 : Nat} (hRc : R.cells = C9) (hRs : R.slots = S9) (hC9 : 513000 ≤ C9) (hS9 : 6932000 ≤ S9) (hRl : R.locals = 84000) (hC : xB p s m args meth c cL_law 7 "RangeledgerLaw" nm wsL_law (some .boolean) G (xA (fun _ => none) s.heap.size)) (hX : va_X b L xs s s.heap) (hbl : b < s.heap.size) (hL : L ≤ 3072) {h0 a o : Nat} {N : Int} (hN : N ≤ 590) {s9 : ST} {S : Nat → Bool} {M : HM} {H : Heap} {locs : List Loc} {ls : Array Slot} {i : Int} {cu su : Nat} (hw : xD G (xA (fun _ => none) s.heap.size) s M H locs) (hS : LwS G M h0 a o N s9 S) (hl : lv_has ls 7 [(0, .ref b), (1, .ref h0), (2, .ref a), (3, .ref o), (4, .int (iN (i)))]) (hi : 0 ≤ i ∧ i + 6 ≤ L) (hcu : cu + 1000 ≤ C9) (hsu : su + 15590 ≤ S9) (kk : ∀ (M1 : HM) (H1 : Heap) (locs1 : List Loc) (ls1 : Array Slot) (s1 : ST) (S1 : Nat → Bool), xD G (xA (fun _ => none) s.heap.size) s M1 H1 locs1 → LwS G M1 h0 a o (N + 1) s1 S1 → lv_has ls1 7 [(0, .ref b), (1, .ref h0), (2, .ref a), (3, .ref o), (4, .int (iN (i)))] → mC S1 100 ≤ mC S 100 + 0 → W p l e R s m args below meth c H1 locs1 (cu + 2) (su + (12)) Q (F0 m 2584 ls1 [])) : W p l e R s m args below meth c H locs cu su Q (F0 m 852 ls []) := by
  obtain ⟨A, B, d, sv, th0, hM, hG, hm, hdA, hdB⟩ := hS
  subst hM
  obtain ⟨O, V, Wv, K, kp, kv, rfd⟩ := s9
  have hbA : ¬ (xA (fun _ => none) s.heap.size) b := fun h9 => h9.elim (fun h8 => h8 rfl) (fun h8 => by omega)
  refine lv_aload_n hC.1 hC.2.1 dL_law_852 rfl (lv_at hl 1 rfl) ?_
  refine lv_aload_n hC.1 hC.2.1 dL_law_853 rfl (lv_at hl 0 rfl) ?_
  refine lv_iload hC.1 hC.2.1 dL_law_854 (lv_at hl 4 rfl) ?_
  refine x_const hC dL_law_856 ?_
  refine x_iadd hC dL_law_857 ?_
  refine x_sld hC hw hX hbl hbA (by omega) (by omega) (by omega) dL_law_858 ?_
  obtain ⟨z_1, hz_1⟩ : ∃ z : Int, z = (xs (i + 1).toNat).toInt := ⟨_, rfl⟩
  rw [← hz_1]
  have hrz_1 : -2147483648 ≤ z_1 ∧ z_1 ≤ 2147483647 := by rw [hz_1]; exact iN_rng _
  refine lv_aload_n hC.1 hC.2.1 dL_law_859 rfl (lv_at hl 0 rfl) ?_
  refine lv_iload hC.1 hC.2.1 dL_law_860 (lv_at hl 4 rfl) ?_
  refine x_const hC dL_law_862 ?_
  refine x_iadd hC dL_law_863 ?_
  refine x_sld hC hw hX hbl hbA (by omega) (by omega) (by omega) dL_law_864 ?_
  obtain ⟨z_2, hz_2⟩ : ∃ z : Int, z = (xs (i + 2).toNat).toInt := ⟨_, rfl⟩
  rw [← hz_2]
  have hrz_2 : -2147483648 ≤ z_2 ∧ z_2 ≤ 2147483647 := by rw [hz_2]; exact iN_rng _
  refine lv_aload_n hC.1 hC.2.1 dL_law_865 rfl (lv_at hl 3 rfl) ?_
  refine x_callSW hC hw (lv_size hl) ((c_L_sift l G hst hG hN hdA (p0 := z_1) (by omega) (p1 := z_2) (by omega)).frame hdB) gL_law_L_sift rfl dv_L_sift_s rfl (Nat.le_of_ble_eq_true rfl) (by rw [hRf]; decide) (by rw [hRl]; decide) (by first | (rw [hRc]; decide) | omega) (by first | (rw [hRs]; decide) | omega) dL_law_866 (fun r9 M1 H locs hq hw => ?_)
  obtain ⟨Ck_3, ⟨zk_3, hrk_3, Ak_3, dk_3, svk_3, hCk_3, hdA, hw9⟩, hMk_3, hdB⟩ := hq
  subst hrk_3
  subst hCk_3
  subst hMk_3
  have hzrk_3 : 0 ≤ zk_3 ∧ zk_3 ≤ 3 := by rcases hw9 with ⟨h1, _⟩ | ⟨h1, h2, _⟩; (· omega); (· omega)
  show W p l e R s m args below meth c H locs _ _ _ (F0 m 869 ls [.int (iN (zk_3))])
  refine lv_istore (lv' := [(5, .int (iN (zk_3))), (0, .ref b), (1, .ref h0), (2, .ref a), (3, .ref o), (4, .int (iN (i)))]) hC.1 hC.2.1 dL_law_869 hl (by decide) rfl (fun ls hl => ?_)
  refine lv_aload_n hC.1 hC.2.1 dL_law_871 rfl (lv_at hl 3 rfl) ?_
  refine lv_aload_n hC.1 hC.2.1 dL_law_872 rfl (lv_at hl 1 rfl) ?_
  refine lv_iload hC.1 hC.2.1 dL_law_873 (lv_at hl 5 rfl) ?_
  refine x_const hC dL_law_875 ?_
  refine x_iadd hC dL_law_876 ?_
  refine x_sld hC hw hX hbl hbA (by omega) (by omega) (by omega) dL_law_877 ?_
  rw [← hz_1]
  refine lv_aload_n hC.1 hC.2.1 dL_law_878 rfl (lv_at hl 1 rfl) ?_
  refine lv_iload hC.1 hC.2.1 dL_law_879 (lv_at hl 5 rfl) ?_
  refine x_const hC dL_law_881 ?_
  refine x_iadd hC dL_law_882 ?_
  refine x_sld hC hw hX hbl hbA (by omega) (by omega) (by omega) dL_law_883 ?_
  rw [← hz_2]
  rw [xU_comm hdB] at hw
  obtain ⟨va, oa, wa, ya, wk, br, re, la, ha, qv, qw, fa, fb, fy, wt, hR, hK⟩ := hm
  replace hR : MGx G B a va oa wa ya wk th0 rfd br re la ha kp kv qv qw fa fb V O fy Wv wt S := hR
  replace hK : abM O wt br re la ha K := hK
  refine x_callV hC hw (lv_size hl) ((c_X5_sift l G hR hK (p0 := z_1) (by omega) (p1 := z_2) (by omega)).frame hdB.symm) gL_law_X5_sift rfl dv_X5_sift (xU_l hR.1.1) rfl rfl (Nat.le_of_ble_eq_true rfl) (by rw [hRf]; decide) (by rw [hRl]; decide) (by first | (rw [hRc]; decide) | omega) (by first | (rw [hRs]; decide) | omega) dL_law_884 (fun r9 M1 H locs hq hw => ?_)
  obtain ⟨Bk_4, ⟨zk_4, thk_4, hrk_4, hzk_4, hv9⟩, hMk_4, hdB9⟩ := hq
  subst hrk_4
  subst hMk_4
  have hdB := hdB9.symm
  rw [xU_comm hdB9] at hw
  obtain ⟨s1, hG, hm, hkt, hthr, hans⟩ : ∃ s1 : ST, RG G Ak_3 h0 (N + 1) s1 ∧ MGm G Bk_4 a S thk_4 s1 ∧ zk_3 = thk_4 ∧ (0 ≤ thk_4 ∧ thk_4 ≤ 3) ∧ (zk_3 = 0 → dk_3 = (iN zk_4).toInt64) := by
    rcases hw9 with ⟨h1, h2, ⟨z8, h3, h4, h5⟩, h6⟩ | ⟨h1, h2, h6⟩
    · rcases hv9 with ⟨g1, g2, g4, g5⟩ | ⟨g1, g2, g5⟩
      · exact ⟨_, h6, g5, by omega, by omega, fun _ => (show dk_3 = (iN zk_4).toInt64 by rw [h3, h5, g4])⟩
      · exfalso; omega
    · rcases hv9 with ⟨g1, g2, g4, g5⟩ | ⟨g1, g2, g5⟩
      · exfalso; omega
      · exact ⟨_, h6, g5, by omega, by omega, fun q9 => absurd q9 h1⟩
  clear hw9 hv9
  show W p l e R s m args below meth c H locs _ _ _ (F0 m 887 ls [.int (iN (zk_4))])
  refine lv_istore (lv' := [(6, .int (iN (zk_4))), (5, .int (iN (zk_3))), (0, .ref b), (1, .ref h0), (2, .ref a), (3, .ref o), (4, .int (iN (i)))]) hC.1 hC.2.1 dL_law_887 hl (by decide) rfl (fun ls hl => ?_)
  refine lv_goto (tgt := 2584) hC.1 hC.2.1 dL_law_889 (by decide) ?_
  refine W.widen (k := cu + 2) (n := su + (12)) (by omega) (by omega) ?_
  exact kk _ _ _ _ _ S hw ⟨_, _, _, _, _, rfl, hG, hm, hdA, hdB⟩ (lv_sub hl [2, 3, 4, 5, 6] rfl) (Nat.le_refl _)
set_option maxHeartbeats 8000000 in
set_option maxRecDepth 100000 in
theorem k_13 {p : Program} {l : Launch} {e : Env} {R : Room} {s : State} {m : MethodId} {args : Array Value} {below : List Frame} {meth : Method} {c : Code} {Q : State → Prop} {G : xG} {b L : Nat} {xs : Nat → Int32} {nm : String} (hst : l.stackTraces = false) (hRf : R.frames = 2048) {C9 S9 : Nat} (hRc : R.cells = C9) (hRs : R.slots = S9) (hC9 : 513000 ≤ C9) (hS9 : 6932000 ≤ S9) (hRl : R.locals = 84000) (hC : xB p s m args meth c cL_law 7 "RangeledgerLaw" nm wsL_law (some .boolean) G (xA (fun _ => none) s.heap.size)) (hX : va_X b L xs s s.heap) (hbl : b < s.heap.size) (hL : L ≤ 3072) {h0 a o : Nat} {N : Int} (hN : N ≤ 590) {s9 : ST} {S : Nat → Bool} {M : HM} {H : Heap} {locs : List Loc} {ls : Array Slot} {i : Int} {cu su : Nat} (hw : xD G (xA (fun _ => none) s.heap.size) s M H locs) (hS : LwS G M h0 a o N s9 S) (hl : lv_has ls 7 [(0, .ref b), (1, .ref h0), (2, .ref a), (3, .ref o), (4, .int (iN (i)))]) (hi : 0 ≤ i ∧ i + 6 ≤ L) (hcu : cu + 1000 ≤ C9) (hsu : su + 15590 ≤ S9) (kk : ∀ (M1 : HM) (H1 : Heap) (locs1 : List Loc) (ls1 : Array Slot) (s1 : ST) (S1 : Nat → Bool), xD G (xA (fun _ => none) s.heap.size) s M1 H1 locs1 → LwS G M1 h0 a o (N + 1) s1 S1 → lv_has ls1 7 [(0, .ref b), (1, .ref h0), (2, .ref a), (3, .ref o), (4, .int (iN (i)))] → mC S1 100 ≤ mC S 100 + 0 → W p l e R s m args below meth c H1 locs1 (cu + 3) (su + (18)) Q (F0 m 2584 ls1 [])) : W p l e R s m args below meth c H locs cu su Q (F0 m 892 ls []) := by
  obtain ⟨A, B, d, sv, th0, hM, hG, hm, hdA, hdB⟩ := hS
  subst hM
  obtain ⟨O, V, Wv, K, kp, kv, rfd⟩ := s9
  have hbA : ¬ (xA (fun _ => none) s.heap.size) b := fun h9 => h9.elim (fun h8 => h8 rfl) (fun h8 => by omega)
  refine lv_aload_n hC.1 hC.2.1 dL_law_892 rfl (lv_at hl 1 rfl) ?_
  refine lv_aload_n hC.1 hC.2.1 dL_law_893 rfl (lv_at hl 0 rfl) ?_
  refine lv_iload hC.1 hC.2.1 dL_law_894 (lv_at hl 4 rfl) ?_
  refine x_const hC dL_law_896 ?_
  refine x_iadd hC dL_law_897 ?_
  refine x_sld hC hw hX hbl hbA (by omega) (by omega) (by omega) dL_law_898 ?_
  obtain ⟨z_1, hz_1⟩ : ∃ z : Int, z = (xs (i + 1).toNat).toInt := ⟨_, rfl⟩
  rw [← hz_1]
  have hrz_1 : -2147483648 ≤ z_1 ∧ z_1 ≤ 2147483647 := by rw [hz_1]; exact iN_rng _
  refine lv_aload_n hC.1 hC.2.1 dL_law_899 rfl (lv_at hl 0 rfl) ?_
  refine lv_iload hC.1 hC.2.1 dL_law_900 (lv_at hl 4 rfl) ?_
  refine x_const hC dL_law_902 ?_
  refine x_iadd hC dL_law_903 ?_
  refine x_sld hC hw hX hbl hbA (by omega) (by omega) (by omega) dL_law_904 ?_
  obtain ⟨z_2, hz_2⟩ : ∃ z : Int, z = (xs (i + 2).toNat).toInt := ⟨_, rfl⟩
  rw [← hz_2]
  have hrz_2 : -2147483648 ≤ z_2 ∧ z_2 ≤ 2147483647 := by rw [hz_2]; exact iN_rng _
  refine lv_aload_n hC.1 hC.2.1 dL_law_905 rfl (lv_at hl 3 rfl) ?_
  refine x_callSW hC hw (lv_size hl) ((c_L_strikeValue l G hst hG hN hdA (p0 := z_1) (by omega) (p1 := z_2) (by omega)).frame hdB) gL_law_L_strikeValue rfl dv_L_strikeValue_s rfl (Nat.le_of_ble_eq_true rfl) (by rw [hRf]; decide) (by rw [hRl]; decide) (by first | (rw [hRc]; decide) | omega) (by first | (rw [hRs]; decide) | omega) dL_law_906 (fun r9 M1 H locs hq hw => ?_)
  obtain ⟨Ck_3, ⟨zk_3, hrk_3, Ak_3, dk_3, svk_3, hCk_3, hdA, hw9⟩, hMk_3, hdB⟩ := hq
  subst hrk_3
  subst hCk_3
  subst hMk_3
  have hzrk_3 : 0 ≤ zk_3 ∧ zk_3 ≤ 3 := by rcases hw9 with ⟨h1, _⟩ | ⟨h1, h2, _⟩; (· omega); (· omega)
  show W p l e R s m args below meth c H locs _ _ _ (F0 m 909 ls [.int (iN (zk_3))])
  refine lv_istore (lv' := [(5, .int (iN (zk_3))), (0, .ref b), (1, .ref h0), (2, .ref a), (3, .ref o), (4, .int (iN (i)))]) hC.1 hC.2.1 dL_law_909 hl (by decide) rfl (fun ls hl => ?_)
  refine lv_aload_n hC.1 hC.2.1 dL_law_911 rfl (lv_at hl 3 rfl) ?_
  refine lv_aload_n hC.1 hC.2.1 dL_law_912 rfl (lv_at hl 1 rfl) ?_
  refine lv_iload hC.1 hC.2.1 dL_law_913 (lv_at hl 5 rfl) ?_
  refine x_const hC dL_law_915 ?_
  refine x_iadd hC dL_law_916 ?_
  refine x_sld hC hw hX hbl hbA (by omega) (by omega) (by omega) dL_law_917 ?_
  rw [← hz_1]
  refine lv_aload_n hC.1 hC.2.1 dL_law_918 rfl (lv_at hl 1 rfl) ?_
  refine lv_iload hC.1 hC.2.1 dL_law_919 (lv_at hl 5 rfl) ?_
  refine x_const hC dL_law_921 ?_
  refine x_iadd hC dL_law_922 ?_
  refine x_sld hC hw hX hbl hbA (by omega) (by omega) (by omega) dL_law_923 ?_
  rw [← hz_2]
  rw [xU_comm hdB] at hw
  obtain ⟨va, oa, wa, ya, wk, br, re, la, ha, qv, qw, fa, fb, fy, wt, hR, hK⟩ := hm
  replace hR : MGx G B a va oa wa ya wk th0 rfd br re la ha kp kv qv qw fa fb V O fy Wv wt S := hR
  replace hK : abM O wt br re la ha K := hK
  refine x_callV hC hw (lv_size hl) ((c_X5_strikeValue l G hR hK (p0 := z_1) (by omega) (p1 := z_2) (by omega)).frame hdB.symm) gL_law_X5_strikeValue rfl dv_X5_strikeValue (xU_l hR.1.1) rfl rfl (Nat.le_of_ble_eq_true rfl) (by rw [hRf]; decide) (by rw [hRl]; decide) (by first | (rw [hRc]; decide) | omega) (by first | (rw [hRs]; decide) | omega) dL_law_924 (fun r9 M1 H locs hq hw => ?_)
  obtain ⟨Bk_4, ⟨zk_4, thk_4, hrk_4, hzk_4, hv9⟩, hMk_4, hdB9⟩ := hq
  subst hrk_4
  subst hMk_4
  have hdB := hdB9.symm
  rw [xU_comm hdB9] at hw
  obtain ⟨s1, hG, hm, hkt, hthr, hans, hbo⟩ : ∃ s1 : ST, RG G Ak_3 h0 (N + 1) s1 ∧ MGm G Bk_4 a S thk_4 s1 ∧ zk_3 = thk_4 ∧ (0 ≤ thk_4 ∧ thk_4 ≤ 3) ∧ (zk_3 = 0 → dk_3 = (iN zk_4).toInt64) ∧ (zk_3 = 0 → zk_4 = 0 ∨ zk_4 = 1) := by
    rcases hw9 with ⟨h1, h2, ⟨z8, h3, h4, h5⟩, h6⟩ | ⟨h1, h2, h6⟩
    · rcases hv9 with ⟨g1, g2, g4, g5⟩ | ⟨g1, g2, g5⟩
      · exact ⟨_, h6, g5, by omega, by omega, fun _ => (show dk_3 = (iN zk_4).toInt64 by rw [h3, h5, g4]), fun _ => by rw [g4]; unfold A_strikeValue; split <;> simp⟩
      · exfalso; omega
    · rcases hv9 with ⟨g1, g2, g4, g5⟩ | ⟨g1, g2, g5⟩
      · exfalso; omega
      · exact ⟨_, h6, g5, by omega, by omega, fun q9 => absurd q9 h1, fun q9 => absurd q9 h1⟩
  clear hw9 hv9
  show W p l e R s m args below meth c H locs _ _ _ (F0 m 927 ls [.int (iN (zk_4))])
  refine lv_istore (lv' := [(6, .int (iN (zk_4))), (5, .int (iN (zk_3))), (0, .ref b), (1, .ref h0), (2, .ref a), (3, .ref o), (4, .int (iN (i)))]) hC.1 hC.2.1 dL_law_927 hl (by decide) rfl (fun ls hl => ?_)
  refine lv_goto (tgt := 2584) hC.1 hC.2.1 dL_law_929 (by decide) ?_
  refine W.widen (k := cu + 3) (n := su + (18)) (by omega) (by omega) ?_
  exact kk _ _ _ _ _ S hw ⟨_, _, _, _, _, rfl, hG, hm, hdA, hdB⟩ (lv_sub hl [2, 3, 4, 5, 6] rfl) (Nat.le_refl _)
set_option maxHeartbeats 8000000 in
set_option maxRecDepth 100000 in
theorem k_14 {p : Program} {l : Launch} {e : Env} {R : Room} {s : State} {m : MethodId} {args : Array Value} {below : List Frame} {meth : Method} {c : Code} {Q : State → Prop} {G : xG} {b L : Nat} {xs : Nat → Int32} {nm : String} (hst : l.stackTraces = false) (hRf : R.frames = 2048) {C9 S9 : Nat} (hRc : R.cells = C9) (hRs : R.slots = S9) (hC9 : 513000 ≤ C9) (hS9 : 6932000 ≤ S9) (hRl : R.locals = 84000) (hC : xB p s m args meth c cL_law 7 "RangeledgerLaw" nm wsL_law (some .boolean) G (xA (fun _ => none) s.heap.size)) (hX : va_X b L xs s s.heap) (hbl : b < s.heap.size) (hL : L ≤ 3072) {h0 a o : Nat} {N : Int} (hN : N ≤ 590) {s9 : ST} {S : Nat → Bool} {M : HM} {H : Heap} {locs : List Loc} {ls : Array Slot} {i : Int} {cu su : Nat} (hw : xD G (xA (fun _ => none) s.heap.size) s M H locs) (hS : LwS G M h0 a o N s9 S) (hl : lv_has ls 7 [(0, .ref b), (1, .ref h0), (2, .ref a), (3, .ref o), (4, .int (iN (i)))]) (hi : 0 ≤ i ∧ i + 6 ≤ L) (hcu : cu + 1000 ≤ C9) (hsu : su + 15590 ≤ S9) (kk : ∀ (M1 : HM) (H1 : Heap) (locs1 : List Loc) (ls1 : Array Slot) (s1 : ST) (S1 : Nat → Bool), xD G (xA (fun _ => none) s.heap.size) s M1 H1 locs1 → LwS G M1 h0 a o (N + 1) s1 S1 → lv_has ls1 7 [(0, .ref b), (1, .ref h0), (2, .ref a), (3, .ref o), (4, .int (iN (i)))] → mC S1 100 ≤ mC S 100 + 0 → W p l e R s m args below meth c H1 locs1 (cu + 2) (su + (11)) Q (F0 m 2584 ls1 [])) : W p l e R s m args below meth c H locs cu su Q (F0 m 932 ls []) := by
  obtain ⟨A, B, d, sv, th0, hM, hG, hm, hdA, hdB⟩ := hS
  subst hM
  obtain ⟨O, V, Wv, K, kp, kv, rfd⟩ := s9
  have hbA : ¬ (xA (fun _ => none) s.heap.size) b := fun h9 => h9.elim (fun h8 => h8 rfl) (fun h8 => by omega)
  refine lv_aload_n hC.1 hC.2.1 dL_law_932 rfl (lv_at hl 1 rfl) ?_
  refine lv_aload_n hC.1 hC.2.1 dL_law_933 rfl (lv_at hl 0 rfl) ?_
  refine lv_iload hC.1 hC.2.1 dL_law_934 (lv_at hl 4 rfl) ?_
  refine x_const hC dL_law_936 ?_
  refine x_iadd hC dL_law_937 ?_
  refine x_sld hC hw hX hbl hbA (by omega) (by omega) (by omega) dL_law_938 ?_
  obtain ⟨z_1, hz_1⟩ : ∃ z : Int, z = (xs (i + 1).toNat).toInt := ⟨_, rfl⟩
  rw [← hz_1]
  have hrz_1 : -2147483648 ≤ z_1 ∧ z_1 ≤ 2147483647 := by rw [hz_1]; exact iN_rng _
  refine lv_aload_n hC.1 hC.2.1 dL_law_939 rfl (lv_at hl 3 rfl) ?_
  refine x_callSW hC hw (lv_size hl) ((c_L_clear l G hst hG hN hdA (p0 := z_1) (by omega)).frame hdB) gL_law_L_clear rfl dv_L_clear_s rfl (Nat.le_of_ble_eq_true rfl) (by rw [hRf]; decide) (by rw [hRl]; decide) (by first | (rw [hRc]; decide) | omega) (by first | (rw [hRs]; decide) | omega) dL_law_940 (fun r9 M1 H locs hq hw => ?_)
  obtain ⟨Ck_2, ⟨zk_2, hrk_2, Ak_2, dk_2, svk_2, hCk_2, hdA, hw9⟩, hMk_2, hdB⟩ := hq
  subst hrk_2
  subst hCk_2
  subst hMk_2
  have hzrk_2 : 0 ≤ zk_2 ∧ zk_2 ≤ 3 := by rcases hw9 with ⟨h1, _⟩ | ⟨h1, h2, _⟩; (· omega); (· omega)
  show W p l e R s m args below meth c H locs _ _ _ (F0 m 943 ls [.int (iN (zk_2))])
  refine lv_istore (lv' := [(5, .int (iN (zk_2))), (0, .ref b), (1, .ref h0), (2, .ref a), (3, .ref o), (4, .int (iN (i)))]) hC.1 hC.2.1 dL_law_943 hl (by decide) rfl (fun ls hl => ?_)
  refine lv_aload_n hC.1 hC.2.1 dL_law_945 rfl (lv_at hl 3 rfl) ?_
  refine lv_aload_n hC.1 hC.2.1 dL_law_946 rfl (lv_at hl 1 rfl) ?_
  refine lv_iload hC.1 hC.2.1 dL_law_947 (lv_at hl 5 rfl) ?_
  refine x_const hC dL_law_949 ?_
  refine x_iadd hC dL_law_950 ?_
  refine x_sld hC hw hX hbl hbA (by omega) (by omega) (by omega) dL_law_951 ?_
  rw [← hz_1]
  rw [xU_comm hdB] at hw
  obtain ⟨va, oa, wa, ya, wk, br, re, la, ha, qv, qw, fa, fb, fy, wt, hR, hK⟩ := hm
  replace hR : MGx G B a va oa wa ya wk th0 rfd br re la ha kp kv qv qw fa fb V O fy Wv wt S := hR
  replace hK : abM O wt br re la ha K := hK
  refine x_callV hC hw (lv_size hl) ((c_X5_clear l G hR hK (p0 := z_1) (by omega)).frame hdB.symm) gL_law_X5_clear rfl dv_X5_clear (xU_l hR.1.1) rfl rfl (Nat.le_of_ble_eq_true rfl) (by rw [hRf]; decide) (by rw [hRl]; decide) (by first | (rw [hRc]; decide) | omega) (by first | (rw [hRs]; decide) | omega) dL_law_952 (fun r9 M1 H locs hq hw => ?_)
  obtain ⟨Bk_3, ⟨zk_3, thk_3, hrk_3, hzk_3, hv9⟩, hMk_3, hdB9⟩ := hq
  subst hrk_3
  subst hMk_3
  have hdB := hdB9.symm
  rw [xU_comm hdB9] at hw
  obtain ⟨s1, hG, hm, hkt, hthr, hans⟩ : ∃ s1 : ST, RG G Ak_2 h0 (N + 1) s1 ∧ MGm G Bk_3 a S thk_3 s1 ∧ zk_2 = thk_3 ∧ (0 ≤ thk_3 ∧ thk_3 ≤ 3) ∧ (zk_2 = 0 → dk_2 = (iN zk_3).toInt64) := by
    rcases hw9 with ⟨h1, h2, ⟨z8, h3, h4, h5⟩, h6⟩ | ⟨h1, h2, h6⟩
    · rcases hv9 with ⟨g1, g2, g4, g5⟩ | ⟨g1, g2, g5⟩
      · exact ⟨_, h6, g5, by omega, by omega, fun _ => (show dk_2 = (iN zk_3).toInt64 by rw [h3, h5, g4])⟩
      · exfalso; omega
    · rcases hv9 with ⟨g1, g2, g4, g5⟩ | ⟨g1, g2, g5⟩
      · exfalso; omega
      · exact ⟨_, h6, g5, by omega, by omega, fun q9 => absurd q9 h1⟩
  clear hw9 hv9
  show W p l e R s m args below meth c H locs _ _ _ (F0 m 955 ls [.int (iN (zk_3))])
  refine lv_istore (lv' := [(6, .int (iN (zk_3))), (5, .int (iN (zk_2))), (0, .ref b), (1, .ref h0), (2, .ref a), (3, .ref o), (4, .int (iN (i)))]) hC.1 hC.2.1 dL_law_955 hl (by decide) rfl (fun ls hl => ?_)
  refine lv_goto (tgt := 2584) hC.1 hC.2.1 dL_law_957 (by decide) ?_
  refine W.widen (k := cu + 2) (n := su + (11)) (by omega) (by omega) ?_
  exact kk _ _ _ _ _ S hw ⟨_, _, _, _, _, rfl, hG, hm, hdA, hdB⟩ (lv_sub hl [2, 3, 4, 5, 6] rfl) (Nat.le_refl _)
set_option maxHeartbeats 8000000 in
set_option maxRecDepth 100000 in
theorem k_15 {p : Program} {l : Launch} {e : Env} {R : Room} {s : State} {m : MethodId} {args : Array Value} {below : List Frame} {meth : Method} {c : Code} {Q : State → Prop} {G : xG} {b L : Nat} {xs : Nat → Int32} {nm : String} (hst : l.stackTraces = false) (hRf : R.frames = 2048) {C9 S9 : Nat} (hRc : R.cells = C9) (hRs : R.slots = S9) (hC9 : 513000 ≤ C9) (hS9 : 6932000 ≤ S9) (hRl : R.locals = 84000) (hC : xB p s m args meth c cL_law 7 "RangeledgerLaw" nm wsL_law (some .boolean) G (xA (fun _ => none) s.heap.size)) (hX : va_X b L xs s s.heap) (hbl : b < s.heap.size) (hL : L ≤ 3072) {h0 a o : Nat} {N : Int} (hN : N ≤ 590) {s9 : ST} {S : Nat → Bool} {M : HM} {H : Heap} {locs : List Loc} {ls : Array Slot} {i : Int} {cu su : Nat} (hw : xD G (xA (fun _ => none) s.heap.size) s M H locs) (hS : LwS G M h0 a o N s9 S) (hl : lv_has ls 7 [(0, .ref b), (1, .ref h0), (2, .ref a), (3, .ref o), (4, .int (iN (i)))]) (hi : 0 ≤ i ∧ i + 6 ≤ L) (hcu : cu + 1000 ≤ C9) (hsu : su + 15590 ≤ S9) (kk : ∀ (M1 : HM) (H1 : Heap) (locs1 : List Loc) (ls1 : Array Slot) (s1 : ST) (S1 : Nat → Bool), xD G (xA (fun _ => none) s.heap.size) s M1 H1 locs1 → LwS G M1 h0 a o (N + 1) s1 S1 → lv_has ls1 7 [(0, .ref b), (1, .ref h0), (2, .ref a), (3, .ref o), (4, .int (iN (i)))] → mC S1 100 ≤ mC S 100 + 0 → W p l e R s m args below meth c H1 locs1 (cu + 4) (su + (23)) Q (F0 m 2584 ls1 [])) : W p l e R s m args below meth c H locs cu su Q (F0 m 960 ls []) := by
  obtain ⟨A, B, d, sv, th0, hM, hG, hm, hdA, hdB⟩ := hS
  subst hM
  obtain ⟨O, V, Wv, K, kp, kv, rfd⟩ := s9
  have hbA : ¬ (xA (fun _ => none) s.heap.size) b := fun h9 => h9.elim (fun h8 => h8 rfl) (fun h8 => by omega)
  refine lv_aload_n hC.1 hC.2.1 dL_law_960 rfl (lv_at hl 1 rfl) ?_
  refine lv_aload_n hC.1 hC.2.1 dL_law_961 rfl (lv_at hl 0 rfl) ?_
  refine lv_iload hC.1 hC.2.1 dL_law_962 (lv_at hl 4 rfl) ?_
  refine x_const hC dL_law_964 ?_
  refine x_iadd hC dL_law_965 ?_
  refine x_sld hC hw hX hbl hbA (by omega) (by omega) (by omega) dL_law_966 ?_
  obtain ⟨z_1, hz_1⟩ : ∃ z : Int, z = (xs (i + 1).toNat).toInt := ⟨_, rfl⟩
  rw [← hz_1]
  have hrz_1 : -2147483648 ≤ z_1 ∧ z_1 ≤ 2147483647 := by rw [hz_1]; exact iN_rng _
  refine lv_aload_n hC.1 hC.2.1 dL_law_967 rfl (lv_at hl 0 rfl) ?_
  refine lv_iload hC.1 hC.2.1 dL_law_968 (lv_at hl 4 rfl) ?_
  refine x_const hC dL_law_970 ?_
  refine x_iadd hC dL_law_971 ?_
  refine x_sld hC hw hX hbl hbA (by omega) (by omega) (by omega) dL_law_972 ?_
  obtain ⟨z_2, hz_2⟩ : ∃ z : Int, z = (xs (i + 2).toNat).toInt := ⟨_, rfl⟩
  rw [← hz_2]
  have hrz_2 : -2147483648 ≤ z_2 ∧ z_2 ≤ 2147483647 := by rw [hz_2]; exact iN_rng _
  refine lv_aload_n hC.1 hC.2.1 dL_law_973 rfl (lv_at hl 3 rfl) ?_
  refine x_callSW hC hw (lv_size hl) ((c_L_pour l G hst hG hN hdA (p0 := z_1) (by omega) (p1 := z_2) (by omega)).frame hdB) gL_law_L_pour rfl dv_L_pour_s rfl (Nat.le_of_ble_eq_true rfl) (by rw [hRf]; decide) (by rw [hRl]; decide) (by first | (rw [hRc]; decide) | omega) (by first | (rw [hRs]; decide) | omega) dL_law_974 (fun r9 M1 H locs hq hw => ?_)
  obtain ⟨Ck_3, ⟨zk_3, hrk_3, Ak_3, dk_3, svk_3, hCk_3, hdA, hw9⟩, hMk_3, hdB⟩ := hq
  subst hrk_3
  subst hCk_3
  subst hMk_3
  have hzrk_3 : 0 ≤ zk_3 ∧ zk_3 ≤ 3 := by rcases hw9 with ⟨h1, _⟩ | ⟨h1, h2, _⟩; (· omega); (· omega)
  show W p l e R s m args below meth c H locs _ _ _ (F0 m 977 ls [.int (iN (zk_3))])
  refine lv_istore (lv' := [(5, .int (iN (zk_3))), (0, .ref b), (1, .ref h0), (2, .ref a), (3, .ref o), (4, .int (iN (i)))]) hC.1 hC.2.1 dL_law_977 hl (by decide) rfl (fun ls hl => ?_)
  refine lv_aload_n hC.1 hC.2.1 dL_law_979 rfl (lv_at hl 3 rfl) ?_
  refine lv_aload_n hC.1 hC.2.1 dL_law_980 rfl (lv_at hl 1 rfl) ?_
  refine lv_iload hC.1 hC.2.1 dL_law_981 (lv_at hl 5 rfl) ?_
  refine x_const hC dL_law_983 ?_
  refine x_iadd hC dL_law_984 ?_
  refine x_sld hC hw hX hbl hbA (by omega) (by omega) (by omega) dL_law_985 ?_
  rw [← hz_1]
  refine lv_aload_n hC.1 hC.2.1 dL_law_986 rfl (lv_at hl 1 rfl) ?_
  refine lv_iload hC.1 hC.2.1 dL_law_987 (lv_at hl 5 rfl) ?_
  refine x_const hC dL_law_989 ?_
  refine x_iadd hC dL_law_990 ?_
  refine x_sld hC hw hX hbl hbA (by omega) (by omega) (by omega) dL_law_991 ?_
  rw [← hz_2]
  rw [xU_comm hdB] at hw
  obtain ⟨va, oa, wa, ya, wk, br, re, la, ha, qv, qw, fa, fb, fy, wt, hR, hK⟩ := hm
  replace hR : MGx G B a va oa wa ya wk th0 rfd br re la ha kp kv qv qw fa fb V O fy Wv wt S := hR
  replace hK : abM O wt br re la ha K := hK
  refine x_callV hC hw (lv_size hl) ((c_X5_pour l G hR hK (p0 := z_1) (by omega) (p1 := z_2) (by omega)).frame hdB.symm) gL_law_X5_pour rfl dv_X5_pour (xU_l hR.1.1) rfl rfl (Nat.le_of_ble_eq_true rfl) (by rw [hRf]; decide) (by rw [hRl]; decide) (by first | (rw [hRc]; decide) | omega) (by first | (rw [hRs]; decide) | omega) dL_law_992 (fun r9 M1 H locs hq hw => ?_)
  obtain ⟨Bk_4, ⟨zk_4, thk_4, hrk_4, hzk_4, hv9⟩, hMk_4, hdB9⟩ := hq
  subst hrk_4
  subst hMk_4
  have hdB := hdB9.symm
  rw [xU_comm hdB9] at hw
  obtain ⟨s1, hG, hm, hkt, hthr, hans⟩ : ∃ s1 : ST, RG G Ak_3 h0 (N + 1) s1 ∧ MGm G Bk_4 a S thk_4 s1 ∧ zk_3 = thk_4 ∧ (0 ≤ thk_4 ∧ thk_4 ≤ 3) ∧ (zk_3 = 0 → dk_3 = (iN zk_4).toInt64) := by
    rcases hw9 with ⟨h1, h2, ⟨z8, h3, h4, h5⟩, h6⟩ | ⟨h1, h2, h6⟩
    · rcases hv9 with ⟨g1, g2, g4, g5⟩ | ⟨g1, g2, g5⟩
      · exact ⟨_, h6, g5, by omega, by omega, fun _ => (show dk_3 = (iN zk_4).toInt64 by rw [h3, h5, g4])⟩
      · exfalso; omega
    · rcases hv9 with ⟨g1, g2, g4, g5⟩ | ⟨g1, g2, g5⟩
      · exfalso; omega
      · exact ⟨_, h6, g5, by omega, by omega, fun q9 => absurd q9 h1⟩
  clear hw9 hv9
  show W p l e R s m args below meth c H locs _ _ _ (F0 m 995 ls [.int (iN (zk_4))])
  refine lv_istore (lv' := [(6, .int (iN (zk_4))), (5, .int (iN (zk_3))), (0, .ref b), (1, .ref h0), (2, .ref a), (3, .ref o), (4, .int (iN (i)))]) hC.1 hC.2.1 dL_law_995 hl (by decide) rfl (fun ls hl => ?_)
  refine lv_goto (tgt := 2584) hC.1 hC.2.1 dL_law_997 (by decide) ?_
  refine W.widen (k := cu + 4) (n := su + (23)) (by omega) (by omega) ?_
  exact kk _ _ _ _ _ S hw ⟨_, _, _, _, _, rfl, hG, hm, hdA, hdB⟩ (lv_sub hl [2, 3, 4, 5, 6] rfl) (Nat.le_refl _)
set_option maxHeartbeats 8000000 in
set_option maxRecDepth 100000 in
theorem k_16 {p : Program} {l : Launch} {e : Env} {R : Room} {s : State} {m : MethodId} {args : Array Value} {below : List Frame} {meth : Method} {c : Code} {Q : State → Prop} {G : xG} {b L : Nat} {xs : Nat → Int32} {nm : String} (hst : l.stackTraces = false) (hRf : R.frames = 2048) {C9 S9 : Nat} (hRc : R.cells = C9) (hRs : R.slots = S9) (hC9 : 513000 ≤ C9) (hS9 : 6932000 ≤ S9) (hRl : R.locals = 84000) (hC : xB p s m args meth c cL_law 7 "RangeledgerLaw" nm wsL_law (some .boolean) G (xA (fun _ => none) s.heap.size)) (hX : va_X b L xs s s.heap) (hbl : b < s.heap.size) (hL : L ≤ 3072) {h0 a o : Nat} {N : Int} (hN : N ≤ 590) {s9 : ST} {S : Nat → Bool} {M : HM} {H : Heap} {locs : List Loc} {ls : Array Slot} {i : Int} {cu su : Nat} (hw : xD G (xA (fun _ => none) s.heap.size) s M H locs) (hS : LwS G M h0 a o N s9 S) (hl : lv_has ls 7 [(0, .ref b), (1, .ref h0), (2, .ref a), (3, .ref o), (4, .int (iN (i)))]) (hi : 0 ≤ i ∧ i + 6 ≤ L) (hcu : cu + 1000 ≤ C9) (hsu : su + 15590 ≤ S9) (kk : ∀ (M1 : HM) (H1 : Heap) (locs1 : List Loc) (ls1 : Array Slot) (s1 : ST) (S1 : Nat → Bool), xD G (xA (fun _ => none) s.heap.size) s M1 H1 locs1 → LwS G M1 h0 a o (N + 1) s1 S1 → lv_has ls1 7 [(0, .ref b), (1, .ref h0), (2, .ref a), (3, .ref o), (4, .int (iN (i)))] → mC S1 100 ≤ mC S 100 + 0 → W p l e R s m args below meth c H1 locs1 (cu + 3) (su + (18)) Q (F0 m 2584 ls1 [])) : W p l e R s m args below meth c H locs cu su Q (F0 m 1000 ls []) := by
  obtain ⟨A, B, d, sv, th0, hM, hG, hm, hdA, hdB⟩ := hS
  subst hM
  obtain ⟨O, V, Wv, K, kp, kv, rfd⟩ := s9
  have hbA : ¬ (xA (fun _ => none) s.heap.size) b := fun h9 => h9.elim (fun h8 => h8 rfl) (fun h8 => by omega)
  refine lv_aload_n hC.1 hC.2.1 dL_law_1000 rfl (lv_at hl 1 rfl) ?_
  refine lv_aload_n hC.1 hC.2.1 dL_law_1001 rfl (lv_at hl 0 rfl) ?_
  refine lv_iload hC.1 hC.2.1 dL_law_1002 (lv_at hl 4 rfl) ?_
  refine x_const hC dL_law_1004 ?_
  refine x_iadd hC dL_law_1005 ?_
  refine x_sld hC hw hX hbl hbA (by omega) (by omega) (by omega) dL_law_1006 ?_
  obtain ⟨z_1, hz_1⟩ : ∃ z : Int, z = (xs (i + 1).toNat).toInt := ⟨_, rfl⟩
  rw [← hz_1]
  have hrz_1 : -2147483648 ≤ z_1 ∧ z_1 ≤ 2147483647 := by rw [hz_1]; exact iN_rng _
  refine lv_aload_n hC.1 hC.2.1 dL_law_1007 rfl (lv_at hl 0 rfl) ?_
  refine lv_iload hC.1 hC.2.1 dL_law_1008 (lv_at hl 4 rfl) ?_
  refine x_const hC dL_law_1010 ?_
  refine x_iadd hC dL_law_1011 ?_
  refine x_sld hC hw hX hbl hbA (by omega) (by omega) (by omega) dL_law_1012 ?_
  obtain ⟨z_2, hz_2⟩ : ∃ z : Int, z = (xs (i + 2).toNat).toInt := ⟨_, rfl⟩
  rw [← hz_2]
  have hrz_2 : -2147483648 ≤ z_2 ∧ z_2 ≤ 2147483647 := by rw [hz_2]; exact iN_rng _
  refine lv_aload_n hC.1 hC.2.1 dL_law_1013 rfl (lv_at hl 3 rfl) ?_
  refine x_callSW hC hw (lv_size hl) ((c_L_copy l G hst hG hN hdA (p0 := z_1) (by omega) (p1 := z_2) (by omega)).frame hdB) gL_law_L_copy rfl dv_L_copy_s rfl (Nat.le_of_ble_eq_true rfl) (by rw [hRf]; decide) (by rw [hRl]; decide) (by first | (rw [hRc]; decide) | omega) (by first | (rw [hRs]; decide) | omega) dL_law_1014 (fun r9 M1 H locs hq hw => ?_)
  obtain ⟨Ck_3, ⟨zk_3, hrk_3, Ak_3, dk_3, svk_3, hCk_3, hdA, hw9⟩, hMk_3, hdB⟩ := hq
  subst hrk_3
  subst hCk_3
  subst hMk_3
  have hzrk_3 : 0 ≤ zk_3 ∧ zk_3 ≤ 3 := by rcases hw9 with ⟨h1, _⟩ | ⟨h1, h2, _⟩; (· omega); (· omega)
  show W p l e R s m args below meth c H locs _ _ _ (F0 m 1017 ls [.int (iN (zk_3))])
  refine lv_istore (lv' := [(5, .int (iN (zk_3))), (0, .ref b), (1, .ref h0), (2, .ref a), (3, .ref o), (4, .int (iN (i)))]) hC.1 hC.2.1 dL_law_1017 hl (by decide) rfl (fun ls hl => ?_)
  refine lv_aload_n hC.1 hC.2.1 dL_law_1019 rfl (lv_at hl 3 rfl) ?_
  refine lv_aload_n hC.1 hC.2.1 dL_law_1020 rfl (lv_at hl 1 rfl) ?_
  refine lv_iload hC.1 hC.2.1 dL_law_1021 (lv_at hl 5 rfl) ?_
  refine x_const hC dL_law_1023 ?_
  refine x_iadd hC dL_law_1024 ?_
  refine x_sld hC hw hX hbl hbA (by omega) (by omega) (by omega) dL_law_1025 ?_
  rw [← hz_1]
  refine lv_aload_n hC.1 hC.2.1 dL_law_1026 rfl (lv_at hl 1 rfl) ?_
  refine lv_iload hC.1 hC.2.1 dL_law_1027 (lv_at hl 5 rfl) ?_
  refine x_const hC dL_law_1029 ?_
  refine x_iadd hC dL_law_1030 ?_
  refine x_sld hC hw hX hbl hbA (by omega) (by omega) (by omega) dL_law_1031 ?_
  rw [← hz_2]
  rw [xU_comm hdB] at hw
  obtain ⟨va, oa, wa, ya, wk, br, re, la, ha, qv, qw, fa, fb, fy, wt, hR, hK⟩ := hm
  replace hR : MGx G B a va oa wa ya wk th0 rfd br re la ha kp kv qv qw fa fb V O fy Wv wt S := hR
  replace hK : abM O wt br re la ha K := hK
  refine x_callV hC hw (lv_size hl) ((c_X5_copy l G hR hK (p0 := z_1) (by omega) (p1 := z_2) (by omega)).frame hdB.symm) gL_law_X5_copy rfl dv_X5_copy (xU_l hR.1.1) rfl rfl (Nat.le_of_ble_eq_true rfl) (by rw [hRf]; decide) (by rw [hRl]; decide) (by first | (rw [hRc]; decide) | omega) (by first | (rw [hRs]; decide) | omega) dL_law_1032 (fun r9 M1 H locs hq hw => ?_)
  obtain ⟨Bk_4, ⟨zk_4, thk_4, hrk_4, hzk_4, hv9⟩, hMk_4, hdB9⟩ := hq
  subst hrk_4
  subst hMk_4
  have hdB := hdB9.symm
  rw [xU_comm hdB9] at hw
  obtain ⟨s1, hG, hm, hkt, hthr, hans⟩ : ∃ s1 : ST, RG G Ak_3 h0 (N + 1) s1 ∧ MGm G Bk_4 a S thk_4 s1 ∧ zk_3 = thk_4 ∧ (0 ≤ thk_4 ∧ thk_4 ≤ 3) ∧ (zk_3 = 0 → dk_3 = (iN zk_4).toInt64) := by
    rcases hw9 with ⟨h1, h2, ⟨z8, h3, h4, h5⟩, h6⟩ | ⟨h1, h2, h6⟩
    · rcases hv9 with ⟨g1, g2, g4, g5⟩ | ⟨g1, g2, g5⟩
      · exact ⟨_, h6, g5, by omega, by omega, fun _ => (show dk_3 = (iN zk_4).toInt64 by rw [h3, h5, g4])⟩
      · exfalso; omega
    · rcases hv9 with ⟨g1, g2, g4, g5⟩ | ⟨g1, g2, g5⟩
      · exfalso; omega
      · exact ⟨_, h6, g5, by omega, by omega, fun q9 => absurd q9 h1⟩
  clear hw9 hv9
  show W p l e R s m args below meth c H locs _ _ _ (F0 m 1035 ls [.int (iN (zk_4))])
  refine lv_istore (lv' := [(6, .int (iN (zk_4))), (5, .int (iN (zk_3))), (0, .ref b), (1, .ref h0), (2, .ref a), (3, .ref o), (4, .int (iN (i)))]) hC.1 hC.2.1 dL_law_1035 hl (by decide) rfl (fun ls hl => ?_)
  refine lv_aload_n hC.1 hC.2.1 dL_law_1037 rfl (lv_at hl 4 rfl) ?_
  rw [xU_comm hdB] at hw
  obtain ⟨va, oa, wa, ya, wk, br, re, la, ha, qv, qw, fa, fb, fy, wt, hR, hK⟩ := id hm
  refine x_callV hC hw (lv_size hl) ((c_X5_thrown l G hR).frame hdB.symm) gL_law_X5_thrown rfl dv_X5_thrown (xU_l hR.1.1) rfl rfl (Nat.le_of_ble_eq_true rfl) (by rw [hRf]; decide) (by rw [hRl]; decide) (by first | (rw [hRc]; decide) | omega) (by first | (rw [hRs]; decide) | omega) dL_law_1038 (fun r9 M1 H locs hq hw => ?_)
  obtain ⟨Bk_5, ⟨hrk_5, hEk_5⟩, hMk_5, hdB9⟩ := hq
  subst hrk_5
  replace hEk_5 := hEk_5.symm
  subst hEk_5
  subst hMk_5
  have hdB := hdB9.symm
  rw [xU_comm hdB9] at hw
  show W p l e R s m args below meth c H locs _ _ _ (F0 m 1041 ls [.int (iN (thk_4))])
  refine lv_iload hC.1 hC.2.1 dL_law_1041 (lv_at hl 1 rfl) ?_
  refine x_icmp_eq (tgt := 1048) hC ⟨by omega, by omega⟩ ⟨by omega, by omega⟩ dL_law_1043 (by decide) (fun c_6 => ?_) (fun c_6 => absurd (show thk_4 = zk_3 by omega) c_6)
  refine lv_iload hC.1 hC.2.1 dL_law_1048 (lv_at hl 1 rfl) ?_
  refine x_if_ne (tgt := 1066) hC ⟨by omega, by omega⟩ dL_law_1050 (by decide) (fun c_7 => ?_) (fun c_7 => ?_)
  · refine lv_goto (tgt := 2584) hC.1 hC.2.1 dL_law_1066 (by decide) ?_
    refine W.widen (k := cu + 3) (n := su + (18)) (by omega) (by omega) ?_
    exact kk _ _ _ _ _ S hw ⟨_, _, _, _, _, rfl, hG, hm, hdA, hdB⟩ (lv_sub hl [2, 3, 4, 5, 6] rfl) (Nat.le_refl _)
  · refine lv_aload_n hC.1 hC.2.1 dL_law_1053 rfl (lv_at hl 5 rfl) ?_
    refine x_getOn hC hw (by decide +kernel) (xU_l (xU_b hdA xO_s)) dL_law_1054 ?_
    refine lv_iload hC.1 hC.2.1 dL_law_1057 (lv_at hl 0 rfl) ?_
    refine lv_i2l hC.1 hC.2.1 dL_law_1059 rfl ?_
    refine lv_topl (fun d_8 hd_8 => ?_)
    refine x_lcmpE hC ((hans (by omega)).trans (by exact hd_8.symm)) dL_law_1060 ?_
    refine x_if_eq (tgt := 1066) hC ⟨by omega, by omega⟩ dL_law_1061 (by decide) (fun c_9 => ?_) (fun c_9 => absurd rfl c_9)
    refine lv_goto (tgt := 2584) hC.1 hC.2.1 dL_law_1066 (by decide) ?_
    refine W.widen (k := cu + 3) (n := su + (18)) (by omega) (by omega) ?_
    exact kk _ _ _ _ _ S hw ⟨_, _, _, _, _, rfl, hG, hm, hdA, hdB⟩ (lv_sub hl [2, 3, 4, 5, 6] rfl) (Nat.le_refl _)
set_option maxHeartbeats 8000000 in
set_option maxRecDepth 100000 in
theorem k_17 {p : Program} {l : Launch} {e : Env} {R : Room} {s : State} {m : MethodId} {args : Array Value} {below : List Frame} {meth : Method} {c : Code} {Q : State → Prop} {G : xG} {b L : Nat} {xs : Nat → Int32} {nm : String} (hst : l.stackTraces = false) (hRf : R.frames = 2048) {C9 S9 : Nat} (hRc : R.cells = C9) (hRs : R.slots = S9) (hC9 : 513000 ≤ C9) (hS9 : 6932000 ≤ S9) (hRl : R.locals = 84000) (hC : xB p s m args meth c cL_law 7 "RangeledgerLaw" nm wsL_law (some .boolean) G (xA (fun _ => none) s.heap.size)) (hX : va_X b L xs s s.heap) (hbl : b < s.heap.size) (hL : L ≤ 3072) {h0 a o : Nat} {N : Int} (hN : N ≤ 590) {s9 : ST} {S : Nat → Bool} {M : HM} {H : Heap} {locs : List Loc} {ls : Array Slot} {i : Int} {cu su : Nat} (hw : xD G (xA (fun _ => none) s.heap.size) s M H locs) (hS : LwS G M h0 a o N s9 S) (hl : lv_has ls 7 [(0, .ref b), (1, .ref h0), (2, .ref a), (3, .ref o), (4, .int (iN (i)))]) (hi : 0 ≤ i ∧ i + 6 ≤ L) (hcu : cu + 1000 ≤ C9) (hsu : su + 15590 ≤ S9) (kk : ∀ (M1 : HM) (H1 : Heap) (locs1 : List Loc) (ls1 : Array Slot) (s1 : ST) (S1 : Nat → Bool), xD G (xA (fun _ => none) s.heap.size) s M1 H1 locs1 → LwS G M1 h0 a o (N + 1) s1 S1 → lv_has ls1 7 [(0, .ref b), (1, .ref h0), (2, .ref a), (3, .ref o), (4, .int (iN (i)))] → mC S1 100 ≤ mC S 100 + 0 → W p l e R s m args below meth c H1 locs1 (cu + 3) (su + (18)) Q (F0 m 2584 ls1 [])) : W p l e R s m args below meth c H locs cu su Q (F0 m 1069 ls []) := by
  obtain ⟨A, B, d, sv, th0, hM, hG, hm, hdA, hdB⟩ := hS
  subst hM
  obtain ⟨O, V, Wv, K, kp, kv, rfd⟩ := s9
  have hbA : ¬ (xA (fun _ => none) s.heap.size) b := fun h9 => h9.elim (fun h8 => h8 rfl) (fun h8 => by omega)
  refine lv_aload_n hC.1 hC.2.1 dL_law_1069 rfl (lv_at hl 1 rfl) ?_
  refine lv_aload_n hC.1 hC.2.1 dL_law_1070 rfl (lv_at hl 0 rfl) ?_
  refine lv_iload hC.1 hC.2.1 dL_law_1071 (lv_at hl 4 rfl) ?_
  refine x_const hC dL_law_1073 ?_
  refine x_iadd hC dL_law_1074 ?_
  refine x_sld hC hw hX hbl hbA (by omega) (by omega) (by omega) dL_law_1075 ?_
  obtain ⟨z_1, hz_1⟩ : ∃ z : Int, z = (xs (i + 1).toNat).toInt := ⟨_, rfl⟩
  rw [← hz_1]
  have hrz_1 : -2147483648 ≤ z_1 ∧ z_1 ≤ 2147483647 := by rw [hz_1]; exact iN_rng _
  refine lv_aload_n hC.1 hC.2.1 dL_law_1076 rfl (lv_at hl 0 rfl) ?_
  refine lv_iload hC.1 hC.2.1 dL_law_1077 (lv_at hl 4 rfl) ?_
  refine x_const hC dL_law_1079 ?_
  refine x_iadd hC dL_law_1080 ?_
  refine x_sld hC hw hX hbl hbA (by omega) (by omega) (by omega) dL_law_1081 ?_
  obtain ⟨z_2, hz_2⟩ : ∃ z : Int, z = (xs (i + 2).toNat).toInt := ⟨_, rfl⟩
  rw [← hz_2]
  have hrz_2 : -2147483648 ≤ z_2 ∧ z_2 ≤ 2147483647 := by rw [hz_2]; exact iN_rng _
  refine lv_aload_n hC.1 hC.2.1 dL_law_1082 rfl (lv_at hl 0 rfl) ?_
  refine lv_iload hC.1 hC.2.1 dL_law_1083 (lv_at hl 4 rfl) ?_
  refine x_const hC dL_law_1085 ?_
  refine x_iadd hC dL_law_1086 ?_
  refine x_sld hC hw hX hbl hbA (by omega) (by omega) (by omega) dL_law_1087 ?_
  obtain ⟨z_3, hz_3⟩ : ∃ z : Int, z = (xs (i + 3).toNat).toInt := ⟨_, rfl⟩
  rw [← hz_3]
  have hrz_3 : -2147483648 ≤ z_3 ∧ z_3 ≤ 2147483647 := by rw [hz_3]; exact iN_rng _
  refine x_if_eq (tgt := 1095) hC ⟨by omega, by omega⟩ dL_law_1088 (by decide) (fun c_4 => ?_) (fun c_4 => ?_)
  · refine x_const hC dL_law_1095 ?_
    refine lv_aload_n hC.1 hC.2.1 dL_law_1096 rfl (lv_at hl 3 rfl) ?_
    refine x_callSW hC hw (lv_size hl) ((c_L_thin l G hst hG hN hdA (p0 := z_1) (by omega) (p1 := z_2) (by omega) (p2 := 0) (by omega) (by omega)).frame hdB) gL_law_L_thin rfl dv_L_thin_s rfl (Nat.le_of_ble_eq_true rfl) (by rw [hRf]; decide) (by rw [hRl]; decide) (by first | (rw [hRc]; decide) | omega) (by first | (rw [hRs]; decide) | omega) dL_law_1097 (fun r9 M1 H locs hq hw => ?_)
    obtain ⟨Ck_5, ⟨zk_5, hrk_5, Ak_5, dk_5, svk_5, hCk_5, hdA, hw9⟩, hMk_5, hdB⟩ := hq
    subst hrk_5
    subst hCk_5
    subst hMk_5
    have hzrk_5 : 0 ≤ zk_5 ∧ zk_5 ≤ 3 := by rcases hw9 with ⟨h1, _⟩ | ⟨h1, h2, _⟩; (· omega); (· omega)
    show W p l e R s m args below meth c H locs _ _ _ (F0 m 1100 ls [.int (iN (zk_5))])
    refine lv_istore (lv' := [(5, .int (iN (zk_5))), (0, .ref b), (1, .ref h0), (2, .ref a), (3, .ref o), (4, .int (iN (i)))]) hC.1 hC.2.1 dL_law_1100 hl (by decide) rfl (fun ls hl => ?_)
    refine lv_aload_n hC.1 hC.2.1 dL_law_1102 rfl (lv_at hl 3 rfl) ?_
    refine lv_aload_n hC.1 hC.2.1 dL_law_1103 rfl (lv_at hl 1 rfl) ?_
    refine lv_iload hC.1 hC.2.1 dL_law_1104 (lv_at hl 5 rfl) ?_
    refine x_const hC dL_law_1106 ?_
    refine x_iadd hC dL_law_1107 ?_
    refine x_sld hC hw hX hbl hbA (by omega) (by omega) (by omega) dL_law_1108 ?_
    rw [← hz_1]
    refine lv_aload_n hC.1 hC.2.1 dL_law_1109 rfl (lv_at hl 1 rfl) ?_
    refine lv_iload hC.1 hC.2.1 dL_law_1110 (lv_at hl 5 rfl) ?_
    refine x_const hC dL_law_1112 ?_
    refine x_iadd hC dL_law_1113 ?_
    refine x_sld hC hw hX hbl hbA (by omega) (by omega) (by omega) dL_law_1114 ?_
    rw [← hz_2]
    refine lv_aload_n hC.1 hC.2.1 dL_law_1115 rfl (lv_at hl 1 rfl) ?_
    refine lv_iload hC.1 hC.2.1 dL_law_1116 (lv_at hl 5 rfl) ?_
    refine x_const hC dL_law_1118 ?_
    refine x_iadd hC dL_law_1119 ?_
    refine x_sld hC hw hX hbl hbA (by omega) (by omega) (by omega) dL_law_1120 ?_
    rw [← hz_3]
    refine x_if_eq (tgt := 1128) hC ⟨by omega, by omega⟩ dL_law_1121 (by decide) (fun c_6 => ?_) (fun c_6 => ?_)
    · refine x_const hC dL_law_1128 ?_
      rw [xU_comm hdB] at hw
      obtain ⟨va, oa, wa, ya, wk, br, re, la, ha, qv, qw, fa, fb, fy, wt, hR, hK⟩ := hm
      replace hR : MGx G B a va oa wa ya wk th0 rfd br re la ha kp kv qv qw fa fb V O fy Wv wt S := hR
      replace hK : abM O wt br re la ha K := hK
      refine x_callV hC hw (lv_size hl) ((c_X5_thin l G hR hK (p0 := z_1) (by omega) (p1 := z_2) (by omega) (p2 := 0) (by omega) (by omega)).frame hdB.symm) gL_law_X5_thin rfl dv_X5_thin (xU_l hR.1.1) rfl rfl (Nat.le_of_ble_eq_true rfl) (by rw [hRf]; decide) (by rw [hRl]; decide) (by first | (rw [hRc]; decide) | omega) (by first | (rw [hRs]; decide) | omega) dL_law_1129 (fun r9 M1 H locs hq hw => ?_)
      obtain ⟨Bk_7, ⟨zk_7, thk_7, hrk_7, hzk_7, hv9⟩, hMk_7, hdB9⟩ := hq
      subst hrk_7
      subst hMk_7
      have hdB := hdB9.symm
      rw [xU_comm hdB9] at hw
      obtain ⟨s1, hG, hm, hkt, hthr, hans⟩ : ∃ s1 : ST, RG G Ak_5 h0 (N + 1) s1 ∧ MGm G Bk_7 a S thk_7 s1 ∧ zk_5 = thk_7 ∧ (0 ≤ thk_7 ∧ thk_7 ≤ 3) ∧ (zk_5 = 0 → dk_5 = (iN zk_7).toInt64) := by
        rcases hw9 with ⟨h1, h2, ⟨z8, h3, h4, h5⟩, h6⟩ | ⟨h1, h2, h6⟩
        · rcases hv9 with ⟨g1, g2, g4, g5⟩ | ⟨g1, g2, g5⟩
          · exact ⟨_, h6, g5, by omega, by omega, fun _ => (show dk_5 = (iN zk_7).toInt64 by rw [h3, h5, g4])⟩
          · exfalso; omega
        · rcases hv9 with ⟨g1, g2, g4, g5⟩ | ⟨g1, g2, g5⟩
          · exfalso; omega
          · exact ⟨_, h6, g5, by omega, by omega, fun q9 => absurd q9 h1⟩
      clear hw9 hv9
      show W p l e R s m args below meth c H locs _ _ _ (F0 m 1132 ls [.int (iN (zk_7))])
      refine lv_istore (lv' := [(6, .int (iN (zk_7))), (5, .int (iN (zk_5))), (0, .ref b), (1, .ref h0), (2, .ref a), (3, .ref o), (4, .int (iN (i)))]) hC.1 hC.2.1 dL_law_1132 hl (by decide) rfl (fun ls hl => ?_)
      refine lv_goto (tgt := 2584) hC.1 hC.2.1 dL_law_1134 (by decide) ?_
      refine W.widen (k := cu + 3) (n := su + (18)) (by omega) (by omega) ?_
      exact kk _ _ _ _ _ S hw ⟨_, _, _, _, _, rfl, hG, hm, hdA, hdB⟩ (lv_sub hl [2, 3, 4, 5, 6] rfl) (Nat.le_refl _)
    · exact absurd c_4 c_6
  · refine x_const hC dL_law_1091 ?_
    refine lv_goto (tgt := 1096) hC.1 hC.2.1 dL_law_1092 (by decide) ?_
    refine lv_aload_n hC.1 hC.2.1 dL_law_1096 rfl (lv_at hl 3 rfl) ?_
    refine x_callSW hC hw (lv_size hl) ((c_L_thin l G hst hG hN hdA (p0 := z_1) (by omega) (p1 := z_2) (by omega) (p2 := 1) (by omega) (by omega)).frame hdB) gL_law_L_thin rfl dv_L_thin_s rfl (Nat.le_of_ble_eq_true rfl) (by rw [hRf]; decide) (by rw [hRl]; decide) (by first | (rw [hRc]; decide) | omega) (by first | (rw [hRs]; decide) | omega) dL_law_1097 (fun r9 M1 H locs hq hw => ?_)
    obtain ⟨Ck_8, ⟨zk_8, hrk_8, Ak_8, dk_8, svk_8, hCk_8, hdA, hw9⟩, hMk_8, hdB⟩ := hq
    subst hrk_8
    subst hCk_8
    subst hMk_8
    have hzrk_8 : 0 ≤ zk_8 ∧ zk_8 ≤ 3 := by rcases hw9 with ⟨h1, _⟩ | ⟨h1, h2, _⟩; (· omega); (· omega)
    show W p l e R s m args below meth c H locs _ _ _ (F0 m 1100 ls [.int (iN (zk_8))])
    refine lv_istore (lv' := [(5, .int (iN (zk_8))), (0, .ref b), (1, .ref h0), (2, .ref a), (3, .ref o), (4, .int (iN (i)))]) hC.1 hC.2.1 dL_law_1100 hl (by decide) rfl (fun ls hl => ?_)
    refine lv_aload_n hC.1 hC.2.1 dL_law_1102 rfl (lv_at hl 3 rfl) ?_
    refine lv_aload_n hC.1 hC.2.1 dL_law_1103 rfl (lv_at hl 1 rfl) ?_
    refine lv_iload hC.1 hC.2.1 dL_law_1104 (lv_at hl 5 rfl) ?_
    refine x_const hC dL_law_1106 ?_
    refine x_iadd hC dL_law_1107 ?_
    refine x_sld hC hw hX hbl hbA (by omega) (by omega) (by omega) dL_law_1108 ?_
    rw [← hz_1]
    refine lv_aload_n hC.1 hC.2.1 dL_law_1109 rfl (lv_at hl 1 rfl) ?_
    refine lv_iload hC.1 hC.2.1 dL_law_1110 (lv_at hl 5 rfl) ?_
    refine x_const hC dL_law_1112 ?_
    refine x_iadd hC dL_law_1113 ?_
    refine x_sld hC hw hX hbl hbA (by omega) (by omega) (by omega) dL_law_1114 ?_
    rw [← hz_2]
    refine lv_aload_n hC.1 hC.2.1 dL_law_1115 rfl (lv_at hl 1 rfl) ?_
    refine lv_iload hC.1 hC.2.1 dL_law_1116 (lv_at hl 5 rfl) ?_
    refine x_const hC dL_law_1118 ?_
    refine x_iadd hC dL_law_1119 ?_
    refine x_sld hC hw hX hbl hbA (by omega) (by omega) (by omega) dL_law_1120 ?_
    rw [← hz_3]
    refine x_if_eq (tgt := 1128) hC ⟨by omega, by omega⟩ dL_law_1121 (by decide) (fun c_9 => ?_) (fun c_9 => ?_)
    · exact absurd c_9 c_4
    · refine x_const hC dL_law_1124 ?_
      refine lv_goto (tgt := 1129) hC.1 hC.2.1 dL_law_1125 (by decide) ?_
      rw [xU_comm hdB] at hw
      obtain ⟨va, oa, wa, ya, wk, br, re, la, ha, qv, qw, fa, fb, fy, wt, hR, hK⟩ := hm
      replace hR : MGx G B a va oa wa ya wk th0 rfd br re la ha kp kv qv qw fa fb V O fy Wv wt S := hR
      replace hK : abM O wt br re la ha K := hK
      refine x_callV hC hw (lv_size hl) ((c_X5_thin l G hR hK (p0 := z_1) (by omega) (p1 := z_2) (by omega) (p2 := 1) (by omega) (by omega)).frame hdB.symm) gL_law_X5_thin rfl dv_X5_thin (xU_l hR.1.1) rfl rfl (Nat.le_of_ble_eq_true rfl) (by rw [hRf]; decide) (by rw [hRl]; decide) (by first | (rw [hRc]; decide) | omega) (by first | (rw [hRs]; decide) | omega) dL_law_1129 (fun r9 M1 H locs hq hw => ?_)
      obtain ⟨Bk_10, ⟨zk_10, thk_10, hrk_10, hzk_10, hv9⟩, hMk_10, hdB9⟩ := hq
      subst hrk_10
      subst hMk_10
      have hdB := hdB9.symm
      rw [xU_comm hdB9] at hw
      obtain ⟨s1, hG, hm, hkt, hthr, hans⟩ : ∃ s1 : ST, RG G Ak_8 h0 (N + 1) s1 ∧ MGm G Bk_10 a S thk_10 s1 ∧ zk_8 = thk_10 ∧ (0 ≤ thk_10 ∧ thk_10 ≤ 3) ∧ (zk_8 = 0 → dk_8 = (iN zk_10).toInt64) := by
        rcases hw9 with ⟨h1, h2, ⟨z8, h3, h4, h5⟩, h6⟩ | ⟨h1, h2, h6⟩
        · rcases hv9 with ⟨g1, g2, g4, g5⟩ | ⟨g1, g2, g5⟩
          · exact ⟨_, h6, g5, by omega, by omega, fun _ => (show dk_8 = (iN zk_10).toInt64 by rw [h3, h5, g4])⟩
          · exfalso; omega
        · rcases hv9 with ⟨g1, g2, g4, g5⟩ | ⟨g1, g2, g5⟩
          · exfalso; omega
          · exact ⟨_, h6, g5, by omega, by omega, fun q9 => absurd q9 h1⟩
      clear hw9 hv9
      show W p l e R s m args below meth c H locs _ _ _ (F0 m 1132 ls [.int (iN (zk_10))])
      refine lv_istore (lv' := [(6, .int (iN (zk_10))), (5, .int (iN (zk_8))), (0, .ref b), (1, .ref h0), (2, .ref a), (3, .ref o), (4, .int (iN (i)))]) hC.1 hC.2.1 dL_law_1132 hl (by decide) rfl (fun ls hl => ?_)
      refine lv_goto (tgt := 2584) hC.1 hC.2.1 dL_law_1134 (by decide) ?_
      refine W.widen (k := cu + 3) (n := su + (18)) (by omega) (by omega) ?_
      exact kk _ _ _ _ _ S hw ⟨_, _, _, _, _, rfl, hG, hm, hdA, hdB⟩ (lv_sub hl [2, 3, 4, 5, 6] rfl) (Nat.le_refl _)
set_option maxHeartbeats 8000000 in
set_option maxRecDepth 100000 in
theorem k_18 {p : Program} {l : Launch} {e : Env} {R : Room} {s : State} {m : MethodId} {args : Array Value} {below : List Frame} {meth : Method} {c : Code} {Q : State → Prop} {G : xG} {b L : Nat} {xs : Nat → Int32} {nm : String} (hst : l.stackTraces = false) (hRf : R.frames = 2048) {C9 S9 : Nat} (hRc : R.cells = C9) (hRs : R.slots = S9) (hC9 : 513000 ≤ C9) (hS9 : 6932000 ≤ S9) (hRl : R.locals = 84000) (hC : xB p s m args meth c cL_law 7 "RangeledgerLaw" nm wsL_law (some .boolean) G (xA (fun _ => none) s.heap.size)) (hX : va_X b L xs s s.heap) (hbl : b < s.heap.size) (hL : L ≤ 3072) {h0 a o : Nat} {N : Int} (hN : N ≤ 590) {s9 : ST} {S : Nat → Bool} {M : HM} {H : Heap} {locs : List Loc} {ls : Array Slot} {i : Int} {cu su : Nat} (hw : xD G (xA (fun _ => none) s.heap.size) s M H locs) (hS : LwS G M h0 a o N s9 S) (hl : lv_has ls 7 [(0, .ref b), (1, .ref h0), (2, .ref a), (3, .ref o), (4, .int (iN (i)))]) (hi : 0 ≤ i ∧ i + 6 ≤ L) (hcu : cu + 1000 ≤ C9) (hsu : su + 15590 ≤ S9) (kk : ∀ (M1 : HM) (H1 : Heap) (locs1 : List Loc) (ls1 : Array Slot) (s1 : ST) (S1 : Nat → Bool), xD G (xA (fun _ => none) s.heap.size) s M1 H1 locs1 → LwS G M1 h0 a o (N + 1) s1 S1 → lv_has ls1 7 [(0, .ref b), (1, .ref h0), (2, .ref a), (3, .ref o), (4, .int (iN (i)))] → mC S1 100 ≤ mC S 100 + 0 → W p l e R s m args below meth c H1 locs1 (cu + 5) (su + (30)) Q (F0 m 2584 ls1 [])) : W p l e R s m args below meth c H locs cu su Q (F0 m 1137 ls []) := by
  obtain ⟨A, B, d, sv, th0, hM, hG, hm, hdA, hdB⟩ := hS
  subst hM
  obtain ⟨O, V, Wv, K, kp, kv, rfd⟩ := s9
  have hbA : ¬ (xA (fun _ => none) s.heap.size) b := fun h9 => h9.elim (fun h8 => h8 rfl) (fun h8 => by omega)
  refine lv_aload_n hC.1 hC.2.1 dL_law_1137 rfl (lv_at hl 1 rfl) ?_
  refine lv_aload_n hC.1 hC.2.1 dL_law_1138 rfl (lv_at hl 0 rfl) ?_
  refine lv_iload hC.1 hC.2.1 dL_law_1139 (lv_at hl 4 rfl) ?_
  refine x_const hC dL_law_1141 ?_
  refine x_iadd hC dL_law_1142 ?_
  refine x_sld hC hw hX hbl hbA (by omega) (by omega) (by omega) dL_law_1143 ?_
  obtain ⟨z_1, hz_1⟩ : ∃ z : Int, z = (xs (i + 1).toNat).toInt := ⟨_, rfl⟩
  rw [← hz_1]
  have hrz_1 : -2147483648 ≤ z_1 ∧ z_1 ≤ 2147483647 := by rw [hz_1]; exact iN_rng _
  refine lv_aload_n hC.1 hC.2.1 dL_law_1144 rfl (lv_at hl 0 rfl) ?_
  refine lv_iload hC.1 hC.2.1 dL_law_1145 (lv_at hl 4 rfl) ?_
  refine x_const hC dL_law_1147 ?_
  refine x_iadd hC dL_law_1148 ?_
  refine x_sld hC hw hX hbl hbA (by omega) (by omega) (by omega) dL_law_1149 ?_
  obtain ⟨z_2, hz_2⟩ : ∃ z : Int, z = (xs (i + 2).toNat).toInt := ⟨_, rfl⟩
  rw [← hz_2]
  have hrz_2 : -2147483648 ≤ z_2 ∧ z_2 ≤ 2147483647 := by rw [hz_2]; exact iN_rng _
  refine lv_aload_n hC.1 hC.2.1 dL_law_1150 rfl (lv_at hl 0 rfl) ?_
  refine lv_iload hC.1 hC.2.1 dL_law_1151 (lv_at hl 4 rfl) ?_
  refine x_const hC dL_law_1153 ?_
  refine x_iadd hC dL_law_1154 ?_
  refine x_sld hC hw hX hbl hbA (by omega) (by omega) (by omega) dL_law_1155 ?_
  obtain ⟨z_3, hz_3⟩ : ∃ z : Int, z = (xs (i + 3).toNat).toInt := ⟨_, rfl⟩
  rw [← hz_3]
  have hrz_3 : -2147483648 ≤ z_3 ∧ z_3 ≤ 2147483647 := by rw [hz_3]; exact iN_rng _
  refine x_if_eq (tgt := 1163) hC ⟨by omega, by omega⟩ dL_law_1156 (by decide) (fun c_4 => ?_) (fun c_4 => ?_)
  · refine x_const hC dL_law_1163 ?_
    refine lv_aload_n hC.1 hC.2.1 dL_law_1164 rfl (lv_at hl 3 rfl) ?_
    refine x_callSW hC hw (lv_size hl) ((c_L_head l G hst hG hN hdA (p0 := z_1) (by omega) (p1 := z_2) (by omega) (p2 := 0) (by omega) (by omega)).frame hdB) gL_law_L_head rfl dv_L_head_s rfl (Nat.le_of_ble_eq_true rfl) (by rw [hRf]; decide) (by rw [hRl]; decide) (by first | (rw [hRc]; decide) | omega) (by first | (rw [hRs]; decide) | omega) dL_law_1165 (fun r9 M1 H locs hq hw => ?_)
    obtain ⟨Ck_5, ⟨zk_5, hrk_5, Ak_5, dk_5, svk_5, hCk_5, hdA, hw9⟩, hMk_5, hdB⟩ := hq
    subst hrk_5
    subst hCk_5
    subst hMk_5
    have hzrk_5 : 0 ≤ zk_5 ∧ zk_5 ≤ 3 := by rcases hw9 with ⟨h1, _⟩ | ⟨h1, h2, _⟩; (· omega); (· omega)
    show W p l e R s m args below meth c H locs _ _ _ (F0 m 1168 ls [.int (iN (zk_5))])
    refine lv_istore (lv' := [(5, .int (iN (zk_5))), (0, .ref b), (1, .ref h0), (2, .ref a), (3, .ref o), (4, .int (iN (i)))]) hC.1 hC.2.1 dL_law_1168 hl (by decide) rfl (fun ls hl => ?_)
    refine lv_aload_n hC.1 hC.2.1 dL_law_1170 rfl (lv_at hl 3 rfl) ?_
    refine lv_aload_n hC.1 hC.2.1 dL_law_1171 rfl (lv_at hl 1 rfl) ?_
    refine lv_iload hC.1 hC.2.1 dL_law_1172 (lv_at hl 5 rfl) ?_
    refine x_const hC dL_law_1174 ?_
    refine x_iadd hC dL_law_1175 ?_
    refine x_sld hC hw hX hbl hbA (by omega) (by omega) (by omega) dL_law_1176 ?_
    rw [← hz_1]
    refine lv_aload_n hC.1 hC.2.1 dL_law_1177 rfl (lv_at hl 1 rfl) ?_
    refine lv_iload hC.1 hC.2.1 dL_law_1178 (lv_at hl 5 rfl) ?_
    refine x_const hC dL_law_1180 ?_
    refine x_iadd hC dL_law_1181 ?_
    refine x_sld hC hw hX hbl hbA (by omega) (by omega) (by omega) dL_law_1182 ?_
    rw [← hz_2]
    refine lv_aload_n hC.1 hC.2.1 dL_law_1183 rfl (lv_at hl 1 rfl) ?_
    refine lv_iload hC.1 hC.2.1 dL_law_1184 (lv_at hl 5 rfl) ?_
    refine x_const hC dL_law_1186 ?_
    refine x_iadd hC dL_law_1187 ?_
    refine x_sld hC hw hX hbl hbA (by omega) (by omega) (by omega) dL_law_1188 ?_
    rw [← hz_3]
    refine x_if_eq (tgt := 1196) hC ⟨by omega, by omega⟩ dL_law_1189 (by decide) (fun c_6 => ?_) (fun c_6 => ?_)
    · refine x_const hC dL_law_1196 ?_
      rw [xU_comm hdB] at hw
      obtain ⟨va, oa, wa, ya, wk, br, re, la, ha, qv, qw, fa, fb, fy, wt, hR, hK⟩ := hm
      replace hR : MGx G B a va oa wa ya wk th0 rfd br re la ha kp kv qv qw fa fb V O fy Wv wt S := hR
      replace hK : abM O wt br re la ha K := hK
      refine x_callV hC hw (lv_size hl) ((c_X5_head l G hR hK (p0 := z_1) (by omega) (p1 := z_2) (by omega) (p2 := 0) (by omega) (by omega)).frame hdB.symm) gL_law_X5_head rfl dv_X5_head (xU_l hR.1.1) rfl rfl (Nat.le_of_ble_eq_true rfl) (by rw [hRf]; decide) (by rw [hRl]; decide) (by first | (rw [hRc]; decide) | omega) (by first | (rw [hRs]; decide) | omega) dL_law_1197 (fun r9 M1 H locs hq hw => ?_)
      obtain ⟨Bk_7, ⟨zk_7, thk_7, hrk_7, hzk_7, hv9⟩, hMk_7, hdB9⟩ := hq
      subst hrk_7
      subst hMk_7
      have hdB := hdB9.symm
      rw [xU_comm hdB9] at hw
      obtain ⟨s1, hG, hm, hkt, hthr, hans⟩ : ∃ s1 : ST, RG G Ak_5 h0 (N + 1) s1 ∧ MGm G Bk_7 a S thk_7 s1 ∧ zk_5 = thk_7 ∧ (0 ≤ thk_7 ∧ thk_7 ≤ 3) ∧ (zk_5 = 0 → dk_5 = (iN zk_7).toInt64) := by
        rcases hw9 with ⟨h1, h2, ⟨z8, h3, h4, h5⟩, h6⟩ | ⟨h1, h2, h6⟩
        · rcases hv9 with ⟨g1, g2, g4, g5⟩ | ⟨g1, g2, g5⟩
          · exact ⟨_, h6, g5, by omega, by omega, fun _ => (show dk_5 = (iN zk_7).toInt64 by rw [h3, h5, g4])⟩
          · exfalso; omega
        · rcases hv9 with ⟨g1, g2, g4, g5⟩ | ⟨g1, g2, g5⟩
          · exfalso; omega
          · exact ⟨_, h6, g5, by omega, by omega, fun q9 => absurd q9 h1⟩
      clear hw9 hv9
      show W p l e R s m args below meth c H locs _ _ _ (F0 m 1200 ls [.int (iN (zk_7))])
      refine lv_istore (lv' := [(6, .int (iN (zk_7))), (5, .int (iN (zk_5))), (0, .ref b), (1, .ref h0), (2, .ref a), (3, .ref o), (4, .int (iN (i)))]) hC.1 hC.2.1 dL_law_1200 hl (by decide) rfl (fun ls hl => ?_)
      refine lv_goto (tgt := 2584) hC.1 hC.2.1 dL_law_1202 (by decide) ?_
      refine W.widen (k := cu + 5) (n := su + (30)) (by omega) (by omega) ?_
      exact kk _ _ _ _ _ S hw ⟨_, _, _, _, _, rfl, hG, hm, hdA, hdB⟩ (lv_sub hl [2, 3, 4, 5, 6] rfl) (Nat.le_refl _)
    · exact absurd c_4 c_6
  · refine x_const hC dL_law_1159 ?_
    refine lv_goto (tgt := 1164) hC.1 hC.2.1 dL_law_1160 (by decide) ?_
    refine lv_aload_n hC.1 hC.2.1 dL_law_1164 rfl (lv_at hl 3 rfl) ?_
    refine x_callSW hC hw (lv_size hl) ((c_L_head l G hst hG hN hdA (p0 := z_1) (by omega) (p1 := z_2) (by omega) (p2 := 1) (by omega) (by omega)).frame hdB) gL_law_L_head rfl dv_L_head_s rfl (Nat.le_of_ble_eq_true rfl) (by rw [hRf]; decide) (by rw [hRl]; decide) (by first | (rw [hRc]; decide) | omega) (by first | (rw [hRs]; decide) | omega) dL_law_1165 (fun r9 M1 H locs hq hw => ?_)
    obtain ⟨Ck_8, ⟨zk_8, hrk_8, Ak_8, dk_8, svk_8, hCk_8, hdA, hw9⟩, hMk_8, hdB⟩ := hq
    subst hrk_8
    subst hCk_8
    subst hMk_8
    have hzrk_8 : 0 ≤ zk_8 ∧ zk_8 ≤ 3 := by rcases hw9 with ⟨h1, _⟩ | ⟨h1, h2, _⟩; (· omega); (· omega)
    show W p l e R s m args below meth c H locs _ _ _ (F0 m 1168 ls [.int (iN (zk_8))])
    refine lv_istore (lv' := [(5, .int (iN (zk_8))), (0, .ref b), (1, .ref h0), (2, .ref a), (3, .ref o), (4, .int (iN (i)))]) hC.1 hC.2.1 dL_law_1168 hl (by decide) rfl (fun ls hl => ?_)
    refine lv_aload_n hC.1 hC.2.1 dL_law_1170 rfl (lv_at hl 3 rfl) ?_
    refine lv_aload_n hC.1 hC.2.1 dL_law_1171 rfl (lv_at hl 1 rfl) ?_
    refine lv_iload hC.1 hC.2.1 dL_law_1172 (lv_at hl 5 rfl) ?_
    refine x_const hC dL_law_1174 ?_
    refine x_iadd hC dL_law_1175 ?_
    refine x_sld hC hw hX hbl hbA (by omega) (by omega) (by omega) dL_law_1176 ?_
    rw [← hz_1]
    refine lv_aload_n hC.1 hC.2.1 dL_law_1177 rfl (lv_at hl 1 rfl) ?_
    refine lv_iload hC.1 hC.2.1 dL_law_1178 (lv_at hl 5 rfl) ?_
    refine x_const hC dL_law_1180 ?_
    refine x_iadd hC dL_law_1181 ?_
    refine x_sld hC hw hX hbl hbA (by omega) (by omega) (by omega) dL_law_1182 ?_
    rw [← hz_2]
    refine lv_aload_n hC.1 hC.2.1 dL_law_1183 rfl (lv_at hl 1 rfl) ?_
    refine lv_iload hC.1 hC.2.1 dL_law_1184 (lv_at hl 5 rfl) ?_
    refine x_const hC dL_law_1186 ?_
    refine x_iadd hC dL_law_1187 ?_
    refine x_sld hC hw hX hbl hbA (by omega) (by omega) (by omega) dL_law_1188 ?_
    rw [← hz_3]
    refine x_if_eq (tgt := 1196) hC ⟨by omega, by omega⟩ dL_law_1189 (by decide) (fun c_9 => ?_) (fun c_9 => ?_)
    · exact absurd c_9 c_4
    · refine x_const hC dL_law_1192 ?_
      refine lv_goto (tgt := 1197) hC.1 hC.2.1 dL_law_1193 (by decide) ?_
      rw [xU_comm hdB] at hw
      obtain ⟨va, oa, wa, ya, wk, br, re, la, ha, qv, qw, fa, fb, fy, wt, hR, hK⟩ := hm
      replace hR : MGx G B a va oa wa ya wk th0 rfd br re la ha kp kv qv qw fa fb V O fy Wv wt S := hR
      replace hK : abM O wt br re la ha K := hK
      refine x_callV hC hw (lv_size hl) ((c_X5_head l G hR hK (p0 := z_1) (by omega) (p1 := z_2) (by omega) (p2 := 1) (by omega) (by omega)).frame hdB.symm) gL_law_X5_head rfl dv_X5_head (xU_l hR.1.1) rfl rfl (Nat.le_of_ble_eq_true rfl) (by rw [hRf]; decide) (by rw [hRl]; decide) (by first | (rw [hRc]; decide) | omega) (by first | (rw [hRs]; decide) | omega) dL_law_1197 (fun r9 M1 H locs hq hw => ?_)
      obtain ⟨Bk_10, ⟨zk_10, thk_10, hrk_10, hzk_10, hv9⟩, hMk_10, hdB9⟩ := hq
      subst hrk_10
      subst hMk_10
      have hdB := hdB9.symm
      rw [xU_comm hdB9] at hw
      obtain ⟨s1, hG, hm, hkt, hthr, hans⟩ : ∃ s1 : ST, RG G Ak_8 h0 (N + 1) s1 ∧ MGm G Bk_10 a S thk_10 s1 ∧ zk_8 = thk_10 ∧ (0 ≤ thk_10 ∧ thk_10 ≤ 3) ∧ (zk_8 = 0 → dk_8 = (iN zk_10).toInt64) := by
        rcases hw9 with ⟨h1, h2, ⟨z8, h3, h4, h5⟩, h6⟩ | ⟨h1, h2, h6⟩
        · rcases hv9 with ⟨g1, g2, g4, g5⟩ | ⟨g1, g2, g5⟩
          · exact ⟨_, h6, g5, by omega, by omega, fun _ => (show dk_8 = (iN zk_10).toInt64 by rw [h3, h5, g4])⟩
          · exfalso; omega
        · rcases hv9 with ⟨g1, g2, g4, g5⟩ | ⟨g1, g2, g5⟩
          · exfalso; omega
          · exact ⟨_, h6, g5, by omega, by omega, fun q9 => absurd q9 h1⟩
      clear hw9 hv9
      show W p l e R s m args below meth c H locs _ _ _ (F0 m 1200 ls [.int (iN (zk_10))])
      refine lv_istore (lv' := [(6, .int (iN (zk_10))), (5, .int (iN (zk_8))), (0, .ref b), (1, .ref h0), (2, .ref a), (3, .ref o), (4, .int (iN (i)))]) hC.1 hC.2.1 dL_law_1200 hl (by decide) rfl (fun ls hl => ?_)
      refine lv_goto (tgt := 2584) hC.1 hC.2.1 dL_law_1202 (by decide) ?_
      refine W.widen (k := cu + 5) (n := su + (30)) (by omega) (by omega) ?_
      exact kk _ _ _ _ _ S hw ⟨_, _, _, _, _, rfl, hG, hm, hdA, hdB⟩ (lv_sub hl [2, 3, 4, 5, 6] rfl) (Nat.le_refl _)
set_option maxHeartbeats 8000000 in
set_option maxRecDepth 100000 in
theorem k_19 {p : Program} {l : Launch} {e : Env} {R : Room} {s : State} {m : MethodId} {args : Array Value} {below : List Frame} {meth : Method} {c : Code} {Q : State → Prop} {G : xG} {b L : Nat} {xs : Nat → Int32} {nm : String} (hst : l.stackTraces = false) (hRf : R.frames = 2048) {C9 S9 : Nat} (hRc : R.cells = C9) (hRs : R.slots = S9) (hC9 : 513000 ≤ C9) (hS9 : 6932000 ≤ S9) (hRl : R.locals = 84000) (hC : xB p s m args meth c cL_law 7 "RangeledgerLaw" nm wsL_law (some .boolean) G (xA (fun _ => none) s.heap.size)) (hX : va_X b L xs s s.heap) (hbl : b < s.heap.size) (hL : L ≤ 3072) {h0 a o : Nat} {N : Int} (hN : N ≤ 590) {s9 : ST} {S : Nat → Bool} {M : HM} {H : Heap} {locs : List Loc} {ls : Array Slot} {i : Int} {cu su : Nat} (hw : xD G (xA (fun _ => none) s.heap.size) s M H locs) (hS : LwS G M h0 a o N s9 S) (hl : lv_has ls 7 [(0, .ref b), (1, .ref h0), (2, .ref a), (3, .ref o), (4, .int (iN (i)))]) (hi : 0 ≤ i ∧ i + 6 ≤ L) (hcu : cu + 1000 ≤ C9) (hsu : su + 15590 ≤ S9) (kk : ∀ (M1 : HM) (H1 : Heap) (locs1 : List Loc) (ls1 : Array Slot) (s1 : ST) (S1 : Nat → Bool), xD G (xA (fun _ => none) s.heap.size) s M1 H1 locs1 → LwS G M1 h0 a o (N + 1) s1 S1 → lv_has ls1 7 [(0, .ref b), (1, .ref h0), (2, .ref a), (3, .ref o), (4, .int (iN (i)))] → mC S1 100 ≤ mC S 100 + 0 → W p l e R s m args below meth c H1 locs1 (cu + 5) (su + (30)) Q (F0 m 2584 ls1 [])) : W p l e R s m args below meth c H locs cu su Q (F0 m 1205 ls []) := by
  obtain ⟨A, B, d, sv, th0, hM, hG, hm, hdA, hdB⟩ := hS
  subst hM
  obtain ⟨O, V, Wv, K, kp, kv, rfd⟩ := s9
  have hbA : ¬ (xA (fun _ => none) s.heap.size) b := fun h9 => h9.elim (fun h8 => h8 rfl) (fun h8 => by omega)
  refine lv_aload_n hC.1 hC.2.1 dL_law_1205 rfl (lv_at hl 1 rfl) ?_
  refine lv_aload_n hC.1 hC.2.1 dL_law_1206 rfl (lv_at hl 0 rfl) ?_
  refine lv_iload hC.1 hC.2.1 dL_law_1207 (lv_at hl 4 rfl) ?_
  refine x_const hC dL_law_1209 ?_
  refine x_iadd hC dL_law_1210 ?_
  refine x_sld hC hw hX hbl hbA (by omega) (by omega) (by omega) dL_law_1211 ?_
  obtain ⟨z_1, hz_1⟩ : ∃ z : Int, z = (xs (i + 1).toNat).toInt := ⟨_, rfl⟩
  rw [← hz_1]
  have hrz_1 : -2147483648 ≤ z_1 ∧ z_1 ≤ 2147483647 := by rw [hz_1]; exact iN_rng _
  refine lv_aload_n hC.1 hC.2.1 dL_law_1212 rfl (lv_at hl 0 rfl) ?_
  refine lv_iload hC.1 hC.2.1 dL_law_1213 (lv_at hl 4 rfl) ?_
  refine x_const hC dL_law_1215 ?_
  refine x_iadd hC dL_law_1216 ?_
  refine x_sld hC hw hX hbl hbA (by omega) (by omega) (by omega) dL_law_1217 ?_
  obtain ⟨z_2, hz_2⟩ : ∃ z : Int, z = (xs (i + 2).toNat).toInt := ⟨_, rfl⟩
  rw [← hz_2]
  have hrz_2 : -2147483648 ≤ z_2 ∧ z_2 ≤ 2147483647 := by rw [hz_2]; exact iN_rng _
  refine lv_aload_n hC.1 hC.2.1 dL_law_1218 rfl (lv_at hl 0 rfl) ?_
  refine lv_iload hC.1 hC.2.1 dL_law_1219 (lv_at hl 4 rfl) ?_
  refine x_const hC dL_law_1221 ?_
  refine x_iadd hC dL_law_1222 ?_
  refine x_sld hC hw hX hbl hbA (by omega) (by omega) (by omega) dL_law_1223 ?_
  obtain ⟨z_3, hz_3⟩ : ∃ z : Int, z = (xs (i + 3).toNat).toInt := ⟨_, rfl⟩
  rw [← hz_3]
  have hrz_3 : -2147483648 ≤ z_3 ∧ z_3 ≤ 2147483647 := by rw [hz_3]; exact iN_rng _
  refine x_if_eq (tgt := 1231) hC ⟨by omega, by omega⟩ dL_law_1224 (by decide) (fun c_4 => ?_) (fun c_4 => ?_)
  · refine x_const hC dL_law_1231 ?_
    refine lv_aload_n hC.1 hC.2.1 dL_law_1232 rfl (lv_at hl 3 rfl) ?_
    refine x_callSW hC hw (lv_size hl) ((c_L_tail l G hst hG hN hdA (p0 := z_1) (by omega) (p1 := z_2) (by omega) (p2 := 0) (by omega) (by omega)).frame hdB) gL_law_L_tail rfl dv_L_tail_s rfl (Nat.le_of_ble_eq_true rfl) (by rw [hRf]; decide) (by rw [hRl]; decide) (by first | (rw [hRc]; decide) | omega) (by first | (rw [hRs]; decide) | omega) dL_law_1233 (fun r9 M1 H locs hq hw => ?_)
    obtain ⟨Ck_5, ⟨zk_5, hrk_5, Ak_5, dk_5, svk_5, hCk_5, hdA, hw9⟩, hMk_5, hdB⟩ := hq
    subst hrk_5
    subst hCk_5
    subst hMk_5
    have hzrk_5 : 0 ≤ zk_5 ∧ zk_5 ≤ 3 := by rcases hw9 with ⟨h1, _⟩ | ⟨h1, h2, _⟩; (· omega); (· omega)
    show W p l e R s m args below meth c H locs _ _ _ (F0 m 1236 ls [.int (iN (zk_5))])
    refine lv_istore (lv' := [(5, .int (iN (zk_5))), (0, .ref b), (1, .ref h0), (2, .ref a), (3, .ref o), (4, .int (iN (i)))]) hC.1 hC.2.1 dL_law_1236 hl (by decide) rfl (fun ls hl => ?_)
    refine lv_aload_n hC.1 hC.2.1 dL_law_1238 rfl (lv_at hl 3 rfl) ?_
    refine lv_aload_n hC.1 hC.2.1 dL_law_1239 rfl (lv_at hl 1 rfl) ?_
    refine lv_iload hC.1 hC.2.1 dL_law_1240 (lv_at hl 5 rfl) ?_
    refine x_const hC dL_law_1242 ?_
    refine x_iadd hC dL_law_1243 ?_
    refine x_sld hC hw hX hbl hbA (by omega) (by omega) (by omega) dL_law_1244 ?_
    rw [← hz_1]
    refine lv_aload_n hC.1 hC.2.1 dL_law_1245 rfl (lv_at hl 1 rfl) ?_
    refine lv_iload hC.1 hC.2.1 dL_law_1246 (lv_at hl 5 rfl) ?_
    refine x_const hC dL_law_1248 ?_
    refine x_iadd hC dL_law_1249 ?_
    refine x_sld hC hw hX hbl hbA (by omega) (by omega) (by omega) dL_law_1250 ?_
    rw [← hz_2]
    refine lv_aload_n hC.1 hC.2.1 dL_law_1251 rfl (lv_at hl 1 rfl) ?_
    refine lv_iload hC.1 hC.2.1 dL_law_1252 (lv_at hl 5 rfl) ?_
    refine x_const hC dL_law_1254 ?_
    refine x_iadd hC dL_law_1255 ?_
    refine x_sld hC hw hX hbl hbA (by omega) (by omega) (by omega) dL_law_1256 ?_
    rw [← hz_3]
    refine x_if_eq (tgt := 1264) hC ⟨by omega, by omega⟩ dL_law_1257 (by decide) (fun c_6 => ?_) (fun c_6 => ?_)
    · refine x_const hC dL_law_1264 ?_
      rw [xU_comm hdB] at hw
      obtain ⟨va, oa, wa, ya, wk, br, re, la, ha, qv, qw, fa, fb, fy, wt, hR, hK⟩ := hm
      replace hR : MGx G B a va oa wa ya wk th0 rfd br re la ha kp kv qv qw fa fb V O fy Wv wt S := hR
      replace hK : abM O wt br re la ha K := hK
      refine x_callV hC hw (lv_size hl) ((c_X5_tail l G hR hK (p0 := z_1) (by omega) (p1 := z_2) (by omega) (p2 := 0) (by omega) (by omega)).frame hdB.symm) gL_law_X5_tail rfl dv_X5_tail (xU_l hR.1.1) rfl rfl (Nat.le_of_ble_eq_true rfl) (by rw [hRf]; decide) (by rw [hRl]; decide) (by first | (rw [hRc]; decide) | omega) (by first | (rw [hRs]; decide) | omega) dL_law_1265 (fun r9 M1 H locs hq hw => ?_)
      obtain ⟨Bk_7, ⟨zk_7, thk_7, hrk_7, hzk_7, hv9⟩, hMk_7, hdB9⟩ := hq
      subst hrk_7
      subst hMk_7
      have hdB := hdB9.symm
      rw [xU_comm hdB9] at hw
      obtain ⟨s1, hG, hm, hkt, hthr, hans⟩ : ∃ s1 : ST, RG G Ak_5 h0 (N + 1) s1 ∧ MGm G Bk_7 a S thk_7 s1 ∧ zk_5 = thk_7 ∧ (0 ≤ thk_7 ∧ thk_7 ≤ 3) ∧ (zk_5 = 0 → dk_5 = (iN zk_7).toInt64) := by
        rcases hw9 with ⟨h1, h2, ⟨z8, h3, h4, h5⟩, h6⟩ | ⟨h1, h2, h6⟩
        · rcases hv9 with ⟨g1, g2, g4, g5⟩ | ⟨g1, g2, g5⟩
          · exact ⟨_, h6, g5, by omega, by omega, fun _ => (show dk_5 = (iN zk_7).toInt64 by rw [h3, h5, g4])⟩
          · exfalso; omega
        · rcases hv9 with ⟨g1, g2, g4, g5⟩ | ⟨g1, g2, g5⟩
          · exfalso; omega
          · exact ⟨_, h6, g5, by omega, by omega, fun q9 => absurd q9 h1⟩
      clear hw9 hv9
      show W p l e R s m args below meth c H locs _ _ _ (F0 m 1268 ls [.int (iN (zk_7))])
      refine lv_istore (lv' := [(6, .int (iN (zk_7))), (5, .int (iN (zk_5))), (0, .ref b), (1, .ref h0), (2, .ref a), (3, .ref o), (4, .int (iN (i)))]) hC.1 hC.2.1 dL_law_1268 hl (by decide) rfl (fun ls hl => ?_)
      refine lv_goto (tgt := 2584) hC.1 hC.2.1 dL_law_1270 (by decide) ?_
      refine W.widen (k := cu + 5) (n := su + (30)) (by omega) (by omega) ?_
      exact kk _ _ _ _ _ S hw ⟨_, _, _, _, _, rfl, hG, hm, hdA, hdB⟩ (lv_sub hl [2, 3, 4, 5, 6] rfl) (Nat.le_refl _)
    · exact absurd c_4 c_6
  · refine x_const hC dL_law_1227 ?_
    refine lv_goto (tgt := 1232) hC.1 hC.2.1 dL_law_1228 (by decide) ?_
    refine lv_aload_n hC.1 hC.2.1 dL_law_1232 rfl (lv_at hl 3 rfl) ?_
    refine x_callSW hC hw (lv_size hl) ((c_L_tail l G hst hG hN hdA (p0 := z_1) (by omega) (p1 := z_2) (by omega) (p2 := 1) (by omega) (by omega)).frame hdB) gL_law_L_tail rfl dv_L_tail_s rfl (Nat.le_of_ble_eq_true rfl) (by rw [hRf]; decide) (by rw [hRl]; decide) (by first | (rw [hRc]; decide) | omega) (by first | (rw [hRs]; decide) | omega) dL_law_1233 (fun r9 M1 H locs hq hw => ?_)
    obtain ⟨Ck_8, ⟨zk_8, hrk_8, Ak_8, dk_8, svk_8, hCk_8, hdA, hw9⟩, hMk_8, hdB⟩ := hq
    subst hrk_8
    subst hCk_8
    subst hMk_8
    have hzrk_8 : 0 ≤ zk_8 ∧ zk_8 ≤ 3 := by rcases hw9 with ⟨h1, _⟩ | ⟨h1, h2, _⟩; (· omega); (· omega)
    show W p l e R s m args below meth c H locs _ _ _ (F0 m 1236 ls [.int (iN (zk_8))])
    refine lv_istore (lv' := [(5, .int (iN (zk_8))), (0, .ref b), (1, .ref h0), (2, .ref a), (3, .ref o), (4, .int (iN (i)))]) hC.1 hC.2.1 dL_law_1236 hl (by decide) rfl (fun ls hl => ?_)
    refine lv_aload_n hC.1 hC.2.1 dL_law_1238 rfl (lv_at hl 3 rfl) ?_
    refine lv_aload_n hC.1 hC.2.1 dL_law_1239 rfl (lv_at hl 1 rfl) ?_
    refine lv_iload hC.1 hC.2.1 dL_law_1240 (lv_at hl 5 rfl) ?_
    refine x_const hC dL_law_1242 ?_
    refine x_iadd hC dL_law_1243 ?_
    refine x_sld hC hw hX hbl hbA (by omega) (by omega) (by omega) dL_law_1244 ?_
    rw [← hz_1]
    refine lv_aload_n hC.1 hC.2.1 dL_law_1245 rfl (lv_at hl 1 rfl) ?_
    refine lv_iload hC.1 hC.2.1 dL_law_1246 (lv_at hl 5 rfl) ?_
    refine x_const hC dL_law_1248 ?_
    refine x_iadd hC dL_law_1249 ?_
    refine x_sld hC hw hX hbl hbA (by omega) (by omega) (by omega) dL_law_1250 ?_
    rw [← hz_2]
    refine lv_aload_n hC.1 hC.2.1 dL_law_1251 rfl (lv_at hl 1 rfl) ?_
    refine lv_iload hC.1 hC.2.1 dL_law_1252 (lv_at hl 5 rfl) ?_
    refine x_const hC dL_law_1254 ?_
    refine x_iadd hC dL_law_1255 ?_
    refine x_sld hC hw hX hbl hbA (by omega) (by omega) (by omega) dL_law_1256 ?_
    rw [← hz_3]
    refine x_if_eq (tgt := 1264) hC ⟨by omega, by omega⟩ dL_law_1257 (by decide) (fun c_9 => ?_) (fun c_9 => ?_)
    · exact absurd c_9 c_4
    · refine x_const hC dL_law_1260 ?_
      refine lv_goto (tgt := 1265) hC.1 hC.2.1 dL_law_1261 (by decide) ?_
      rw [xU_comm hdB] at hw
      obtain ⟨va, oa, wa, ya, wk, br, re, la, ha, qv, qw, fa, fb, fy, wt, hR, hK⟩ := hm
      replace hR : MGx G B a va oa wa ya wk th0 rfd br re la ha kp kv qv qw fa fb V O fy Wv wt S := hR
      replace hK : abM O wt br re la ha K := hK
      refine x_callV hC hw (lv_size hl) ((c_X5_tail l G hR hK (p0 := z_1) (by omega) (p1 := z_2) (by omega) (p2 := 1) (by omega) (by omega)).frame hdB.symm) gL_law_X5_tail rfl dv_X5_tail (xU_l hR.1.1) rfl rfl (Nat.le_of_ble_eq_true rfl) (by rw [hRf]; decide) (by rw [hRl]; decide) (by first | (rw [hRc]; decide) | omega) (by first | (rw [hRs]; decide) | omega) dL_law_1265 (fun r9 M1 H locs hq hw => ?_)
      obtain ⟨Bk_10, ⟨zk_10, thk_10, hrk_10, hzk_10, hv9⟩, hMk_10, hdB9⟩ := hq
      subst hrk_10
      subst hMk_10
      have hdB := hdB9.symm
      rw [xU_comm hdB9] at hw
      obtain ⟨s1, hG, hm, hkt, hthr, hans⟩ : ∃ s1 : ST, RG G Ak_8 h0 (N + 1) s1 ∧ MGm G Bk_10 a S thk_10 s1 ∧ zk_8 = thk_10 ∧ (0 ≤ thk_10 ∧ thk_10 ≤ 3) ∧ (zk_8 = 0 → dk_8 = (iN zk_10).toInt64) := by
        rcases hw9 with ⟨h1, h2, ⟨z8, h3, h4, h5⟩, h6⟩ | ⟨h1, h2, h6⟩
        · rcases hv9 with ⟨g1, g2, g4, g5⟩ | ⟨g1, g2, g5⟩
          · exact ⟨_, h6, g5, by omega, by omega, fun _ => (show dk_8 = (iN zk_10).toInt64 by rw [h3, h5, g4])⟩
          · exfalso; omega
        · rcases hv9 with ⟨g1, g2, g4, g5⟩ | ⟨g1, g2, g5⟩
          · exfalso; omega
          · exact ⟨_, h6, g5, by omega, by omega, fun q9 => absurd q9 h1⟩
      clear hw9 hv9
      show W p l e R s m args below meth c H locs _ _ _ (F0 m 1268 ls [.int (iN (zk_10))])
      refine lv_istore (lv' := [(6, .int (iN (zk_10))), (5, .int (iN (zk_8))), (0, .ref b), (1, .ref h0), (2, .ref a), (3, .ref o), (4, .int (iN (i)))]) hC.1 hC.2.1 dL_law_1268 hl (by decide) rfl (fun ls hl => ?_)
      refine lv_goto (tgt := 2584) hC.1 hC.2.1 dL_law_1270 (by decide) ?_
      refine W.widen (k := cu + 5) (n := su + (30)) (by omega) (by omega) ?_
      exact kk _ _ _ _ _ S hw ⟨_, _, _, _, _, rfl, hG, hm, hdA, hdB⟩ (lv_sub hl [2, 3, 4, 5, 6] rfl) (Nat.le_refl _)
set_option maxHeartbeats 8000000 in
set_option maxRecDepth 100000 in
theorem k_20 {p : Program} {l : Launch} {e : Env} {R : Room} {s : State} {m : MethodId} {args : Array Value} {below : List Frame} {meth : Method} {c : Code} {Q : State → Prop} {G : xG} {b L : Nat} {xs : Nat → Int32} {nm : String} (hst : l.stackTraces = false) (hRf : R.frames = 2048) {C9 S9 : Nat} (hRc : R.cells = C9) (hRs : R.slots = S9) (hC9 : 513000 ≤ C9) (hS9 : 6932000 ≤ S9) (hRl : R.locals = 84000) (hC : xB p s m args meth c cL_law 7 "RangeledgerLaw" nm wsL_law (some .boolean) G (xA (fun _ => none) s.heap.size)) (hX : va_X b L xs s s.heap) (hbl : b < s.heap.size) (hL : L ≤ 3072) {h0 a o : Nat} {N : Int} (hN : N ≤ 590) {s9 : ST} {S : Nat → Bool} {M : HM} {H : Heap} {locs : List Loc} {ls : Array Slot} {i : Int} {cu su : Nat} (hw : xD G (xA (fun _ => none) s.heap.size) s M H locs) (hS : LwS G M h0 a o N s9 S) (hl : lv_has ls 7 [(0, .ref b), (1, .ref h0), (2, .ref a), (3, .ref o), (4, .int (iN (i)))]) (hi : 0 ≤ i ∧ i + 6 ≤ L) (hcu : cu + 1000 ≤ C9) (hsu : su + 15590 ≤ S9) (kk : ∀ (M1 : HM) (H1 : Heap) (locs1 : List Loc) (ls1 : Array Slot) (s1 : ST) (S1 : Nat → Bool), xD G (xA (fun _ => none) s.heap.size) s M1 H1 locs1 → LwS G M1 h0 a o (N + 1) s1 S1 → lv_has ls1 7 [(0, .ref b), (1, .ref h0), (2, .ref a), (3, .ref o), (4, .int (iN (i)))] → mC S1 100 ≤ mC S 100 + 0 → W p l e R s m args below meth c H1 locs1 (cu + 7) (su + (42)) Q (F0 m 2584 ls1 [])) : W p l e R s m args below meth c H locs cu su Q (F0 m 1273 ls []) := by
  obtain ⟨A, B, d, sv, th0, hM, hG, hm, hdA, hdB⟩ := hS
  subst hM
  obtain ⟨O, V, Wv, K, kp, kv, rfd⟩ := s9
  have hbA : ¬ (xA (fun _ => none) s.heap.size) b := fun h9 => h9.elim (fun h8 => h8 rfl) (fun h8 => by omega)
  refine lv_aload_n hC.1 hC.2.1 dL_law_1273 rfl (lv_at hl 1 rfl) ?_
  refine lv_aload_n hC.1 hC.2.1 dL_law_1274 rfl (lv_at hl 0 rfl) ?_
  refine lv_iload hC.1 hC.2.1 dL_law_1275 (lv_at hl 4 rfl) ?_
  refine x_const hC dL_law_1277 ?_
  refine x_iadd hC dL_law_1278 ?_
  refine x_sld hC hw hX hbl hbA (by omega) (by omega) (by omega) dL_law_1279 ?_
  obtain ⟨z_1, hz_1⟩ : ∃ z : Int, z = (xs (i + 1).toNat).toInt := ⟨_, rfl⟩
  rw [← hz_1]
  have hrz_1 : -2147483648 ≤ z_1 ∧ z_1 ≤ 2147483647 := by rw [hz_1]; exact iN_rng _
  refine lv_aload_n hC.1 hC.2.1 dL_law_1280 rfl (lv_at hl 0 rfl) ?_
  refine lv_iload hC.1 hC.2.1 dL_law_1281 (lv_at hl 4 rfl) ?_
  refine x_const hC dL_law_1283 ?_
  refine x_iadd hC dL_law_1284 ?_
  refine x_sld hC hw hX hbl hbA (by omega) (by omega) (by omega) dL_law_1285 ?_
  obtain ⟨z_2, hz_2⟩ : ∃ z : Int, z = (xs (i + 2).toNat).toInt := ⟨_, rfl⟩
  rw [← hz_2]
  have hrz_2 : -2147483648 ≤ z_2 ∧ z_2 ≤ 2147483647 := by rw [hz_2]; exact iN_rng _
  refine lv_aload_n hC.1 hC.2.1 dL_law_1286 rfl (lv_at hl 0 rfl) ?_
  refine lv_iload hC.1 hC.2.1 dL_law_1287 (lv_at hl 4 rfl) ?_
  refine x_const hC dL_law_1289 ?_
  refine x_iadd hC dL_law_1290 ?_
  refine x_sld hC hw hX hbl hbA (by omega) (by omega) (by omega) dL_law_1291 ?_
  obtain ⟨z_3, hz_3⟩ : ∃ z : Int, z = (xs (i + 3).toNat).toInt := ⟨_, rfl⟩
  rw [← hz_3]
  have hrz_3 : -2147483648 ≤ z_3 ∧ z_3 ≤ 2147483647 := by rw [hz_3]; exact iN_rng _
  refine x_if_eq (tgt := 1299) hC ⟨by omega, by omega⟩ dL_law_1292 (by decide) (fun c_4 => ?_) (fun c_4 => ?_)
  · refine x_const hC dL_law_1299 ?_
    refine lv_aload_n hC.1 hC.2.1 dL_law_1300 rfl (lv_at hl 0 rfl) ?_
    refine lv_iload hC.1 hC.2.1 dL_law_1301 (lv_at hl 4 rfl) ?_
    refine x_const hC dL_law_1303 ?_
    refine x_iadd hC dL_law_1304 ?_
    refine x_sld hC hw hX hbl hbA (by omega) (by omega) (by omega) dL_law_1305 ?_
    obtain ⟨z_5, hz_5⟩ : ∃ z : Int, z = (xs (i + 4).toNat).toInt := ⟨_, rfl⟩
    rw [← hz_5]
    have hrz_5 : -2147483648 ≤ z_5 ∧ z_5 ≤ 2147483647 := by rw [hz_5]; exact iN_rng _
    refine lv_aload_n hC.1 hC.2.1 dL_law_1306 rfl (lv_at hl 0 rfl) ?_
    refine lv_iload hC.1 hC.2.1 dL_law_1307 (lv_at hl 4 rfl) ?_
    refine x_const hC dL_law_1309 ?_
    refine x_iadd hC dL_law_1310 ?_
    refine x_sld hC hw hX hbl hbA (by omega) (by omega) (by omega) dL_law_1311 ?_
    obtain ⟨z_6, hz_6⟩ : ∃ z : Int, z = (xs (i + 5).toNat).toInt := ⟨_, rfl⟩
    rw [← hz_6]
    have hrz_6 : -2147483648 ≤ z_6 ∧ z_6 ≤ 2147483647 := by rw [hz_6]; exact iN_rng _
    refine x_if_eq (tgt := 1319) hC ⟨by omega, by omega⟩ dL_law_1312 (by decide) (fun c_7 => ?_) (fun c_7 => ?_)
    · refine x_const hC dL_law_1319 ?_
      refine lv_aload_n hC.1 hC.2.1 dL_law_1320 rfl (lv_at hl 3 rfl) ?_
      refine x_callSW hC hw (lv_size hl) ((c_L_sub l G hst hG hN hdA (p0 := z_1) (by omega) (p1 := z_2) (by omega) (p2 := 0) (by omega) (p3 := z_5) (by omega) (p4 := 0) (by omega) (by omega) (by omega)).frame hdB) gL_law_L_sub rfl dv_L_sub_s rfl (Nat.le_of_ble_eq_true rfl) (by rw [hRf]; decide) (by rw [hRl]; decide) (by first | (rw [hRc]; decide) | omega) (by first | (rw [hRs]; decide) | omega) dL_law_1321 (fun r9 M1 H locs hq hw => ?_)
      obtain ⟨Ck_8, ⟨zk_8, hrk_8, Ak_8, dk_8, svk_8, hCk_8, hdA, hw9⟩, hMk_8, hdB⟩ := hq
      subst hrk_8
      subst hCk_8
      subst hMk_8
      have hzrk_8 : 0 ≤ zk_8 ∧ zk_8 ≤ 3 := by rcases hw9 with ⟨h1, _⟩ | ⟨h1, h2, _⟩; (· omega); (· omega)
      show W p l e R s m args below meth c H locs _ _ _ (F0 m 1324 ls [.int (iN (zk_8))])
      refine lv_istore (lv' := [(5, .int (iN (zk_8))), (0, .ref b), (1, .ref h0), (2, .ref a), (3, .ref o), (4, .int (iN (i)))]) hC.1 hC.2.1 dL_law_1324 hl (by decide) rfl (fun ls hl => ?_)
      refine lv_aload_n hC.1 hC.2.1 dL_law_1326 rfl (lv_at hl 3 rfl) ?_
      refine lv_aload_n hC.1 hC.2.1 dL_law_1327 rfl (lv_at hl 1 rfl) ?_
      refine lv_iload hC.1 hC.2.1 dL_law_1328 (lv_at hl 5 rfl) ?_
      refine x_const hC dL_law_1330 ?_
      refine x_iadd hC dL_law_1331 ?_
      refine x_sld hC hw hX hbl hbA (by omega) (by omega) (by omega) dL_law_1332 ?_
      rw [← hz_1]
      refine lv_aload_n hC.1 hC.2.1 dL_law_1333 rfl (lv_at hl 1 rfl) ?_
      refine lv_iload hC.1 hC.2.1 dL_law_1334 (lv_at hl 5 rfl) ?_
      refine x_const hC dL_law_1336 ?_
      refine x_iadd hC dL_law_1337 ?_
      refine x_sld hC hw hX hbl hbA (by omega) (by omega) (by omega) dL_law_1338 ?_
      rw [← hz_2]
      refine lv_aload_n hC.1 hC.2.1 dL_law_1339 rfl (lv_at hl 1 rfl) ?_
      refine lv_iload hC.1 hC.2.1 dL_law_1340 (lv_at hl 5 rfl) ?_
      refine x_const hC dL_law_1342 ?_
      refine x_iadd hC dL_law_1343 ?_
      refine x_sld hC hw hX hbl hbA (by omega) (by omega) (by omega) dL_law_1344 ?_
      rw [← hz_3]
      refine x_if_eq (tgt := 1352) hC ⟨by omega, by omega⟩ dL_law_1345 (by decide) (fun c_9 => ?_) (fun c_9 => ?_)
      · refine x_const hC dL_law_1352 ?_
        refine lv_aload_n hC.1 hC.2.1 dL_law_1353 rfl (lv_at hl 1 rfl) ?_
        refine lv_iload hC.1 hC.2.1 dL_law_1354 (lv_at hl 5 rfl) ?_
        refine x_const hC dL_law_1356 ?_
        refine x_iadd hC dL_law_1357 ?_
        refine x_sld hC hw hX hbl hbA (by omega) (by omega) (by omega) dL_law_1358 ?_
        rw [← hz_5]
        refine lv_aload_n hC.1 hC.2.1 dL_law_1359 rfl (lv_at hl 1 rfl) ?_
        refine lv_iload hC.1 hC.2.1 dL_law_1360 (lv_at hl 5 rfl) ?_
        refine x_const hC dL_law_1362 ?_
        refine x_iadd hC dL_law_1363 ?_
        refine x_sld hC hw hX hbl hbA (by omega) (by omega) (by omega) dL_law_1364 ?_
        rw [← hz_6]
        refine x_if_eq (tgt := 1372) hC ⟨by omega, by omega⟩ dL_law_1365 (by decide) (fun c_10 => ?_) (fun c_10 => ?_)
        · refine x_const hC dL_law_1372 ?_
          rw [xU_comm hdB] at hw
          obtain ⟨va, oa, wa, ya, wk, br, re, la, ha, qv, qw, fa, fb, fy, wt, hR, hK⟩ := hm
          replace hR : MGx G B a va oa wa ya wk th0 rfd br re la ha kp kv qv qw fa fb V O fy Wv wt S := hR
          replace hK : abM O wt br re la ha K := hK
          refine x_callV hC hw (lv_size hl) ((c_X5_sub l G hR hK (p0 := z_1) (by omega) (p1 := z_2) (by omega) (p2 := 0) (by omega) (p3 := z_5) (by omega) (p4 := 0) (by omega) (by omega) (by omega)).frame hdB.symm) gL_law_X5_sub rfl dv_X5_sub (xU_l hR.1.1) rfl rfl (Nat.le_of_ble_eq_true rfl) (by rw [hRf]; decide) (by rw [hRl]; decide) (by first | (rw [hRc]; decide) | omega) (by first | (rw [hRs]; decide) | omega) dL_law_1373 (fun r9 M1 H locs hq hw => ?_)
          obtain ⟨Bk_11, ⟨zk_11, thk_11, hrk_11, hzk_11, hv9⟩, hMk_11, hdB9⟩ := hq
          subst hrk_11
          subst hMk_11
          have hdB := hdB9.symm
          rw [xU_comm hdB9] at hw
          obtain ⟨s1, hG, hm, hkt, hthr, hans⟩ : ∃ s1 : ST, RG G Ak_8 h0 (N + 1) s1 ∧ MGm G Bk_11 a S thk_11 s1 ∧ zk_8 = thk_11 ∧ (0 ≤ thk_11 ∧ thk_11 ≤ 3) ∧ (zk_8 = 0 → dk_8 = (iN zk_11).toInt64) := by
            rcases hw9 with ⟨h1, h2, ⟨z8, h3, h4, h5⟩, h6⟩ | ⟨h1, h2, h6⟩
            · rcases hv9 with ⟨g1, g2, g4, g5⟩ | ⟨g1, g2, g5⟩
              · exact ⟨_, h6, g5, by omega, by omega, fun _ => (show dk_8 = (iN zk_11).toInt64 by rw [h3, h5, g4])⟩
              · exfalso; omega
            · rcases hv9 with ⟨g1, g2, g4, g5⟩ | ⟨g1, g2, g5⟩
              · exfalso; omega
              · exact ⟨_, h6, g5, by omega, by omega, fun q9 => absurd q9 h1⟩
          clear hw9 hv9
          show W p l e R s m args below meth c H locs _ _ _ (F0 m 1376 ls [.int (iN (zk_11))])
          refine lv_istore (lv' := [(6, .int (iN (zk_11))), (5, .int (iN (zk_8))), (0, .ref b), (1, .ref h0), (2, .ref a), (3, .ref o), (4, .int (iN (i)))]) hC.1 hC.2.1 dL_law_1376 hl (by decide) rfl (fun ls hl => ?_)
          refine lv_goto (tgt := 2584) hC.1 hC.2.1 dL_law_1378 (by decide) ?_
          refine W.widen (k := cu + 7) (n := su + (42)) (by omega) (by omega) ?_
          exact kk _ _ _ _ _ S hw ⟨_, _, _, _, _, rfl, hG, hm, hdA, hdB⟩ (lv_sub hl [2, 3, 4, 5, 6] rfl) (Nat.le_refl _)
        · exact absurd c_7 c_10
      · exact absurd c_4 c_9
    · refine x_const hC dL_law_1315 ?_
      refine lv_goto (tgt := 1320) hC.1 hC.2.1 dL_law_1316 (by decide) ?_
      refine lv_aload_n hC.1 hC.2.1 dL_law_1320 rfl (lv_at hl 3 rfl) ?_
      refine x_callSW hC hw (lv_size hl) ((c_L_sub l G hst hG hN hdA (p0 := z_1) (by omega) (p1 := z_2) (by omega) (p2 := 0) (by omega) (p3 := z_5) (by omega) (p4 := 1) (by omega) (by omega) (by omega)).frame hdB) gL_law_L_sub rfl dv_L_sub_s rfl (Nat.le_of_ble_eq_true rfl) (by rw [hRf]; decide) (by rw [hRl]; decide) (by first | (rw [hRc]; decide) | omega) (by first | (rw [hRs]; decide) | omega) dL_law_1321 (fun r9 M1 H locs hq hw => ?_)
      obtain ⟨Ck_12, ⟨zk_12, hrk_12, Ak_12, dk_12, svk_12, hCk_12, hdA, hw9⟩, hMk_12, hdB⟩ := hq
      subst hrk_12
      subst hCk_12
      subst hMk_12
      have hzrk_12 : 0 ≤ zk_12 ∧ zk_12 ≤ 3 := by rcases hw9 with ⟨h1, _⟩ | ⟨h1, h2, _⟩; (· omega); (· omega)
      show W p l e R s m args below meth c H locs _ _ _ (F0 m 1324 ls [.int (iN (zk_12))])
      refine lv_istore (lv' := [(5, .int (iN (zk_12))), (0, .ref b), (1, .ref h0), (2, .ref a), (3, .ref o), (4, .int (iN (i)))]) hC.1 hC.2.1 dL_law_1324 hl (by decide) rfl (fun ls hl => ?_)
      refine lv_aload_n hC.1 hC.2.1 dL_law_1326 rfl (lv_at hl 3 rfl) ?_
      refine lv_aload_n hC.1 hC.2.1 dL_law_1327 rfl (lv_at hl 1 rfl) ?_
      refine lv_iload hC.1 hC.2.1 dL_law_1328 (lv_at hl 5 rfl) ?_
      refine x_const hC dL_law_1330 ?_
      refine x_iadd hC dL_law_1331 ?_
      refine x_sld hC hw hX hbl hbA (by omega) (by omega) (by omega) dL_law_1332 ?_
      rw [← hz_1]
      refine lv_aload_n hC.1 hC.2.1 dL_law_1333 rfl (lv_at hl 1 rfl) ?_
      refine lv_iload hC.1 hC.2.1 dL_law_1334 (lv_at hl 5 rfl) ?_
      refine x_const hC dL_law_1336 ?_
      refine x_iadd hC dL_law_1337 ?_
      refine x_sld hC hw hX hbl hbA (by omega) (by omega) (by omega) dL_law_1338 ?_
      rw [← hz_2]
      refine lv_aload_n hC.1 hC.2.1 dL_law_1339 rfl (lv_at hl 1 rfl) ?_
      refine lv_iload hC.1 hC.2.1 dL_law_1340 (lv_at hl 5 rfl) ?_
      refine x_const hC dL_law_1342 ?_
      refine x_iadd hC dL_law_1343 ?_
      refine x_sld hC hw hX hbl hbA (by omega) (by omega) (by omega) dL_law_1344 ?_
      rw [← hz_3]
      refine x_if_eq (tgt := 1352) hC ⟨by omega, by omega⟩ dL_law_1345 (by decide) (fun c_13 => ?_) (fun c_13 => ?_)
      · refine x_const hC dL_law_1352 ?_
        refine lv_aload_n hC.1 hC.2.1 dL_law_1353 rfl (lv_at hl 1 rfl) ?_
        refine lv_iload hC.1 hC.2.1 dL_law_1354 (lv_at hl 5 rfl) ?_
        refine x_const hC dL_law_1356 ?_
        refine x_iadd hC dL_law_1357 ?_
        refine x_sld hC hw hX hbl hbA (by omega) (by omega) (by omega) dL_law_1358 ?_
        rw [← hz_5]
        refine lv_aload_n hC.1 hC.2.1 dL_law_1359 rfl (lv_at hl 1 rfl) ?_
        refine lv_iload hC.1 hC.2.1 dL_law_1360 (lv_at hl 5 rfl) ?_
        refine x_const hC dL_law_1362 ?_
        refine x_iadd hC dL_law_1363 ?_
        refine x_sld hC hw hX hbl hbA (by omega) (by omega) (by omega) dL_law_1364 ?_
        rw [← hz_6]
        refine x_if_eq (tgt := 1372) hC ⟨by omega, by omega⟩ dL_law_1365 (by decide) (fun c_14 => ?_) (fun c_14 => ?_)
        · exact absurd c_14 c_7
        · refine x_const hC dL_law_1368 ?_
          refine lv_goto (tgt := 1373) hC.1 hC.2.1 dL_law_1369 (by decide) ?_
          rw [xU_comm hdB] at hw
          obtain ⟨va, oa, wa, ya, wk, br, re, la, ha, qv, qw, fa, fb, fy, wt, hR, hK⟩ := hm
          replace hR : MGx G B a va oa wa ya wk th0 rfd br re la ha kp kv qv qw fa fb V O fy Wv wt S := hR
          replace hK : abM O wt br re la ha K := hK
          refine x_callV hC hw (lv_size hl) ((c_X5_sub l G hR hK (p0 := z_1) (by omega) (p1 := z_2) (by omega) (p2 := 0) (by omega) (p3 := z_5) (by omega) (p4 := 1) (by omega) (by omega) (by omega)).frame hdB.symm) gL_law_X5_sub rfl dv_X5_sub (xU_l hR.1.1) rfl rfl (Nat.le_of_ble_eq_true rfl) (by rw [hRf]; decide) (by rw [hRl]; decide) (by first | (rw [hRc]; decide) | omega) (by first | (rw [hRs]; decide) | omega) dL_law_1373 (fun r9 M1 H locs hq hw => ?_)
          obtain ⟨Bk_15, ⟨zk_15, thk_15, hrk_15, hzk_15, hv9⟩, hMk_15, hdB9⟩ := hq
          subst hrk_15
          subst hMk_15
          have hdB := hdB9.symm
          rw [xU_comm hdB9] at hw
          obtain ⟨s1, hG, hm, hkt, hthr, hans⟩ : ∃ s1 : ST, RG G Ak_12 h0 (N + 1) s1 ∧ MGm G Bk_15 a S thk_15 s1 ∧ zk_12 = thk_15 ∧ (0 ≤ thk_15 ∧ thk_15 ≤ 3) ∧ (zk_12 = 0 → dk_12 = (iN zk_15).toInt64) := by
            rcases hw9 with ⟨h1, h2, ⟨z8, h3, h4, h5⟩, h6⟩ | ⟨h1, h2, h6⟩
            · rcases hv9 with ⟨g1, g2, g4, g5⟩ | ⟨g1, g2, g5⟩
              · exact ⟨_, h6, g5, by omega, by omega, fun _ => (show dk_12 = (iN zk_15).toInt64 by rw [h3, h5, g4])⟩
              · exfalso; omega
            · rcases hv9 with ⟨g1, g2, g4, g5⟩ | ⟨g1, g2, g5⟩
              · exfalso; omega
              · exact ⟨_, h6, g5, by omega, by omega, fun q9 => absurd q9 h1⟩
          clear hw9 hv9
          show W p l e R s m args below meth c H locs _ _ _ (F0 m 1376 ls [.int (iN (zk_15))])
          refine lv_istore (lv' := [(6, .int (iN (zk_15))), (5, .int (iN (zk_12))), (0, .ref b), (1, .ref h0), (2, .ref a), (3, .ref o), (4, .int (iN (i)))]) hC.1 hC.2.1 dL_law_1376 hl (by decide) rfl (fun ls hl => ?_)
          refine lv_goto (tgt := 2584) hC.1 hC.2.1 dL_law_1378 (by decide) ?_
          refine W.widen (k := cu + 7) (n := su + (42)) (by omega) (by omega) ?_
          exact kk _ _ _ _ _ S hw ⟨_, _, _, _, _, rfl, hG, hm, hdA, hdB⟩ (lv_sub hl [2, 3, 4, 5, 6] rfl) (Nat.le_refl _)
      · exact absurd c_4 c_13
  · refine x_const hC dL_law_1295 ?_
    refine lv_goto (tgt := 1300) hC.1 hC.2.1 dL_law_1296 (by decide) ?_
    refine lv_aload_n hC.1 hC.2.1 dL_law_1300 rfl (lv_at hl 0 rfl) ?_
    refine lv_iload hC.1 hC.2.1 dL_law_1301 (lv_at hl 4 rfl) ?_
    refine x_const hC dL_law_1303 ?_
    refine x_iadd hC dL_law_1304 ?_
    refine x_sld hC hw hX hbl hbA (by omega) (by omega) (by omega) dL_law_1305 ?_
    obtain ⟨z_16, hz_16⟩ : ∃ z : Int, z = (xs (i + 4).toNat).toInt := ⟨_, rfl⟩
    rw [← hz_16]
    have hrz_16 : -2147483648 ≤ z_16 ∧ z_16 ≤ 2147483647 := by rw [hz_16]; exact iN_rng _
    refine lv_aload_n hC.1 hC.2.1 dL_law_1306 rfl (lv_at hl 0 rfl) ?_
    refine lv_iload hC.1 hC.2.1 dL_law_1307 (lv_at hl 4 rfl) ?_
    refine x_const hC dL_law_1309 ?_
    refine x_iadd hC dL_law_1310 ?_
    refine x_sld hC hw hX hbl hbA (by omega) (by omega) (by omega) dL_law_1311 ?_
    obtain ⟨z_17, hz_17⟩ : ∃ z : Int, z = (xs (i + 5).toNat).toInt := ⟨_, rfl⟩
    rw [← hz_17]
    have hrz_17 : -2147483648 ≤ z_17 ∧ z_17 ≤ 2147483647 := by rw [hz_17]; exact iN_rng _
    refine x_if_eq (tgt := 1319) hC ⟨by omega, by omega⟩ dL_law_1312 (by decide) (fun c_18 => ?_) (fun c_18 => ?_)
    · refine x_const hC dL_law_1319 ?_
      refine lv_aload_n hC.1 hC.2.1 dL_law_1320 rfl (lv_at hl 3 rfl) ?_
      refine x_callSW hC hw (lv_size hl) ((c_L_sub l G hst hG hN hdA (p0 := z_1) (by omega) (p1 := z_2) (by omega) (p2 := 1) (by omega) (p3 := z_16) (by omega) (p4 := 0) (by omega) (by omega) (by omega)).frame hdB) gL_law_L_sub rfl dv_L_sub_s rfl (Nat.le_of_ble_eq_true rfl) (by rw [hRf]; decide) (by rw [hRl]; decide) (by first | (rw [hRc]; decide) | omega) (by first | (rw [hRs]; decide) | omega) dL_law_1321 (fun r9 M1 H locs hq hw => ?_)
      obtain ⟨Ck_19, ⟨zk_19, hrk_19, Ak_19, dk_19, svk_19, hCk_19, hdA, hw9⟩, hMk_19, hdB⟩ := hq
      subst hrk_19
      subst hCk_19
      subst hMk_19
      have hzrk_19 : 0 ≤ zk_19 ∧ zk_19 ≤ 3 := by rcases hw9 with ⟨h1, _⟩ | ⟨h1, h2, _⟩; (· omega); (· omega)
      show W p l e R s m args below meth c H locs _ _ _ (F0 m 1324 ls [.int (iN (zk_19))])
      refine lv_istore (lv' := [(5, .int (iN (zk_19))), (0, .ref b), (1, .ref h0), (2, .ref a), (3, .ref o), (4, .int (iN (i)))]) hC.1 hC.2.1 dL_law_1324 hl (by decide) rfl (fun ls hl => ?_)
      refine lv_aload_n hC.1 hC.2.1 dL_law_1326 rfl (lv_at hl 3 rfl) ?_
      refine lv_aload_n hC.1 hC.2.1 dL_law_1327 rfl (lv_at hl 1 rfl) ?_
      refine lv_iload hC.1 hC.2.1 dL_law_1328 (lv_at hl 5 rfl) ?_
      refine x_const hC dL_law_1330 ?_
      refine x_iadd hC dL_law_1331 ?_
      refine x_sld hC hw hX hbl hbA (by omega) (by omega) (by omega) dL_law_1332 ?_
      rw [← hz_1]
      refine lv_aload_n hC.1 hC.2.1 dL_law_1333 rfl (lv_at hl 1 rfl) ?_
      refine lv_iload hC.1 hC.2.1 dL_law_1334 (lv_at hl 5 rfl) ?_
      refine x_const hC dL_law_1336 ?_
      refine x_iadd hC dL_law_1337 ?_
      refine x_sld hC hw hX hbl hbA (by omega) (by omega) (by omega) dL_law_1338 ?_
      rw [← hz_2]
      refine lv_aload_n hC.1 hC.2.1 dL_law_1339 rfl (lv_at hl 1 rfl) ?_
      refine lv_iload hC.1 hC.2.1 dL_law_1340 (lv_at hl 5 rfl) ?_
      refine x_const hC dL_law_1342 ?_
      refine x_iadd hC dL_law_1343 ?_
      refine x_sld hC hw hX hbl hbA (by omega) (by omega) (by omega) dL_law_1344 ?_
      rw [← hz_3]
      refine x_if_eq (tgt := 1352) hC ⟨by omega, by omega⟩ dL_law_1345 (by decide) (fun c_20 => ?_) (fun c_20 => ?_)
      · exact absurd c_20 c_4
      · refine x_const hC dL_law_1348 ?_
        refine lv_goto (tgt := 1353) hC.1 hC.2.1 dL_law_1349 (by decide) ?_
        refine lv_aload_n hC.1 hC.2.1 dL_law_1353 rfl (lv_at hl 1 rfl) ?_
        refine lv_iload hC.1 hC.2.1 dL_law_1354 (lv_at hl 5 rfl) ?_
        refine x_const hC dL_law_1356 ?_
        refine x_iadd hC dL_law_1357 ?_
        refine x_sld hC hw hX hbl hbA (by omega) (by omega) (by omega) dL_law_1358 ?_
        rw [← hz_16]
        refine lv_aload_n hC.1 hC.2.1 dL_law_1359 rfl (lv_at hl 1 rfl) ?_
        refine lv_iload hC.1 hC.2.1 dL_law_1360 (lv_at hl 5 rfl) ?_
        refine x_const hC dL_law_1362 ?_
        refine x_iadd hC dL_law_1363 ?_
        refine x_sld hC hw hX hbl hbA (by omega) (by omega) (by omega) dL_law_1364 ?_
        rw [← hz_17]
        refine x_if_eq (tgt := 1372) hC ⟨by omega, by omega⟩ dL_law_1365 (by decide) (fun c_21 => ?_) (fun c_21 => ?_)
        · refine x_const hC dL_law_1372 ?_
          rw [xU_comm hdB] at hw
          obtain ⟨va, oa, wa, ya, wk, br, re, la, ha, qv, qw, fa, fb, fy, wt, hR, hK⟩ := hm
          replace hR : MGx G B a va oa wa ya wk th0 rfd br re la ha kp kv qv qw fa fb V O fy Wv wt S := hR
          replace hK : abM O wt br re la ha K := hK
          refine x_callV hC hw (lv_size hl) ((c_X5_sub l G hR hK (p0 := z_1) (by omega) (p1 := z_2) (by omega) (p2 := 1) (by omega) (p3 := z_16) (by omega) (p4 := 0) (by omega) (by omega) (by omega)).frame hdB.symm) gL_law_X5_sub rfl dv_X5_sub (xU_l hR.1.1) rfl rfl (Nat.le_of_ble_eq_true rfl) (by rw [hRf]; decide) (by rw [hRl]; decide) (by first | (rw [hRc]; decide) | omega) (by first | (rw [hRs]; decide) | omega) dL_law_1373 (fun r9 M1 H locs hq hw => ?_)
          obtain ⟨Bk_22, ⟨zk_22, thk_22, hrk_22, hzk_22, hv9⟩, hMk_22, hdB9⟩ := hq
          subst hrk_22
          subst hMk_22
          have hdB := hdB9.symm
          rw [xU_comm hdB9] at hw
          obtain ⟨s1, hG, hm, hkt, hthr, hans⟩ : ∃ s1 : ST, RG G Ak_19 h0 (N + 1) s1 ∧ MGm G Bk_22 a S thk_22 s1 ∧ zk_19 = thk_22 ∧ (0 ≤ thk_22 ∧ thk_22 ≤ 3) ∧ (zk_19 = 0 → dk_19 = (iN zk_22).toInt64) := by
            rcases hw9 with ⟨h1, h2, ⟨z8, h3, h4, h5⟩, h6⟩ | ⟨h1, h2, h6⟩
            · rcases hv9 with ⟨g1, g2, g4, g5⟩ | ⟨g1, g2, g5⟩
              · exact ⟨_, h6, g5, by omega, by omega, fun _ => (show dk_19 = (iN zk_22).toInt64 by rw [h3, h5, g4])⟩
              · exfalso; omega
            · rcases hv9 with ⟨g1, g2, g4, g5⟩ | ⟨g1, g2, g5⟩
              · exfalso; omega
              · exact ⟨_, h6, g5, by omega, by omega, fun q9 => absurd q9 h1⟩
          clear hw9 hv9
          show W p l e R s m args below meth c H locs _ _ _ (F0 m 1376 ls [.int (iN (zk_22))])
          refine lv_istore (lv' := [(6, .int (iN (zk_22))), (5, .int (iN (zk_19))), (0, .ref b), (1, .ref h0), (2, .ref a), (3, .ref o), (4, .int (iN (i)))]) hC.1 hC.2.1 dL_law_1376 hl (by decide) rfl (fun ls hl => ?_)
          refine lv_goto (tgt := 2584) hC.1 hC.2.1 dL_law_1378 (by decide) ?_
          refine W.widen (k := cu + 7) (n := su + (42)) (by omega) (by omega) ?_
          exact kk _ _ _ _ _ S hw ⟨_, _, _, _, _, rfl, hG, hm, hdA, hdB⟩ (lv_sub hl [2, 3, 4, 5, 6] rfl) (Nat.le_refl _)
        · exact absurd c_18 c_21
    · refine x_const hC dL_law_1315 ?_
      refine lv_goto (tgt := 1320) hC.1 hC.2.1 dL_law_1316 (by decide) ?_
      refine lv_aload_n hC.1 hC.2.1 dL_law_1320 rfl (lv_at hl 3 rfl) ?_
      refine x_callSW hC hw (lv_size hl) ((c_L_sub l G hst hG hN hdA (p0 := z_1) (by omega) (p1 := z_2) (by omega) (p2 := 1) (by omega) (p3 := z_16) (by omega) (p4 := 1) (by omega) (by omega) (by omega)).frame hdB) gL_law_L_sub rfl dv_L_sub_s rfl (Nat.le_of_ble_eq_true rfl) (by rw [hRf]; decide) (by rw [hRl]; decide) (by first | (rw [hRc]; decide) | omega) (by first | (rw [hRs]; decide) | omega) dL_law_1321 (fun r9 M1 H locs hq hw => ?_)
      obtain ⟨Ck_23, ⟨zk_23, hrk_23, Ak_23, dk_23, svk_23, hCk_23, hdA, hw9⟩, hMk_23, hdB⟩ := hq
      subst hrk_23
      subst hCk_23
      subst hMk_23
      have hzrk_23 : 0 ≤ zk_23 ∧ zk_23 ≤ 3 := by rcases hw9 with ⟨h1, _⟩ | ⟨h1, h2, _⟩; (· omega); (· omega)
      show W p l e R s m args below meth c H locs _ _ _ (F0 m 1324 ls [.int (iN (zk_23))])
      refine lv_istore (lv' := [(5, .int (iN (zk_23))), (0, .ref b), (1, .ref h0), (2, .ref a), (3, .ref o), (4, .int (iN (i)))]) hC.1 hC.2.1 dL_law_1324 hl (by decide) rfl (fun ls hl => ?_)
      refine lv_aload_n hC.1 hC.2.1 dL_law_1326 rfl (lv_at hl 3 rfl) ?_
      refine lv_aload_n hC.1 hC.2.1 dL_law_1327 rfl (lv_at hl 1 rfl) ?_
      refine lv_iload hC.1 hC.2.1 dL_law_1328 (lv_at hl 5 rfl) ?_
      refine x_const hC dL_law_1330 ?_
      refine x_iadd hC dL_law_1331 ?_
      refine x_sld hC hw hX hbl hbA (by omega) (by omega) (by omega) dL_law_1332 ?_
      rw [← hz_1]
      refine lv_aload_n hC.1 hC.2.1 dL_law_1333 rfl (lv_at hl 1 rfl) ?_
      refine lv_iload hC.1 hC.2.1 dL_law_1334 (lv_at hl 5 rfl) ?_
      refine x_const hC dL_law_1336 ?_
      refine x_iadd hC dL_law_1337 ?_
      refine x_sld hC hw hX hbl hbA (by omega) (by omega) (by omega) dL_law_1338 ?_
      rw [← hz_2]
      refine lv_aload_n hC.1 hC.2.1 dL_law_1339 rfl (lv_at hl 1 rfl) ?_
      refine lv_iload hC.1 hC.2.1 dL_law_1340 (lv_at hl 5 rfl) ?_
      refine x_const hC dL_law_1342 ?_
      refine x_iadd hC dL_law_1343 ?_
      refine x_sld hC hw hX hbl hbA (by omega) (by omega) (by omega) dL_law_1344 ?_
      rw [← hz_3]
      refine x_if_eq (tgt := 1352) hC ⟨by omega, by omega⟩ dL_law_1345 (by decide) (fun c_24 => ?_) (fun c_24 => ?_)
      · exact absurd c_24 c_4
      · refine x_const hC dL_law_1348 ?_
        refine lv_goto (tgt := 1353) hC.1 hC.2.1 dL_law_1349 (by decide) ?_
        refine lv_aload_n hC.1 hC.2.1 dL_law_1353 rfl (lv_at hl 1 rfl) ?_
        refine lv_iload hC.1 hC.2.1 dL_law_1354 (lv_at hl 5 rfl) ?_
        refine x_const hC dL_law_1356 ?_
        refine x_iadd hC dL_law_1357 ?_
        refine x_sld hC hw hX hbl hbA (by omega) (by omega) (by omega) dL_law_1358 ?_
        rw [← hz_16]
        refine lv_aload_n hC.1 hC.2.1 dL_law_1359 rfl (lv_at hl 1 rfl) ?_
        refine lv_iload hC.1 hC.2.1 dL_law_1360 (lv_at hl 5 rfl) ?_
        refine x_const hC dL_law_1362 ?_
        refine x_iadd hC dL_law_1363 ?_
        refine x_sld hC hw hX hbl hbA (by omega) (by omega) (by omega) dL_law_1364 ?_
        rw [← hz_17]
        refine x_if_eq (tgt := 1372) hC ⟨by omega, by omega⟩ dL_law_1365 (by decide) (fun c_25 => ?_) (fun c_25 => ?_)
        · exact absurd c_25 c_18
        · refine x_const hC dL_law_1368 ?_
          refine lv_goto (tgt := 1373) hC.1 hC.2.1 dL_law_1369 (by decide) ?_
          rw [xU_comm hdB] at hw
          obtain ⟨va, oa, wa, ya, wk, br, re, la, ha, qv, qw, fa, fb, fy, wt, hR, hK⟩ := hm
          replace hR : MGx G B a va oa wa ya wk th0 rfd br re la ha kp kv qv qw fa fb V O fy Wv wt S := hR
          replace hK : abM O wt br re la ha K := hK
          refine x_callV hC hw (lv_size hl) ((c_X5_sub l G hR hK (p0 := z_1) (by omega) (p1 := z_2) (by omega) (p2 := 1) (by omega) (p3 := z_16) (by omega) (p4 := 1) (by omega) (by omega) (by omega)).frame hdB.symm) gL_law_X5_sub rfl dv_X5_sub (xU_l hR.1.1) rfl rfl (Nat.le_of_ble_eq_true rfl) (by rw [hRf]; decide) (by rw [hRl]; decide) (by first | (rw [hRc]; decide) | omega) (by first | (rw [hRs]; decide) | omega) dL_law_1373 (fun r9 M1 H locs hq hw => ?_)
          obtain ⟨Bk_26, ⟨zk_26, thk_26, hrk_26, hzk_26, hv9⟩, hMk_26, hdB9⟩ := hq
          subst hrk_26
          subst hMk_26
          have hdB := hdB9.symm
          rw [xU_comm hdB9] at hw
          obtain ⟨s1, hG, hm, hkt, hthr, hans⟩ : ∃ s1 : ST, RG G Ak_23 h0 (N + 1) s1 ∧ MGm G Bk_26 a S thk_26 s1 ∧ zk_23 = thk_26 ∧ (0 ≤ thk_26 ∧ thk_26 ≤ 3) ∧ (zk_23 = 0 → dk_23 = (iN zk_26).toInt64) := by
            rcases hw9 with ⟨h1, h2, ⟨z8, h3, h4, h5⟩, h6⟩ | ⟨h1, h2, h6⟩
            · rcases hv9 with ⟨g1, g2, g4, g5⟩ | ⟨g1, g2, g5⟩
              · exact ⟨_, h6, g5, by omega, by omega, fun _ => (show dk_23 = (iN zk_26).toInt64 by rw [h3, h5, g4])⟩
              · exfalso; omega
            · rcases hv9 with ⟨g1, g2, g4, g5⟩ | ⟨g1, g2, g5⟩
              · exfalso; omega
              · exact ⟨_, h6, g5, by omega, by omega, fun q9 => absurd q9 h1⟩
          clear hw9 hv9
          show W p l e R s m args below meth c H locs _ _ _ (F0 m 1376 ls [.int (iN (zk_26))])
          refine lv_istore (lv' := [(6, .int (iN (zk_26))), (5, .int (iN (zk_23))), (0, .ref b), (1, .ref h0), (2, .ref a), (3, .ref o), (4, .int (iN (i)))]) hC.1 hC.2.1 dL_law_1376 hl (by decide) rfl (fun ls hl => ?_)
          refine lv_goto (tgt := 2584) hC.1 hC.2.1 dL_law_1378 (by decide) ?_
          refine W.widen (k := cu + 7) (n := su + (42)) (by omega) (by omega) ?_
          exact kk _ _ _ _ _ S hw ⟨_, _, _, _, _, rfl, hG, hm, hdA, hdB⟩ (lv_sub hl [2, 3, 4, 5, 6] rfl) (Nat.le_refl _)
set_option maxHeartbeats 8000000 in
set_option maxRecDepth 100000 in
theorem k_21 {p : Program} {l : Launch} {e : Env} {R : Room} {s : State} {m : MethodId} {args : Array Value} {below : List Frame} {meth : Method} {c : Code} {Q : State → Prop} {G : xG} {b L : Nat} {xs : Nat → Int32} {nm : String} (hst : l.stackTraces = false) (hRf : R.frames = 2048) {C9 S9 : Nat} (hRc : R.cells = C9) (hRs : R.slots = S9) (hC9 : 513000 ≤ C9) (hS9 : 6932000 ≤ S9) (hRl : R.locals = 84000) (hC : xB p s m args meth c cL_law 7 "RangeledgerLaw" nm wsL_law (some .boolean) G (xA (fun _ => none) s.heap.size)) (hX : va_X b L xs s s.heap) (hbl : b < s.heap.size) (hL : L ≤ 3072) {h0 a o : Nat} {N : Int} (hN : N ≤ 590) {s9 : ST} {S : Nat → Bool} {M : HM} {H : Heap} {locs : List Loc} {ls : Array Slot} {i : Int} {cu su : Nat} (hw : xD G (xA (fun _ => none) s.heap.size) s M H locs) (hS : LwS G M h0 a o N s9 S) (hl : lv_has ls 7 [(0, .ref b), (1, .ref h0), (2, .ref a), (3, .ref o), (4, .int (iN (i)))]) (hi : 0 ≤ i ∧ i + 6 ≤ L) (hcu : cu + 1000 ≤ C9) (hsu : su + 15590 ≤ S9) (kk : ∀ (M1 : HM) (H1 : Heap) (locs1 : List Loc) (ls1 : Array Slot) (s1 : ST) (S1 : Nat → Bool), xD G (xA (fun _ => none) s.heap.size) s M1 H1 locs1 → LwS G M1 h0 a o (N + 1) s1 S1 → lv_has ls1 7 [(0, .ref b), (1, .ref h0), (2, .ref a), (3, .ref o), (4, .int (iN (i)))] → mC S1 100 ≤ mC S 100 + 0 → W p l e R s m args below meth c H1 locs1 (cu + 7) (su + (42)) Q (F0 m 2584 ls1 [])) : W p l e R s m args below meth c H locs cu su Q (F0 m 1381 ls []) := by
  obtain ⟨A, B, d, sv, th0, hM, hG, hm, hdA, hdB⟩ := hS
  subst hM
  obtain ⟨O, V, Wv, K, kp, kv, rfd⟩ := s9
  have hbA : ¬ (xA (fun _ => none) s.heap.size) b := fun h9 => h9.elim (fun h8 => h8 rfl) (fun h8 => by omega)
  refine lv_aload_n hC.1 hC.2.1 dL_law_1381 rfl (lv_at hl 1 rfl) ?_
  refine lv_aload_n hC.1 hC.2.1 dL_law_1382 rfl (lv_at hl 0 rfl) ?_
  refine lv_iload hC.1 hC.2.1 dL_law_1383 (lv_at hl 4 rfl) ?_
  refine x_const hC dL_law_1385 ?_
  refine x_iadd hC dL_law_1386 ?_
  refine x_sld hC hw hX hbl hbA (by omega) (by omega) (by omega) dL_law_1387 ?_
  obtain ⟨z_1, hz_1⟩ : ∃ z : Int, z = (xs (i + 1).toNat).toInt := ⟨_, rfl⟩
  rw [← hz_1]
  have hrz_1 : -2147483648 ≤ z_1 ∧ z_1 ≤ 2147483647 := by rw [hz_1]; exact iN_rng _
  refine lv_aload_n hC.1 hC.2.1 dL_law_1388 rfl (lv_at hl 0 rfl) ?_
  refine lv_iload hC.1 hC.2.1 dL_law_1389 (lv_at hl 4 rfl) ?_
  refine x_const hC dL_law_1391 ?_
  refine x_iadd hC dL_law_1392 ?_
  refine x_sld hC hw hX hbl hbA (by omega) (by omega) (by omega) dL_law_1393 ?_
  obtain ⟨z_2, hz_2⟩ : ∃ z : Int, z = (xs (i + 2).toNat).toInt := ⟨_, rfl⟩
  rw [← hz_2]
  have hrz_2 : -2147483648 ≤ z_2 ∧ z_2 ≤ 2147483647 := by rw [hz_2]; exact iN_rng _
  refine lv_aload_n hC.1 hC.2.1 dL_law_1394 rfl (lv_at hl 0 rfl) ?_
  refine lv_iload hC.1 hC.2.1 dL_law_1395 (lv_at hl 4 rfl) ?_
  refine x_const hC dL_law_1397 ?_
  refine x_iadd hC dL_law_1398 ?_
  refine x_sld hC hw hX hbl hbA (by omega) (by omega) (by omega) dL_law_1399 ?_
  obtain ⟨z_3, hz_3⟩ : ∃ z : Int, z = (xs (i + 3).toNat).toInt := ⟨_, rfl⟩
  rw [← hz_3]
  have hrz_3 : -2147483648 ≤ z_3 ∧ z_3 ≤ 2147483647 := by rw [hz_3]; exact iN_rng _
  refine x_if_eq (tgt := 1407) hC ⟨by omega, by omega⟩ dL_law_1400 (by decide) (fun c_4 => ?_) (fun c_4 => ?_)
  · refine x_const hC dL_law_1407 ?_
    refine lv_aload_n hC.1 hC.2.1 dL_law_1408 rfl (lv_at hl 0 rfl) ?_
    refine lv_iload hC.1 hC.2.1 dL_law_1409 (lv_at hl 4 rfl) ?_
    refine x_const hC dL_law_1411 ?_
    refine x_iadd hC dL_law_1412 ?_
    refine x_sld hC hw hX hbl hbA (by omega) (by omega) (by omega) dL_law_1413 ?_
    obtain ⟨z_5, hz_5⟩ : ∃ z : Int, z = (xs (i + 4).toNat).toInt := ⟨_, rfl⟩
    rw [← hz_5]
    have hrz_5 : -2147483648 ≤ z_5 ∧ z_5 ≤ 2147483647 := by rw [hz_5]; exact iN_rng _
    refine lv_aload_n hC.1 hC.2.1 dL_law_1414 rfl (lv_at hl 0 rfl) ?_
    refine lv_iload hC.1 hC.2.1 dL_law_1415 (lv_at hl 4 rfl) ?_
    refine x_const hC dL_law_1417 ?_
    refine x_iadd hC dL_law_1418 ?_
    refine x_sld hC hw hX hbl hbA (by omega) (by omega) (by omega) dL_law_1419 ?_
    obtain ⟨z_6, hz_6⟩ : ∃ z : Int, z = (xs (i + 5).toNat).toInt := ⟨_, rfl⟩
    rw [← hz_6]
    have hrz_6 : -2147483648 ≤ z_6 ∧ z_6 ≤ 2147483647 := by rw [hz_6]; exact iN_rng _
    refine x_if_eq (tgt := 1427) hC ⟨by omega, by omega⟩ dL_law_1420 (by decide) (fun c_7 => ?_) (fun c_7 => ?_)
    · refine x_const hC dL_law_1427 ?_
      refine lv_aload_n hC.1 hC.2.1 dL_law_1428 rfl (lv_at hl 3 rfl) ?_
      refine x_callSW hC hw (lv_size hl) ((c_L_part l G hst hG hN hdA (p0 := z_1) (by omega) (p1 := z_2) (by omega) (p2 := 0) (by omega) (p3 := z_5) (by omega) (p4 := 0) (by omega) (by omega) (by omega)).frame hdB) gL_law_L_part rfl dv_L_part_s rfl (Nat.le_of_ble_eq_true rfl) (by rw [hRf]; decide) (by rw [hRl]; decide) (by first | (rw [hRc]; decide) | omega) (by first | (rw [hRs]; decide) | omega) dL_law_1429 (fun r9 M1 H locs hq hw => ?_)
      obtain ⟨Ck_8, ⟨zk_8, hrk_8, Ak_8, dk_8, svk_8, hCk_8, hdA, hw9⟩, hMk_8, hdB⟩ := hq
      subst hrk_8
      subst hCk_8
      subst hMk_8
      have hzrk_8 : 0 ≤ zk_8 ∧ zk_8 ≤ 3 := by rcases hw9 with ⟨h1, _⟩ | ⟨h1, h2, _⟩; (· omega); (· omega)
      show W p l e R s m args below meth c H locs _ _ _ (F0 m 1432 ls [.int (iN (zk_8))])
      refine lv_istore (lv' := [(5, .int (iN (zk_8))), (0, .ref b), (1, .ref h0), (2, .ref a), (3, .ref o), (4, .int (iN (i)))]) hC.1 hC.2.1 dL_law_1432 hl (by decide) rfl (fun ls hl => ?_)
      refine lv_aload_n hC.1 hC.2.1 dL_law_1434 rfl (lv_at hl 3 rfl) ?_
      refine lv_aload_n hC.1 hC.2.1 dL_law_1435 rfl (lv_at hl 1 rfl) ?_
      refine lv_iload hC.1 hC.2.1 dL_law_1436 (lv_at hl 5 rfl) ?_
      refine x_const hC dL_law_1438 ?_
      refine x_iadd hC dL_law_1439 ?_
      refine x_sld hC hw hX hbl hbA (by omega) (by omega) (by omega) dL_law_1440 ?_
      rw [← hz_1]
      refine lv_aload_n hC.1 hC.2.1 dL_law_1441 rfl (lv_at hl 1 rfl) ?_
      refine lv_iload hC.1 hC.2.1 dL_law_1442 (lv_at hl 5 rfl) ?_
      refine x_const hC dL_law_1444 ?_
      refine x_iadd hC dL_law_1445 ?_
      refine x_sld hC hw hX hbl hbA (by omega) (by omega) (by omega) dL_law_1446 ?_
      rw [← hz_2]
      refine lv_aload_n hC.1 hC.2.1 dL_law_1447 rfl (lv_at hl 1 rfl) ?_
      refine lv_iload hC.1 hC.2.1 dL_law_1448 (lv_at hl 5 rfl) ?_
      refine x_const hC dL_law_1450 ?_
      refine x_iadd hC dL_law_1451 ?_
      refine x_sld hC hw hX hbl hbA (by omega) (by omega) (by omega) dL_law_1452 ?_
      rw [← hz_3]
      refine x_if_eq (tgt := 1460) hC ⟨by omega, by omega⟩ dL_law_1453 (by decide) (fun c_9 => ?_) (fun c_9 => ?_)
      · refine x_const hC dL_law_1460 ?_
        refine lv_aload_n hC.1 hC.2.1 dL_law_1461 rfl (lv_at hl 1 rfl) ?_
        refine lv_iload hC.1 hC.2.1 dL_law_1462 (lv_at hl 5 rfl) ?_
        refine x_const hC dL_law_1464 ?_
        refine x_iadd hC dL_law_1465 ?_
        refine x_sld hC hw hX hbl hbA (by omega) (by omega) (by omega) dL_law_1466 ?_
        rw [← hz_5]
        refine lv_aload_n hC.1 hC.2.1 dL_law_1467 rfl (lv_at hl 1 rfl) ?_
        refine lv_iload hC.1 hC.2.1 dL_law_1468 (lv_at hl 5 rfl) ?_
        refine x_const hC dL_law_1470 ?_
        refine x_iadd hC dL_law_1471 ?_
        refine x_sld hC hw hX hbl hbA (by omega) (by omega) (by omega) dL_law_1472 ?_
        rw [← hz_6]
        refine x_if_eq (tgt := 1480) hC ⟨by omega, by omega⟩ dL_law_1473 (by decide) (fun c_10 => ?_) (fun c_10 => ?_)
        · refine x_const hC dL_law_1480 ?_
          rw [xU_comm hdB] at hw
          obtain ⟨va, oa, wa, ya, wk, br, re, la, ha, qv, qw, fa, fb, fy, wt, hR, hK⟩ := hm
          replace hR : MGx G B a va oa wa ya wk th0 rfd br re la ha kp kv qv qw fa fb V O fy Wv wt S := hR
          replace hK : abM O wt br re la ha K := hK
          refine x_callV hC hw (lv_size hl) ((c_X5_part l G hR hK (p0 := z_1) (by omega) (p1 := z_2) (by omega) (p2 := 0) (by omega) (p3 := z_5) (by omega) (p4 := 0) (by omega) (by omega) (by omega)).frame hdB.symm) gL_law_X5_part rfl dv_X5_part (xU_l hR.1.1) rfl rfl (Nat.le_of_ble_eq_true rfl) (by rw [hRf]; decide) (by rw [hRl]; decide) (by first | (rw [hRc]; decide) | omega) (by first | (rw [hRs]; decide) | omega) dL_law_1481 (fun r9 M1 H locs hq hw => ?_)
          obtain ⟨Bk_11, ⟨zk_11, thk_11, hrk_11, hzk_11, hv9⟩, hMk_11, hdB9⟩ := hq
          subst hrk_11
          subst hMk_11
          have hdB := hdB9.symm
          rw [xU_comm hdB9] at hw
          obtain ⟨s1, hG, hm, hkt, hthr, hans⟩ : ∃ s1 : ST, RG G Ak_8 h0 (N + 1) s1 ∧ MGm G Bk_11 a S thk_11 s1 ∧ zk_8 = thk_11 ∧ (0 ≤ thk_11 ∧ thk_11 ≤ 3) ∧ (zk_8 = 0 → dk_8 = (iN zk_11).toInt64) := by
            rcases hw9 with ⟨h1, h2, ⟨z8, h3, h4, h5⟩, h6⟩ | ⟨h1, h2, h6⟩
            · rcases hv9 with ⟨g1, g2, g4, g5⟩ | ⟨g1, g2, g5⟩
              · exact ⟨_, h6, g5, by omega, by omega, fun _ => (show dk_8 = (iN zk_11).toInt64 by rw [h3, h5, g4])⟩
              · exfalso; omega
            · rcases hv9 with ⟨g1, g2, g4, g5⟩ | ⟨g1, g2, g5⟩
              · exfalso; omega
              · exact ⟨_, h6, g5, by omega, by omega, fun q9 => absurd q9 h1⟩
          clear hw9 hv9
          show W p l e R s m args below meth c H locs _ _ _ (F0 m 1484 ls [.int (iN (zk_11))])
          refine lv_istore (lv' := [(6, .int (iN (zk_11))), (5, .int (iN (zk_8))), (0, .ref b), (1, .ref h0), (2, .ref a), (3, .ref o), (4, .int (iN (i)))]) hC.1 hC.2.1 dL_law_1484 hl (by decide) rfl (fun ls hl => ?_)
          refine lv_goto (tgt := 2584) hC.1 hC.2.1 dL_law_1486 (by decide) ?_
          refine W.widen (k := cu + 7) (n := su + (42)) (by omega) (by omega) ?_
          exact kk _ _ _ _ _ S hw ⟨_, _, _, _, _, rfl, hG, hm, hdA, hdB⟩ (lv_sub hl [2, 3, 4, 5, 6] rfl) (Nat.le_refl _)
        · exact absurd c_7 c_10
      · exact absurd c_4 c_9
    · refine x_const hC dL_law_1423 ?_
      refine lv_goto (tgt := 1428) hC.1 hC.2.1 dL_law_1424 (by decide) ?_
      refine lv_aload_n hC.1 hC.2.1 dL_law_1428 rfl (lv_at hl 3 rfl) ?_
      refine x_callSW hC hw (lv_size hl) ((c_L_part l G hst hG hN hdA (p0 := z_1) (by omega) (p1 := z_2) (by omega) (p2 := 0) (by omega) (p3 := z_5) (by omega) (p4 := 1) (by omega) (by omega) (by omega)).frame hdB) gL_law_L_part rfl dv_L_part_s rfl (Nat.le_of_ble_eq_true rfl) (by rw [hRf]; decide) (by rw [hRl]; decide) (by first | (rw [hRc]; decide) | omega) (by first | (rw [hRs]; decide) | omega) dL_law_1429 (fun r9 M1 H locs hq hw => ?_)
      obtain ⟨Ck_12, ⟨zk_12, hrk_12, Ak_12, dk_12, svk_12, hCk_12, hdA, hw9⟩, hMk_12, hdB⟩ := hq
      subst hrk_12
      subst hCk_12
      subst hMk_12
      have hzrk_12 : 0 ≤ zk_12 ∧ zk_12 ≤ 3 := by rcases hw9 with ⟨h1, _⟩ | ⟨h1, h2, _⟩; (· omega); (· omega)
      show W p l e R s m args below meth c H locs _ _ _ (F0 m 1432 ls [.int (iN (zk_12))])
      refine lv_istore (lv' := [(5, .int (iN (zk_12))), (0, .ref b), (1, .ref h0), (2, .ref a), (3, .ref o), (4, .int (iN (i)))]) hC.1 hC.2.1 dL_law_1432 hl (by decide) rfl (fun ls hl => ?_)
      refine lv_aload_n hC.1 hC.2.1 dL_law_1434 rfl (lv_at hl 3 rfl) ?_
      refine lv_aload_n hC.1 hC.2.1 dL_law_1435 rfl (lv_at hl 1 rfl) ?_
      refine lv_iload hC.1 hC.2.1 dL_law_1436 (lv_at hl 5 rfl) ?_
      refine x_const hC dL_law_1438 ?_
      refine x_iadd hC dL_law_1439 ?_
      refine x_sld hC hw hX hbl hbA (by omega) (by omega) (by omega) dL_law_1440 ?_
      rw [← hz_1]
      refine lv_aload_n hC.1 hC.2.1 dL_law_1441 rfl (lv_at hl 1 rfl) ?_
      refine lv_iload hC.1 hC.2.1 dL_law_1442 (lv_at hl 5 rfl) ?_
      refine x_const hC dL_law_1444 ?_
      refine x_iadd hC dL_law_1445 ?_
      refine x_sld hC hw hX hbl hbA (by omega) (by omega) (by omega) dL_law_1446 ?_
      rw [← hz_2]
      refine lv_aload_n hC.1 hC.2.1 dL_law_1447 rfl (lv_at hl 1 rfl) ?_
      refine lv_iload hC.1 hC.2.1 dL_law_1448 (lv_at hl 5 rfl) ?_
      refine x_const hC dL_law_1450 ?_
      refine x_iadd hC dL_law_1451 ?_
      refine x_sld hC hw hX hbl hbA (by omega) (by omega) (by omega) dL_law_1452 ?_
      rw [← hz_3]
      refine x_if_eq (tgt := 1460) hC ⟨by omega, by omega⟩ dL_law_1453 (by decide) (fun c_13 => ?_) (fun c_13 => ?_)
      · refine x_const hC dL_law_1460 ?_
        refine lv_aload_n hC.1 hC.2.1 dL_law_1461 rfl (lv_at hl 1 rfl) ?_
        refine lv_iload hC.1 hC.2.1 dL_law_1462 (lv_at hl 5 rfl) ?_
        refine x_const hC dL_law_1464 ?_
        refine x_iadd hC dL_law_1465 ?_
        refine x_sld hC hw hX hbl hbA (by omega) (by omega) (by omega) dL_law_1466 ?_
        rw [← hz_5]
        refine lv_aload_n hC.1 hC.2.1 dL_law_1467 rfl (lv_at hl 1 rfl) ?_
        refine lv_iload hC.1 hC.2.1 dL_law_1468 (lv_at hl 5 rfl) ?_
        refine x_const hC dL_law_1470 ?_
        refine x_iadd hC dL_law_1471 ?_
        refine x_sld hC hw hX hbl hbA (by omega) (by omega) (by omega) dL_law_1472 ?_
        rw [← hz_6]
        refine x_if_eq (tgt := 1480) hC ⟨by omega, by omega⟩ dL_law_1473 (by decide) (fun c_14 => ?_) (fun c_14 => ?_)
        · exact absurd c_14 c_7
        · refine x_const hC dL_law_1476 ?_
          refine lv_goto (tgt := 1481) hC.1 hC.2.1 dL_law_1477 (by decide) ?_
          rw [xU_comm hdB] at hw
          obtain ⟨va, oa, wa, ya, wk, br, re, la, ha, qv, qw, fa, fb, fy, wt, hR, hK⟩ := hm
          replace hR : MGx G B a va oa wa ya wk th0 rfd br re la ha kp kv qv qw fa fb V O fy Wv wt S := hR
          replace hK : abM O wt br re la ha K := hK
          refine x_callV hC hw (lv_size hl) ((c_X5_part l G hR hK (p0 := z_1) (by omega) (p1 := z_2) (by omega) (p2 := 0) (by omega) (p3 := z_5) (by omega) (p4 := 1) (by omega) (by omega) (by omega)).frame hdB.symm) gL_law_X5_part rfl dv_X5_part (xU_l hR.1.1) rfl rfl (Nat.le_of_ble_eq_true rfl) (by rw [hRf]; decide) (by rw [hRl]; decide) (by first | (rw [hRc]; decide) | omega) (by first | (rw [hRs]; decide) | omega) dL_law_1481 (fun r9 M1 H locs hq hw => ?_)
          obtain ⟨Bk_15, ⟨zk_15, thk_15, hrk_15, hzk_15, hv9⟩, hMk_15, hdB9⟩ := hq
          subst hrk_15
          subst hMk_15
          have hdB := hdB9.symm
          rw [xU_comm hdB9] at hw
          obtain ⟨s1, hG, hm, hkt, hthr, hans⟩ : ∃ s1 : ST, RG G Ak_12 h0 (N + 1) s1 ∧ MGm G Bk_15 a S thk_15 s1 ∧ zk_12 = thk_15 ∧ (0 ≤ thk_15 ∧ thk_15 ≤ 3) ∧ (zk_12 = 0 → dk_12 = (iN zk_15).toInt64) := by
            rcases hw9 with ⟨h1, h2, ⟨z8, h3, h4, h5⟩, h6⟩ | ⟨h1, h2, h6⟩
            · rcases hv9 with ⟨g1, g2, g4, g5⟩ | ⟨g1, g2, g5⟩
              · exact ⟨_, h6, g5, by omega, by omega, fun _ => (show dk_12 = (iN zk_15).toInt64 by rw [h3, h5, g4])⟩
              · exfalso; omega
            · rcases hv9 with ⟨g1, g2, g4, g5⟩ | ⟨g1, g2, g5⟩
              · exfalso; omega
              · exact ⟨_, h6, g5, by omega, by omega, fun q9 => absurd q9 h1⟩
          clear hw9 hv9
          show W p l e R s m args below meth c H locs _ _ _ (F0 m 1484 ls [.int (iN (zk_15))])
          refine lv_istore (lv' := [(6, .int (iN (zk_15))), (5, .int (iN (zk_12))), (0, .ref b), (1, .ref h0), (2, .ref a), (3, .ref o), (4, .int (iN (i)))]) hC.1 hC.2.1 dL_law_1484 hl (by decide) rfl (fun ls hl => ?_)
          refine lv_goto (tgt := 2584) hC.1 hC.2.1 dL_law_1486 (by decide) ?_
          refine W.widen (k := cu + 7) (n := su + (42)) (by omega) (by omega) ?_
          exact kk _ _ _ _ _ S hw ⟨_, _, _, _, _, rfl, hG, hm, hdA, hdB⟩ (lv_sub hl [2, 3, 4, 5, 6] rfl) (Nat.le_refl _)
      · exact absurd c_4 c_13
  · refine x_const hC dL_law_1403 ?_
    refine lv_goto (tgt := 1408) hC.1 hC.2.1 dL_law_1404 (by decide) ?_
    refine lv_aload_n hC.1 hC.2.1 dL_law_1408 rfl (lv_at hl 0 rfl) ?_
    refine lv_iload hC.1 hC.2.1 dL_law_1409 (lv_at hl 4 rfl) ?_
    refine x_const hC dL_law_1411 ?_
    refine x_iadd hC dL_law_1412 ?_
    refine x_sld hC hw hX hbl hbA (by omega) (by omega) (by omega) dL_law_1413 ?_
    obtain ⟨z_16, hz_16⟩ : ∃ z : Int, z = (xs (i + 4).toNat).toInt := ⟨_, rfl⟩
    rw [← hz_16]
    have hrz_16 : -2147483648 ≤ z_16 ∧ z_16 ≤ 2147483647 := by rw [hz_16]; exact iN_rng _
    refine lv_aload_n hC.1 hC.2.1 dL_law_1414 rfl (lv_at hl 0 rfl) ?_
    refine lv_iload hC.1 hC.2.1 dL_law_1415 (lv_at hl 4 rfl) ?_
    refine x_const hC dL_law_1417 ?_
    refine x_iadd hC dL_law_1418 ?_
    refine x_sld hC hw hX hbl hbA (by omega) (by omega) (by omega) dL_law_1419 ?_
    obtain ⟨z_17, hz_17⟩ : ∃ z : Int, z = (xs (i + 5).toNat).toInt := ⟨_, rfl⟩
    rw [← hz_17]
    have hrz_17 : -2147483648 ≤ z_17 ∧ z_17 ≤ 2147483647 := by rw [hz_17]; exact iN_rng _
    refine x_if_eq (tgt := 1427) hC ⟨by omega, by omega⟩ dL_law_1420 (by decide) (fun c_18 => ?_) (fun c_18 => ?_)
    · refine x_const hC dL_law_1427 ?_
      refine lv_aload_n hC.1 hC.2.1 dL_law_1428 rfl (lv_at hl 3 rfl) ?_
      refine x_callSW hC hw (lv_size hl) ((c_L_part l G hst hG hN hdA (p0 := z_1) (by omega) (p1 := z_2) (by omega) (p2 := 1) (by omega) (p3 := z_16) (by omega) (p4 := 0) (by omega) (by omega) (by omega)).frame hdB) gL_law_L_part rfl dv_L_part_s rfl (Nat.le_of_ble_eq_true rfl) (by rw [hRf]; decide) (by rw [hRl]; decide) (by first | (rw [hRc]; decide) | omega) (by first | (rw [hRs]; decide) | omega) dL_law_1429 (fun r9 M1 H locs hq hw => ?_)
      obtain ⟨Ck_19, ⟨zk_19, hrk_19, Ak_19, dk_19, svk_19, hCk_19, hdA, hw9⟩, hMk_19, hdB⟩ := hq
      subst hrk_19
      subst hCk_19
      subst hMk_19
      have hzrk_19 : 0 ≤ zk_19 ∧ zk_19 ≤ 3 := by rcases hw9 with ⟨h1, _⟩ | ⟨h1, h2, _⟩; (· omega); (· omega)
      show W p l e R s m args below meth c H locs _ _ _ (F0 m 1432 ls [.int (iN (zk_19))])
      refine lv_istore (lv' := [(5, .int (iN (zk_19))), (0, .ref b), (1, .ref h0), (2, .ref a), (3, .ref o), (4, .int (iN (i)))]) hC.1 hC.2.1 dL_law_1432 hl (by decide) rfl (fun ls hl => ?_)
      refine lv_aload_n hC.1 hC.2.1 dL_law_1434 rfl (lv_at hl 3 rfl) ?_
      refine lv_aload_n hC.1 hC.2.1 dL_law_1435 rfl (lv_at hl 1 rfl) ?_
      refine lv_iload hC.1 hC.2.1 dL_law_1436 (lv_at hl 5 rfl) ?_
      refine x_const hC dL_law_1438 ?_
      refine x_iadd hC dL_law_1439 ?_
      refine x_sld hC hw hX hbl hbA (by omega) (by omega) (by omega) dL_law_1440 ?_
      rw [← hz_1]
      refine lv_aload_n hC.1 hC.2.1 dL_law_1441 rfl (lv_at hl 1 rfl) ?_
      refine lv_iload hC.1 hC.2.1 dL_law_1442 (lv_at hl 5 rfl) ?_
      refine x_const hC dL_law_1444 ?_
      refine x_iadd hC dL_law_1445 ?_
      refine x_sld hC hw hX hbl hbA (by omega) (by omega) (by omega) dL_law_1446 ?_
      rw [← hz_2]
      refine lv_aload_n hC.1 hC.2.1 dL_law_1447 rfl (lv_at hl 1 rfl) ?_
      refine lv_iload hC.1 hC.2.1 dL_law_1448 (lv_at hl 5 rfl) ?_
      refine x_const hC dL_law_1450 ?_
      refine x_iadd hC dL_law_1451 ?_
      refine x_sld hC hw hX hbl hbA (by omega) (by omega) (by omega) dL_law_1452 ?_
      rw [← hz_3]
      refine x_if_eq (tgt := 1460) hC ⟨by omega, by omega⟩ dL_law_1453 (by decide) (fun c_20 => ?_) (fun c_20 => ?_)
      · exact absurd c_20 c_4
      · refine x_const hC dL_law_1456 ?_
        refine lv_goto (tgt := 1461) hC.1 hC.2.1 dL_law_1457 (by decide) ?_
        refine lv_aload_n hC.1 hC.2.1 dL_law_1461 rfl (lv_at hl 1 rfl) ?_
        refine lv_iload hC.1 hC.2.1 dL_law_1462 (lv_at hl 5 rfl) ?_
        refine x_const hC dL_law_1464 ?_
        refine x_iadd hC dL_law_1465 ?_
        refine x_sld hC hw hX hbl hbA (by omega) (by omega) (by omega) dL_law_1466 ?_
        rw [← hz_16]
        refine lv_aload_n hC.1 hC.2.1 dL_law_1467 rfl (lv_at hl 1 rfl) ?_
        refine lv_iload hC.1 hC.2.1 dL_law_1468 (lv_at hl 5 rfl) ?_
        refine x_const hC dL_law_1470 ?_
        refine x_iadd hC dL_law_1471 ?_
        refine x_sld hC hw hX hbl hbA (by omega) (by omega) (by omega) dL_law_1472 ?_
        rw [← hz_17]
        refine x_if_eq (tgt := 1480) hC ⟨by omega, by omega⟩ dL_law_1473 (by decide) (fun c_21 => ?_) (fun c_21 => ?_)
        · refine x_const hC dL_law_1480 ?_
          rw [xU_comm hdB] at hw
          obtain ⟨va, oa, wa, ya, wk, br, re, la, ha, qv, qw, fa, fb, fy, wt, hR, hK⟩ := hm
          replace hR : MGx G B a va oa wa ya wk th0 rfd br re la ha kp kv qv qw fa fb V O fy Wv wt S := hR
          replace hK : abM O wt br re la ha K := hK
          refine x_callV hC hw (lv_size hl) ((c_X5_part l G hR hK (p0 := z_1) (by omega) (p1 := z_2) (by omega) (p2 := 1) (by omega) (p3 := z_16) (by omega) (p4 := 0) (by omega) (by omega) (by omega)).frame hdB.symm) gL_law_X5_part rfl dv_X5_part (xU_l hR.1.1) rfl rfl (Nat.le_of_ble_eq_true rfl) (by rw [hRf]; decide) (by rw [hRl]; decide) (by first | (rw [hRc]; decide) | omega) (by first | (rw [hRs]; decide) | omega) dL_law_1481 (fun r9 M1 H locs hq hw => ?_)
          obtain ⟨Bk_22, ⟨zk_22, thk_22, hrk_22, hzk_22, hv9⟩, hMk_22, hdB9⟩ := hq
          subst hrk_22
          subst hMk_22
          have hdB := hdB9.symm
          rw [xU_comm hdB9] at hw
          obtain ⟨s1, hG, hm, hkt, hthr, hans⟩ : ∃ s1 : ST, RG G Ak_19 h0 (N + 1) s1 ∧ MGm G Bk_22 a S thk_22 s1 ∧ zk_19 = thk_22 ∧ (0 ≤ thk_22 ∧ thk_22 ≤ 3) ∧ (zk_19 = 0 → dk_19 = (iN zk_22).toInt64) := by
            rcases hw9 with ⟨h1, h2, ⟨z8, h3, h4, h5⟩, h6⟩ | ⟨h1, h2, h6⟩
            · rcases hv9 with ⟨g1, g2, g4, g5⟩ | ⟨g1, g2, g5⟩
              · exact ⟨_, h6, g5, by omega, by omega, fun _ => (show dk_19 = (iN zk_22).toInt64 by rw [h3, h5, g4])⟩
              · exfalso; omega
            · rcases hv9 with ⟨g1, g2, g4, g5⟩ | ⟨g1, g2, g5⟩
              · exfalso; omega
              · exact ⟨_, h6, g5, by omega, by omega, fun q9 => absurd q9 h1⟩
          clear hw9 hv9
          show W p l e R s m args below meth c H locs _ _ _ (F0 m 1484 ls [.int (iN (zk_22))])
          refine lv_istore (lv' := [(6, .int (iN (zk_22))), (5, .int (iN (zk_19))), (0, .ref b), (1, .ref h0), (2, .ref a), (3, .ref o), (4, .int (iN (i)))]) hC.1 hC.2.1 dL_law_1484 hl (by decide) rfl (fun ls hl => ?_)
          refine lv_goto (tgt := 2584) hC.1 hC.2.1 dL_law_1486 (by decide) ?_
          refine W.widen (k := cu + 7) (n := su + (42)) (by omega) (by omega) ?_
          exact kk _ _ _ _ _ S hw ⟨_, _, _, _, _, rfl, hG, hm, hdA, hdB⟩ (lv_sub hl [2, 3, 4, 5, 6] rfl) (Nat.le_refl _)
        · exact absurd c_18 c_21
    · refine x_const hC dL_law_1423 ?_
      refine lv_goto (tgt := 1428) hC.1 hC.2.1 dL_law_1424 (by decide) ?_
      refine lv_aload_n hC.1 hC.2.1 dL_law_1428 rfl (lv_at hl 3 rfl) ?_
      refine x_callSW hC hw (lv_size hl) ((c_L_part l G hst hG hN hdA (p0 := z_1) (by omega) (p1 := z_2) (by omega) (p2 := 1) (by omega) (p3 := z_16) (by omega) (p4 := 1) (by omega) (by omega) (by omega)).frame hdB) gL_law_L_part rfl dv_L_part_s rfl (Nat.le_of_ble_eq_true rfl) (by rw [hRf]; decide) (by rw [hRl]; decide) (by first | (rw [hRc]; decide) | omega) (by first | (rw [hRs]; decide) | omega) dL_law_1429 (fun r9 M1 H locs hq hw => ?_)
      obtain ⟨Ck_23, ⟨zk_23, hrk_23, Ak_23, dk_23, svk_23, hCk_23, hdA, hw9⟩, hMk_23, hdB⟩ := hq
      subst hrk_23
      subst hCk_23
      subst hMk_23
      have hzrk_23 : 0 ≤ zk_23 ∧ zk_23 ≤ 3 := by rcases hw9 with ⟨h1, _⟩ | ⟨h1, h2, _⟩; (· omega); (· omega)
      show W p l e R s m args below meth c H locs _ _ _ (F0 m 1432 ls [.int (iN (zk_23))])
      refine lv_istore (lv' := [(5, .int (iN (zk_23))), (0, .ref b), (1, .ref h0), (2, .ref a), (3, .ref o), (4, .int (iN (i)))]) hC.1 hC.2.1 dL_law_1432 hl (by decide) rfl (fun ls hl => ?_)
      refine lv_aload_n hC.1 hC.2.1 dL_law_1434 rfl (lv_at hl 3 rfl) ?_
      refine lv_aload_n hC.1 hC.2.1 dL_law_1435 rfl (lv_at hl 1 rfl) ?_
      refine lv_iload hC.1 hC.2.1 dL_law_1436 (lv_at hl 5 rfl) ?_
      refine x_const hC dL_law_1438 ?_
      refine x_iadd hC dL_law_1439 ?_
      refine x_sld hC hw hX hbl hbA (by omega) (by omega) (by omega) dL_law_1440 ?_
      rw [← hz_1]
      refine lv_aload_n hC.1 hC.2.1 dL_law_1441 rfl (lv_at hl 1 rfl) ?_
      refine lv_iload hC.1 hC.2.1 dL_law_1442 (lv_at hl 5 rfl) ?_
      refine x_const hC dL_law_1444 ?_
      refine x_iadd hC dL_law_1445 ?_
      refine x_sld hC hw hX hbl hbA (by omega) (by omega) (by omega) dL_law_1446 ?_
      rw [← hz_2]
      refine lv_aload_n hC.1 hC.2.1 dL_law_1447 rfl (lv_at hl 1 rfl) ?_
      refine lv_iload hC.1 hC.2.1 dL_law_1448 (lv_at hl 5 rfl) ?_
      refine x_const hC dL_law_1450 ?_
      refine x_iadd hC dL_law_1451 ?_
      refine x_sld hC hw hX hbl hbA (by omega) (by omega) (by omega) dL_law_1452 ?_
      rw [← hz_3]
      refine x_if_eq (tgt := 1460) hC ⟨by omega, by omega⟩ dL_law_1453 (by decide) (fun c_24 => ?_) (fun c_24 => ?_)
      · exact absurd c_24 c_4
      · refine x_const hC dL_law_1456 ?_
        refine lv_goto (tgt := 1461) hC.1 hC.2.1 dL_law_1457 (by decide) ?_
        refine lv_aload_n hC.1 hC.2.1 dL_law_1461 rfl (lv_at hl 1 rfl) ?_
        refine lv_iload hC.1 hC.2.1 dL_law_1462 (lv_at hl 5 rfl) ?_
        refine x_const hC dL_law_1464 ?_
        refine x_iadd hC dL_law_1465 ?_
        refine x_sld hC hw hX hbl hbA (by omega) (by omega) (by omega) dL_law_1466 ?_
        rw [← hz_16]
        refine lv_aload_n hC.1 hC.2.1 dL_law_1467 rfl (lv_at hl 1 rfl) ?_
        refine lv_iload hC.1 hC.2.1 dL_law_1468 (lv_at hl 5 rfl) ?_
        refine x_const hC dL_law_1470 ?_
        refine x_iadd hC dL_law_1471 ?_
        refine x_sld hC hw hX hbl hbA (by omega) (by omega) (by omega) dL_law_1472 ?_
        rw [← hz_17]
        refine x_if_eq (tgt := 1480) hC ⟨by omega, by omega⟩ dL_law_1473 (by decide) (fun c_25 => ?_) (fun c_25 => ?_)
        · exact absurd c_25 c_18
        · refine x_const hC dL_law_1476 ?_
          refine lv_goto (tgt := 1481) hC.1 hC.2.1 dL_law_1477 (by decide) ?_
          rw [xU_comm hdB] at hw
          obtain ⟨va, oa, wa, ya, wk, br, re, la, ha, qv, qw, fa, fb, fy, wt, hR, hK⟩ := hm
          replace hR : MGx G B a va oa wa ya wk th0 rfd br re la ha kp kv qv qw fa fb V O fy Wv wt S := hR
          replace hK : abM O wt br re la ha K := hK
          refine x_callV hC hw (lv_size hl) ((c_X5_part l G hR hK (p0 := z_1) (by omega) (p1 := z_2) (by omega) (p2 := 1) (by omega) (p3 := z_16) (by omega) (p4 := 1) (by omega) (by omega) (by omega)).frame hdB.symm) gL_law_X5_part rfl dv_X5_part (xU_l hR.1.1) rfl rfl (Nat.le_of_ble_eq_true rfl) (by rw [hRf]; decide) (by rw [hRl]; decide) (by first | (rw [hRc]; decide) | omega) (by first | (rw [hRs]; decide) | omega) dL_law_1481 (fun r9 M1 H locs hq hw => ?_)
          obtain ⟨Bk_26, ⟨zk_26, thk_26, hrk_26, hzk_26, hv9⟩, hMk_26, hdB9⟩ := hq
          subst hrk_26
          subst hMk_26
          have hdB := hdB9.symm
          rw [xU_comm hdB9] at hw
          obtain ⟨s1, hG, hm, hkt, hthr, hans⟩ : ∃ s1 : ST, RG G Ak_23 h0 (N + 1) s1 ∧ MGm G Bk_26 a S thk_26 s1 ∧ zk_23 = thk_26 ∧ (0 ≤ thk_26 ∧ thk_26 ≤ 3) ∧ (zk_23 = 0 → dk_23 = (iN zk_26).toInt64) := by
            rcases hw9 with ⟨h1, h2, ⟨z8, h3, h4, h5⟩, h6⟩ | ⟨h1, h2, h6⟩
            · rcases hv9 with ⟨g1, g2, g4, g5⟩ | ⟨g1, g2, g5⟩
              · exact ⟨_, h6, g5, by omega, by omega, fun _ => (show dk_23 = (iN zk_26).toInt64 by rw [h3, h5, g4])⟩
              · exfalso; omega
            · rcases hv9 with ⟨g1, g2, g4, g5⟩ | ⟨g1, g2, g5⟩
              · exfalso; omega
              · exact ⟨_, h6, g5, by omega, by omega, fun q9 => absurd q9 h1⟩
          clear hw9 hv9
          show W p l e R s m args below meth c H locs _ _ _ (F0 m 1484 ls [.int (iN (zk_26))])
          refine lv_istore (lv' := [(6, .int (iN (zk_26))), (5, .int (iN (zk_23))), (0, .ref b), (1, .ref h0), (2, .ref a), (3, .ref o), (4, .int (iN (i)))]) hC.1 hC.2.1 dL_law_1484 hl (by decide) rfl (fun ls hl => ?_)
          refine lv_goto (tgt := 2584) hC.1 hC.2.1 dL_law_1486 (by decide) ?_
          refine W.widen (k := cu + 7) (n := su + (42)) (by omega) (by omega) ?_
          exact kk _ _ _ _ _ S hw ⟨_, _, _, _, _, rfl, hG, hm, hdA, hdB⟩ (lv_sub hl [2, 3, 4, 5, 6] rfl) (Nat.le_refl _)
set_option maxHeartbeats 8000000 in
set_option maxRecDepth 100000 in
theorem k_22 {p : Program} {l : Launch} {e : Env} {R : Room} {s : State} {m : MethodId} {args : Array Value} {below : List Frame} {meth : Method} {c : Code} {Q : State → Prop} {G : xG} {b L : Nat} {xs : Nat → Int32} {nm : String} (hst : l.stackTraces = false) (hRf : R.frames = 2048) {C9 S9 : Nat} (hRc : R.cells = C9) (hRs : R.slots = S9) (hC9 : 513000 ≤ C9) (hS9 : 6932000 ≤ S9) (hRl : R.locals = 84000) (hC : xB p s m args meth c cL_law 7 "RangeledgerLaw" nm wsL_law (some .boolean) G (xA (fun _ => none) s.heap.size)) (hX : va_X b L xs s s.heap) (hbl : b < s.heap.size) (hL : L ≤ 3072) {h0 a o : Nat} {N : Int} (hN : N ≤ 590) {s9 : ST} {S : Nat → Bool} {M : HM} {H : Heap} {locs : List Loc} {ls : Array Slot} {i : Int} {cu su : Nat} (hw : xD G (xA (fun _ => none) s.heap.size) s M H locs) (hS : LwS G M h0 a o N s9 S) (hl : lv_has ls 7 [(0, .ref b), (1, .ref h0), (2, .ref a), (3, .ref o), (4, .int (iN (i)))]) (hi : 0 ≤ i ∧ i + 6 ≤ L) (hcu : cu + 1000 ≤ C9) (hsu : su + 15590 ≤ S9) (kk : ∀ (M1 : HM) (H1 : Heap) (locs1 : List Loc) (ls1 : Array Slot) (s1 : ST) (S1 : Nat → Bool), xD G (xA (fun _ => none) s.heap.size) s M1 H1 locs1 → LwS G M1 h0 a o (N + 1) s1 S1 → lv_has ls1 7 [(0, .ref b), (1, .ref h0), (2, .ref a), (3, .ref o), (4, .int (iN (i)))] → mC S1 100 ≤ mC S 100 + 0 → W p l e R s m args below meth c H1 locs1 (cu + 1) (su + (6)) Q (F0 m 2584 ls1 [])) : W p l e R s m args below meth c H locs cu su Q (F0 m 1489 ls []) := by
  obtain ⟨A, B, d, sv, th0, hM, hG, hm, hdA, hdB⟩ := hS
  subst hM
  obtain ⟨O, V, Wv, K, kp, kv, rfd⟩ := s9
  have hbA : ¬ (xA (fun _ => none) s.heap.size) b := fun h9 => h9.elim (fun h8 => h8 rfl) (fun h8 => by omega)
  refine lv_aload_n hC.1 hC.2.1 dL_law_1489 rfl (lv_at hl 1 rfl) ?_
  refine lv_aload_n hC.1 hC.2.1 dL_law_1490 rfl (lv_at hl 0 rfl) ?_
  refine lv_iload hC.1 hC.2.1 dL_law_1491 (lv_at hl 4 rfl) ?_
  refine x_const hC dL_law_1493 ?_
  refine x_iadd hC dL_law_1494 ?_
  refine x_sld hC hw hX hbl hbA (by omega) (by omega) (by omega) dL_law_1495 ?_
  obtain ⟨z_1, hz_1⟩ : ∃ z : Int, z = (xs (i + 1).toNat).toInt := ⟨_, rfl⟩
  rw [← hz_1]
  have hrz_1 : -2147483648 ≤ z_1 ∧ z_1 ≤ 2147483647 := by rw [hz_1]; exact iN_rng _
  refine lv_aload_n hC.1 hC.2.1 dL_law_1496 rfl (lv_at hl 3 rfl) ?_
  refine x_callSW hC hw (lv_size hl) ((c_L_shut l G hst hG hN hdA (p0 := z_1) (by omega)).frame hdB) gL_law_L_shut rfl dv_L_shut_s rfl (Nat.le_of_ble_eq_true rfl) (by rw [hRf]; decide) (by rw [hRl]; decide) (by first | (rw [hRc]; decide) | omega) (by first | (rw [hRs]; decide) | omega) dL_law_1497 (fun r9 M1 H locs hq hw => ?_)
  obtain ⟨Ck_2, ⟨zk_2, hrk_2, Ak_2, dk_2, svk_2, hCk_2, hdA, hw9⟩, hMk_2, hdB⟩ := hq
  subst hrk_2
  subst hCk_2
  subst hMk_2
  have hzrk_2 : 0 ≤ zk_2 ∧ zk_2 ≤ 3 := by rcases hw9 with ⟨h1, _⟩ | ⟨h1, h2, _⟩; (· omega); (· omega)
  show W p l e R s m args below meth c H locs _ _ _ (F0 m 1500 ls [.int (iN (zk_2))])
  refine lv_istore (lv' := [(5, .int (iN (zk_2))), (0, .ref b), (1, .ref h0), (2, .ref a), (3, .ref o), (4, .int (iN (i)))]) hC.1 hC.2.1 dL_law_1500 hl (by decide) rfl (fun ls hl => ?_)
  refine lv_aload_n hC.1 hC.2.1 dL_law_1502 rfl (lv_at hl 3 rfl) ?_
  refine lv_aload_n hC.1 hC.2.1 dL_law_1503 rfl (lv_at hl 1 rfl) ?_
  refine lv_iload hC.1 hC.2.1 dL_law_1504 (lv_at hl 5 rfl) ?_
  refine x_const hC dL_law_1506 ?_
  refine x_iadd hC dL_law_1507 ?_
  refine x_sld hC hw hX hbl hbA (by omega) (by omega) (by omega) dL_law_1508 ?_
  rw [← hz_1]
  rw [xU_comm hdB] at hw
  obtain ⟨va, oa, wa, ya, wk, br, re, la, ha, qv, qw, fa, fb, fy, wt, hR, hK⟩ := hm
  replace hR : MGx G B a va oa wa ya wk th0 rfd br re la ha kp kv qv qw fa fb V O fy Wv wt S := hR
  replace hK : abM O wt br re la ha K := hK
  refine x_callV hC hw (lv_size hl) ((c_X5_shut l G hR hK (p0 := z_1) (by omega)).frame hdB.symm) gL_law_X5_shut rfl dv_X5_shut (xU_l hR.1.1) rfl rfl (Nat.le_of_ble_eq_true rfl) (by rw [hRf]; decide) (by rw [hRl]; decide) (by first | (rw [hRc]; decide) | omega) (by first | (rw [hRs]; decide) | omega) dL_law_1509 (fun r9 M1 H locs hq hw => ?_)
  obtain ⟨Bk_3, ⟨zk_3, thk_3, hrk_3, hzk_3, hv9⟩, hMk_3, hdB9⟩ := hq
  subst hrk_3
  subst hMk_3
  have hdB := hdB9.symm
  rw [xU_comm hdB9] at hw
  obtain ⟨s1, hG, hm, hkt, hthr, hans⟩ : ∃ s1 : ST, RG G Ak_2 h0 (N + 1) s1 ∧ MGm G Bk_3 a S thk_3 s1 ∧ zk_2 = thk_3 ∧ (0 ≤ thk_3 ∧ thk_3 ≤ 3) ∧ (zk_2 = 0 → dk_2 = (iN zk_3).toInt64) := by
    rcases hw9 with ⟨h1, h2, ⟨z8, h3, h4, h5⟩, h6⟩ | ⟨h1, h2, h6⟩
    · rcases hv9 with ⟨g1, g2, g4, g5⟩ | ⟨g1, g2, g5⟩
      · exact ⟨_, h6, g5, by omega, by omega, fun _ => (show dk_2 = (iN zk_3).toInt64 by rw [h3, h5, g4])⟩
      · exfalso; omega
    · rcases hv9 with ⟨g1, g2, g4, g5⟩ | ⟨g1, g2, g5⟩
      · exfalso; omega
      · exact ⟨_, h6, g5, by omega, by omega, fun q9 => absurd q9 h1⟩
  clear hw9 hv9
  show W p l e R s m args below meth c H locs _ _ _ (F0 m 1512 ls [.int (iN (zk_3))])
  refine lv_istore (lv' := [(6, .int (iN (zk_3))), (5, .int (iN (zk_2))), (0, .ref b), (1, .ref h0), (2, .ref a), (3, .ref o), (4, .int (iN (i)))]) hC.1 hC.2.1 dL_law_1512 hl (by decide) rfl (fun ls hl => ?_)
  refine lv_goto (tgt := 2584) hC.1 hC.2.1 dL_law_1514 (by decide) ?_
  refine W.widen (k := cu + 1) (n := su + (6)) (by omega) (by omega) ?_
  exact kk _ _ _ _ _ S hw ⟨_, _, _, _, _, rfl, hG, hm, hdA, hdB⟩ (lv_sub hl [2, 3, 4, 5, 6] rfl) (Nat.le_refl _)
set_option maxHeartbeats 8000000 in
set_option maxRecDepth 100000 in
theorem k_23 {p : Program} {l : Launch} {e : Env} {R : Room} {s : State} {m : MethodId} {args : Array Value} {below : List Frame} {meth : Method} {c : Code} {Q : State → Prop} {G : xG} {b L : Nat} {xs : Nat → Int32} {nm : String} (hst : l.stackTraces = false) (hRf : R.frames = 2048) {C9 S9 : Nat} (hRc : R.cells = C9) (hRs : R.slots = S9) (hC9 : 513000 ≤ C9) (hS9 : 6932000 ≤ S9) (hRl : R.locals = 84000) (hC : xB p s m args meth c cL_law 7 "RangeledgerLaw" nm wsL_law (some .boolean) G (xA (fun _ => none) s.heap.size)) (hX : va_X b L xs s s.heap) (hbl : b < s.heap.size) (hL : L ≤ 3072) {h0 a o : Nat} {N : Int} (hN : N ≤ 590) {s9 : ST} {S : Nat → Bool} {M : HM} {H : Heap} {locs : List Loc} {ls : Array Slot} {i : Int} {cu su : Nat} (hw : xD G (xA (fun _ => none) s.heap.size) s M H locs) (hS : LwS G M h0 a o N s9 S) (hl : lv_has ls 7 [(0, .ref b), (1, .ref h0), (2, .ref a), (3, .ref o), (4, .int (iN (i)))]) (hi : 0 ≤ i ∧ i + 6 ≤ L) (hcu : cu + 1000 ≤ C9) (hsu : su + 15590 ≤ S9) (kk : ∀ (M1 : HM) (H1 : Heap) (locs1 : List Loc) (ls1 : Array Slot) (s1 : ST) (S1 : Nat → Bool), xD G (xA (fun _ => none) s.heap.size) s M1 H1 locs1 → LwS G M1 h0 a o (N + 1) s1 S1 → lv_has ls1 7 [(0, .ref b), (1, .ref h0), (2, .ref a), (3, .ref o), (4, .int (iN (i)))] → mC S1 100 ≤ mC S 100 + 1 → W p l e R s m args below meth c H1 locs1 (cu + 3) (su + (18)) Q (F0 m 2584 ls1 [])) : W p l e R s m args below meth c H locs cu su Q (F0 m 1517 ls []) := by
  obtain ⟨A, B, d, sv, th0, hM, hG, hm, hdA, hdB⟩ := hS
  subst hM
  obtain ⟨O, V, Wv, K, kp, kv, rfd⟩ := s9
  have hbA : ¬ (xA (fun _ => none) s.heap.size) b := fun h9 => h9.elim (fun h8 => h8 rfl) (fun h8 => by omega)
  refine lv_aload_n hC.1 hC.2.1 dL_law_1517 rfl (lv_at hl 1 rfl) ?_
  refine lv_aload_n hC.1 hC.2.1 dL_law_1518 rfl (lv_at hl 0 rfl) ?_
  refine lv_iload hC.1 hC.2.1 dL_law_1519 (lv_at hl 4 rfl) ?_
  refine x_const hC dL_law_1521 ?_
  refine x_iadd hC dL_law_1522 ?_
  refine x_sld hC hw hX hbl hbA (by omega) (by omega) (by omega) dL_law_1523 ?_
  obtain ⟨z_1, hz_1⟩ : ∃ z : Int, z = (xs (i + 1).toNat).toInt := ⟨_, rfl⟩
  rw [← hz_1]
  have hrz_1 : -2147483648 ≤ z_1 ∧ z_1 ≤ 2147483647 := by rw [hz_1]; exact iN_rng _
  refine lv_aload_n hC.1 hC.2.1 dL_law_1524 rfl (lv_at hl 0 rfl) ?_
  refine lv_iload hC.1 hC.2.1 dL_law_1525 (lv_at hl 4 rfl) ?_
  refine x_const hC dL_law_1527 ?_
  refine x_iadd hC dL_law_1528 ?_
  refine x_sld hC hw hX hbl hbA (by omega) (by omega) (by omega) dL_law_1529 ?_
  obtain ⟨z_2, hz_2⟩ : ∃ z : Int, z = (xs (i + 2).toNat).toInt := ⟨_, rfl⟩
  rw [← hz_2]
  have hrz_2 : -2147483648 ≤ z_2 ∧ z_2 ≤ 2147483647 := by rw [hz_2]; exact iN_rng _
  refine lv_aload_n hC.1 hC.2.1 dL_law_1530 rfl (lv_at hl 0 rfl) ?_
  refine lv_iload hC.1 hC.2.1 dL_law_1531 (lv_at hl 4 rfl) ?_
  refine x_const hC dL_law_1533 ?_
  refine x_iadd hC dL_law_1534 ?_
  refine x_sld hC hw hX hbl hbA (by omega) (by omega) (by omega) dL_law_1535 ?_
  obtain ⟨z_3, hz_3⟩ : ∃ z : Int, z = (xs (i + 3).toNat).toInt := ⟨_, rfl⟩
  rw [← hz_3]
  have hrz_3 : -2147483648 ≤ z_3 ∧ z_3 ≤ 2147483647 := by rw [hz_3]; exact iN_rng _
  refine lv_aload_n hC.1 hC.2.1 dL_law_1536 rfl (lv_at hl 3 rfl) ?_
  refine x_callSW hC hw (lv_size hl) ((c_L_viewPut l G hst hG hN hdA (p0 := z_1) (by omega) (p1 := z_2) (by omega) (p2 := z_3) (by omega)).frame hdB) gL_law_L_viewPut rfl dv_L_viewPut_s rfl (Nat.le_of_ble_eq_true rfl) (by rw [hRf]; decide) (by rw [hRl]; decide) (by first | (rw [hRc]; decide) | omega) (by first | (rw [hRs]; decide) | omega) dL_law_1537 (fun r9 M1 H locs hq hw => ?_)
  obtain ⟨Ck_4, ⟨zk_4, hrk_4, Ak_4, dk_4, svk_4, hCk_4, hdA, hw9⟩, hMk_4, hdB⟩ := hq
  subst hrk_4
  subst hCk_4
  subst hMk_4
  have hzrk_4 : 0 ≤ zk_4 ∧ zk_4 ≤ 3 := by rcases hw9 with ⟨h1, _⟩ | ⟨h1, h2, _⟩; (· omega); (· omega)
  show W p l e R s m args below meth c H locs _ _ _ (F0 m 1540 ls [.int (iN (zk_4))])
  refine lv_istore (lv' := [(5, .int (iN (zk_4))), (0, .ref b), (1, .ref h0), (2, .ref a), (3, .ref o), (4, .int (iN (i)))]) hC.1 hC.2.1 dL_law_1540 hl (by decide) rfl (fun ls hl => ?_)
  refine lv_aload_n hC.1 hC.2.1 dL_law_1542 rfl (lv_at hl 3 rfl) ?_
  refine lv_aload_n hC.1 hC.2.1 dL_law_1543 rfl (lv_at hl 1 rfl) ?_
  refine lv_iload hC.1 hC.2.1 dL_law_1544 (lv_at hl 5 rfl) ?_
  refine x_const hC dL_law_1546 ?_
  refine x_iadd hC dL_law_1547 ?_
  refine x_sld hC hw hX hbl hbA (by omega) (by omega) (by omega) dL_law_1548 ?_
  rw [← hz_1]
  refine lv_aload_n hC.1 hC.2.1 dL_law_1549 rfl (lv_at hl 1 rfl) ?_
  refine lv_iload hC.1 hC.2.1 dL_law_1550 (lv_at hl 5 rfl) ?_
  refine x_const hC dL_law_1552 ?_
  refine x_iadd hC dL_law_1553 ?_
  refine x_sld hC hw hX hbl hbA (by omega) (by omega) (by omega) dL_law_1554 ?_
  rw [← hz_2]
  refine lv_aload_n hC.1 hC.2.1 dL_law_1555 rfl (lv_at hl 1 rfl) ?_
  refine lv_iload hC.1 hC.2.1 dL_law_1556 (lv_at hl 5 rfl) ?_
  refine x_const hC dL_law_1558 ?_
  refine x_iadd hC dL_law_1559 ?_
  refine x_sld hC hw hX hbl hbA (by omega) (by omega) (by omega) dL_law_1560 ?_
  rw [← hz_3]
  rw [xU_comm hdB] at hw
  have hm := hm.add (z_2).toNat
  obtain ⟨va, oa, wa, ya, wk, br, re, la, ha, qv, qw, fa, fb, fy, wt, hR, hK⟩ := hm
  replace hR : MGx G B a va oa wa ya wk th0 rfd br re la ha kp kv qv qw fa fb V O fy Wv wt (sAdd S (z_2).toNat) := hR
  replace hK : abM O wt br re la ha K := hK
  refine x_callV hC hw (lv_size hl) ((c_X5_viewPut l G hR hK (p0 := z_1) (by omega) (p1 := z_2) (by omega) (p2 := z_3) (by omega) (fun _ => by simp [sAdd])).frame hdB.symm) gL_law_X5_viewPut rfl dv_X5_viewPut (xU_l hR.1.1) rfl rfl (Nat.le_of_ble_eq_true rfl) (by rw [hRf]; decide) (by rw [hRl]; decide) (by first | (rw [hRc]; decide) | omega) (by first | (rw [hRs]; decide) | omega) dL_law_1561 (fun r9 M1 H locs hq hw => ?_)
  obtain ⟨Bk_5, ⟨zk_5, thk_5, hrk_5, hzk_5, hv9⟩, hMk_5, hdB9⟩ := hq
  subst hrk_5
  subst hMk_5
  have hdB := hdB9.symm
  rw [xU_comm hdB9] at hw
  obtain ⟨s1, hG, hm, hkt, hthr, hans⟩ : ∃ s1 : ST, RG G Ak_4 h0 (N + 1) s1 ∧ MGm G Bk_5 a (sAdd S (z_2).toNat) thk_5 s1 ∧ zk_4 = thk_5 ∧ (0 ≤ thk_5 ∧ thk_5 ≤ 3) ∧ (zk_4 = 0 → dk_4 = (iN zk_5).toInt64) := by
    rcases hw9 with ⟨h1, h2, ⟨z8, h3, h4, h5⟩, h6⟩ | ⟨h1, h2, h6⟩
    · rcases hv9 with ⟨g1, g2, g4, g5⟩ | ⟨g1, g2, g5⟩
      · exact ⟨_, h6, g5, by omega, by omega, fun _ => (show dk_4 = (iN zk_5).toInt64 by rw [h3, h5, g4])⟩
      · exfalso; omega
    · rcases hv9 with ⟨g1, g2, g4, g5⟩ | ⟨g1, g2, g5⟩
      · exfalso; omega
      · exact ⟨_, h6, g5, by omega, by omega, fun q9 => absurd q9 h1⟩
  clear hw9 hv9
  show W p l e R s m args below meth c H locs _ _ _ (F0 m 1564 ls [.int (iN (zk_5))])
  refine lv_istore (lv' := [(6, .int (iN (zk_5))), (5, .int (iN (zk_4))), (0, .ref b), (1, .ref h0), (2, .ref a), (3, .ref o), (4, .int (iN (i)))]) hC.1 hC.2.1 dL_law_1564 hl (by decide) rfl (fun ls hl => ?_)
  refine lv_goto (tgt := 2584) hC.1 hC.2.1 dL_law_1566 (by decide) ?_
  refine W.widen (k := cu + 3) (n := su + (18)) (by omega) (by omega) ?_
  exact kk _ _ _ _ _ (sAdd S (z_2).toNat) hw ⟨_, _, _, _, _, rfl, hG, hm, hdA, hdB⟩ (lv_sub hl [2, 3, 4, 5, 6] rfl) (mC_add1 _ _)
set_option maxHeartbeats 8000000 in
set_option maxRecDepth 100000 in
theorem k_24 {p : Program} {l : Launch} {e : Env} {R : Room} {s : State} {m : MethodId} {args : Array Value} {below : List Frame} {meth : Method} {c : Code} {Q : State → Prop} {G : xG} {b L : Nat} {xs : Nat → Int32} {nm : String} (hst : l.stackTraces = false) (hRf : R.frames = 2048) {C9 S9 : Nat} (hRc : R.cells = C9) (hRs : R.slots = S9) (hC9 : 513000 ≤ C9) (hS9 : 6932000 ≤ S9) (hRl : R.locals = 84000) (hC : xB p s m args meth c cL_law 7 "RangeledgerLaw" nm wsL_law (some .boolean) G (xA (fun _ => none) s.heap.size)) (hX : va_X b L xs s s.heap) (hbl : b < s.heap.size) (hL : L ≤ 3072) {h0 a o : Nat} {N : Int} (hN : N ≤ 590) {s9 : ST} {S : Nat → Bool} {M : HM} {H : Heap} {locs : List Loc} {ls : Array Slot} {i : Int} {cu su : Nat} (hw : xD G (xA (fun _ => none) s.heap.size) s M H locs) (hS : LwS G M h0 a o N s9 S) (hl : lv_has ls 7 [(0, .ref b), (1, .ref h0), (2, .ref a), (3, .ref o), (4, .int (iN (i)))]) (hi : 0 ≤ i ∧ i + 6 ≤ L) (hcu : cu + 1000 ≤ C9) (hsu : su + 15590 ≤ S9) (kk : ∀ (M1 : HM) (H1 : Heap) (locs1 : List Loc) (ls1 : Array Slot) (s1 : ST) (S1 : Nat → Bool), xD G (xA (fun _ => none) s.heap.size) s M1 H1 locs1 → LwS G M1 h0 a o (N + 1) s1 S1 → lv_has ls1 7 [(0, .ref b), (1, .ref h0), (2, .ref a), (3, .ref o), (4, .int (iN (i)))] → mC S1 100 ≤ mC S 100 + 0 → W p l e R s m args below meth c H1 locs1 (cu + 2) (su + (12)) Q (F0 m 2584 ls1 [])) : W p l e R s m args below meth c H locs cu su Q (F0 m 1569 ls []) := by
  obtain ⟨A, B, d, sv, th0, hM, hG, hm, hdA, hdB⟩ := hS
  subst hM
  obtain ⟨O, V, Wv, K, kp, kv, rfd⟩ := s9
  have hbA : ¬ (xA (fun _ => none) s.heap.size) b := fun h9 => h9.elim (fun h8 => h8 rfl) (fun h8 => by omega)
  refine lv_aload_n hC.1 hC.2.1 dL_law_1569 rfl (lv_at hl 1 rfl) ?_
  refine lv_aload_n hC.1 hC.2.1 dL_law_1570 rfl (lv_at hl 0 rfl) ?_
  refine lv_iload hC.1 hC.2.1 dL_law_1571 (lv_at hl 4 rfl) ?_
  refine x_const hC dL_law_1573 ?_
  refine x_iadd hC dL_law_1574 ?_
  refine x_sld hC hw hX hbl hbA (by omega) (by omega) (by omega) dL_law_1575 ?_
  obtain ⟨z_1, hz_1⟩ : ∃ z : Int, z = (xs (i + 1).toNat).toInt := ⟨_, rfl⟩
  rw [← hz_1]
  have hrz_1 : -2147483648 ≤ z_1 ∧ z_1 ≤ 2147483647 := by rw [hz_1]; exact iN_rng _
  refine lv_aload_n hC.1 hC.2.1 dL_law_1576 rfl (lv_at hl 0 rfl) ?_
  refine lv_iload hC.1 hC.2.1 dL_law_1577 (lv_at hl 4 rfl) ?_
  refine x_const hC dL_law_1579 ?_
  refine x_iadd hC dL_law_1580 ?_
  refine x_sld hC hw hX hbl hbA (by omega) (by omega) (by omega) dL_law_1581 ?_
  obtain ⟨z_2, hz_2⟩ : ∃ z : Int, z = (xs (i + 2).toNat).toInt := ⟨_, rfl⟩
  rw [← hz_2]
  have hrz_2 : -2147483648 ≤ z_2 ∧ z_2 ≤ 2147483647 := by rw [hz_2]; exact iN_rng _
  refine lv_aload_n hC.1 hC.2.1 dL_law_1582 rfl (lv_at hl 3 rfl) ?_
  refine x_callSW hC hw (lv_size hl) ((c_L_viewStrike l G hst hG hN hdA (p0 := z_1) (by omega) (p1 := z_2) (by omega)).frame hdB) gL_law_L_viewStrike rfl dv_L_viewStrike_s rfl (Nat.le_of_ble_eq_true rfl) (by rw [hRf]; decide) (by rw [hRl]; decide) (by first | (rw [hRc]; decide) | omega) (by first | (rw [hRs]; decide) | omega) dL_law_1583 (fun r9 M1 H locs hq hw => ?_)
  obtain ⟨Ck_3, ⟨zk_3, hrk_3, Ak_3, dk_3, svk_3, hCk_3, hdA, hw9⟩, hMk_3, hdB⟩ := hq
  subst hrk_3
  subst hCk_3
  subst hMk_3
  have hzrk_3 : 0 ≤ zk_3 ∧ zk_3 ≤ 3 := by rcases hw9 with ⟨h1, _⟩ | ⟨h1, h2, _⟩; (· omega); (· omega)
  show W p l e R s m args below meth c H locs _ _ _ (F0 m 1586 ls [.int (iN (zk_3))])
  refine lv_istore (lv' := [(5, .int (iN (zk_3))), (0, .ref b), (1, .ref h0), (2, .ref a), (3, .ref o), (4, .int (iN (i)))]) hC.1 hC.2.1 dL_law_1586 hl (by decide) rfl (fun ls hl => ?_)
  refine lv_aload_n hC.1 hC.2.1 dL_law_1588 rfl (lv_at hl 3 rfl) ?_
  refine lv_aload_n hC.1 hC.2.1 dL_law_1589 rfl (lv_at hl 1 rfl) ?_
  refine lv_iload hC.1 hC.2.1 dL_law_1590 (lv_at hl 5 rfl) ?_
  refine x_const hC dL_law_1592 ?_
  refine x_iadd hC dL_law_1593 ?_
  refine x_sld hC hw hX hbl hbA (by omega) (by omega) (by omega) dL_law_1594 ?_
  rw [← hz_1]
  refine lv_aload_n hC.1 hC.2.1 dL_law_1595 rfl (lv_at hl 1 rfl) ?_
  refine lv_iload hC.1 hC.2.1 dL_law_1596 (lv_at hl 5 rfl) ?_
  refine x_const hC dL_law_1598 ?_
  refine x_iadd hC dL_law_1599 ?_
  refine x_sld hC hw hX hbl hbA (by omega) (by omega) (by omega) dL_law_1600 ?_
  rw [← hz_2]
  rw [xU_comm hdB] at hw
  obtain ⟨va, oa, wa, ya, wk, br, re, la, ha, qv, qw, fa, fb, fy, wt, hR, hK⟩ := hm
  replace hR : MGx G B a va oa wa ya wk th0 rfd br re la ha kp kv qv qw fa fb V O fy Wv wt S := hR
  replace hK : abM O wt br re la ha K := hK
  refine x_callV hC hw (lv_size hl) ((c_X5_viewStrike l G hR hK (p0 := z_1) (by omega) (p1 := z_2) (by omega)).frame hdB.symm) gL_law_X5_viewStrike rfl dv_X5_viewStrike (xU_l hR.1.1) rfl rfl (Nat.le_of_ble_eq_true rfl) (by rw [hRf]; decide) (by rw [hRl]; decide) (by first | (rw [hRc]; decide) | omega) (by first | (rw [hRs]; decide) | omega) dL_law_1601 (fun r9 M1 H locs hq hw => ?_)
  obtain ⟨Bk_4, ⟨zk_4, thk_4, hrk_4, hzk_4, hv9⟩, hMk_4, hdB9⟩ := hq
  subst hrk_4
  subst hMk_4
  have hdB := hdB9.symm
  rw [xU_comm hdB9] at hw
  obtain ⟨s1, hG, hm, hkt, hthr, hans⟩ : ∃ s1 : ST, RG G Ak_3 h0 (N + 1) s1 ∧ MGm G Bk_4 a S thk_4 s1 ∧ zk_3 = thk_4 ∧ (0 ≤ thk_4 ∧ thk_4 ≤ 3) ∧ (zk_3 = 0 → dk_3 = (iN zk_4).toInt64) := by
    rcases hw9 with ⟨h1, h2, ⟨z8, h3, h4, h5⟩, h6⟩ | ⟨h1, h2, h6⟩
    · rcases hv9 with ⟨g1, g2, g4, g5⟩ | ⟨g1, g2, g5⟩
      · exact ⟨_, h6, g5, by omega, by omega, fun _ => (show dk_3 = (iN zk_4).toInt64 by rw [h3, h5, g4])⟩
      · exfalso; omega
    · rcases hv9 with ⟨g1, g2, g4, g5⟩ | ⟨g1, g2, g5⟩
      · exfalso; omega
      · exact ⟨_, h6, g5, by omega, by omega, fun q9 => absurd q9 h1⟩
  clear hw9 hv9
  show W p l e R s m args below meth c H locs _ _ _ (F0 m 1604 ls [.int (iN (zk_4))])
  refine lv_istore (lv' := [(6, .int (iN (zk_4))), (5, .int (iN (zk_3))), (0, .ref b), (1, .ref h0), (2, .ref a), (3, .ref o), (4, .int (iN (i)))]) hC.1 hC.2.1 dL_law_1604 hl (by decide) rfl (fun ls hl => ?_)
  refine lv_goto (tgt := 2584) hC.1 hC.2.1 dL_law_1606 (by decide) ?_
  refine W.widen (k := cu + 2) (n := su + (12)) (by omega) (by omega) ?_
  exact kk _ _ _ _ _ S hw ⟨_, _, _, _, _, rfl, hG, hm, hdA, hdB⟩ (lv_sub hl [2, 3, 4, 5, 6] rfl) (Nat.le_refl _)
set_option maxHeartbeats 8000000 in
set_option maxRecDepth 100000 in
theorem k_25 {p : Program} {l : Launch} {e : Env} {R : Room} {s : State} {m : MethodId} {args : Array Value} {below : List Frame} {meth : Method} {c : Code} {Q : State → Prop} {G : xG} {b L : Nat} {xs : Nat → Int32} {nm : String} (hst : l.stackTraces = false) (hRf : R.frames = 2048) {C9 S9 : Nat} (hRc : R.cells = C9) (hRs : R.slots = S9) (hC9 : 513000 ≤ C9) (hS9 : 6932000 ≤ S9) (hRl : R.locals = 84000) (hC : xB p s m args meth c cL_law 7 "RangeledgerLaw" nm wsL_law (some .boolean) G (xA (fun _ => none) s.heap.size)) (hX : va_X b L xs s s.heap) (hbl : b < s.heap.size) (hL : L ≤ 3072) {h0 a o : Nat} {N : Int} (hN : N ≤ 590) {s9 : ST} {S : Nat → Bool} {M : HM} {H : Heap} {locs : List Loc} {ls : Array Slot} {i : Int} {cu su : Nat} (hw : xD G (xA (fun _ => none) s.heap.size) s M H locs) (hS : LwS G M h0 a o N s9 S) (hl : lv_has ls 7 [(0, .ref b), (1, .ref h0), (2, .ref a), (3, .ref o), (4, .int (iN (i)))]) (hi : 0 ≤ i ∧ i + 6 ≤ L) (hcu : cu + 1000 ≤ C9) (hsu : su + 15590 ≤ S9) (kk : ∀ (M1 : HM) (H1 : Heap) (locs1 : List Loc) (ls1 : Array Slot) (s1 : ST) (S1 : Nat → Bool), xD G (xA (fun _ => none) s.heap.size) s M1 H1 locs1 → LwS G M1 h0 a o (N + 1) s1 S1 → lv_has ls1 7 [(0, .ref b), (1, .ref h0), (2, .ref a), (3, .ref o), (4, .int (iN (i)))] → mC S1 100 ≤ mC S 100 + 1 → W p l e R s m args below meth c H1 locs1 (cu + 3) (su + (18)) Q (F0 m 2584 ls1 [])) : W p l e R s m args below meth c H locs cu su Q (F0 m 1609 ls []) := by
  obtain ⟨A, B, d, sv, th0, hM, hG, hm, hdA, hdB⟩ := hS
  subst hM
  obtain ⟨O, V, Wv, K, kp, kv, rfd⟩ := s9
  have hbA : ¬ (xA (fun _ => none) s.heap.size) b := fun h9 => h9.elim (fun h8 => h8 rfl) (fun h8 => by omega)
  refine lv_aload_n hC.1 hC.2.1 dL_law_1609 rfl (lv_at hl 1 rfl) ?_
  refine lv_aload_n hC.1 hC.2.1 dL_law_1610 rfl (lv_at hl 0 rfl) ?_
  refine lv_iload hC.1 hC.2.1 dL_law_1611 (lv_at hl 4 rfl) ?_
  refine x_const hC dL_law_1613 ?_
  refine x_iadd hC dL_law_1614 ?_
  refine x_sld hC hw hX hbl hbA (by omega) (by omega) (by omega) dL_law_1615 ?_
  obtain ⟨z_1, hz_1⟩ : ∃ z : Int, z = (xs (i + 1).toNat).toInt := ⟨_, rfl⟩
  rw [← hz_1]
  have hrz_1 : -2147483648 ≤ z_1 ∧ z_1 ≤ 2147483647 := by rw [hz_1]; exact iN_rng _
  refine lv_aload_n hC.1 hC.2.1 dL_law_1616 rfl (lv_at hl 0 rfl) ?_
  refine lv_iload hC.1 hC.2.1 dL_law_1617 (lv_at hl 4 rfl) ?_
  refine x_const hC dL_law_1619 ?_
  refine x_iadd hC dL_law_1620 ?_
  refine x_sld hC hw hX hbl hbA (by omega) (by omega) (by omega) dL_law_1621 ?_
  obtain ⟨z_2, hz_2⟩ : ∃ z : Int, z = (xs (i + 2).toNat).toInt := ⟨_, rfl⟩
  rw [← hz_2]
  have hrz_2 : -2147483648 ≤ z_2 ∧ z_2 ≤ 2147483647 := by rw [hz_2]; exact iN_rng _
  refine lv_aload_n hC.1 hC.2.1 dL_law_1622 rfl (lv_at hl 0 rfl) ?_
  refine lv_iload hC.1 hC.2.1 dL_law_1623 (lv_at hl 4 rfl) ?_
  refine x_const hC dL_law_1625 ?_
  refine x_iadd hC dL_law_1626 ?_
  refine x_sld hC hw hX hbl hbA (by omega) (by omega) (by omega) dL_law_1627 ?_
  obtain ⟨z_3, hz_3⟩ : ∃ z : Int, z = (xs (i + 3).toNat).toInt := ⟨_, rfl⟩
  rw [← hz_3]
  have hrz_3 : -2147483648 ≤ z_3 ∧ z_3 ≤ 2147483647 := by rw [hz_3]; exact iN_rng _
  refine lv_aload_n hC.1 hC.2.1 dL_law_1628 rfl (lv_at hl 3 rfl) ?_
  refine x_callSW hC hw (lv_size hl) ((c_L_viewMerge l G hst hG hN hdA (p0 := z_1) (by omega) (p1 := z_2) (by omega) (p2 := z_3) (by omega)).frame hdB) gL_law_L_viewMerge rfl dv_L_viewMerge_s rfl (Nat.le_of_ble_eq_true rfl) (by rw [hRf]; decide) (by rw [hRl]; decide) (by first | (rw [hRc]; decide) | omega) (by first | (rw [hRs]; decide) | omega) dL_law_1629 (fun r9 M1 H locs hq hw => ?_)
  obtain ⟨Ck_4, ⟨zk_4, hrk_4, Ak_4, dk_4, svk_4, hCk_4, hdA, hw9⟩, hMk_4, hdB⟩ := hq
  subst hrk_4
  subst hCk_4
  subst hMk_4
  have hzrk_4 : 0 ≤ zk_4 ∧ zk_4 ≤ 3 := by rcases hw9 with ⟨h1, _⟩ | ⟨h1, h2, _⟩; (· omega); (· omega)
  show W p l e R s m args below meth c H locs _ _ _ (F0 m 1632 ls [.int (iN (zk_4))])
  refine lv_istore (lv' := [(5, .int (iN (zk_4))), (0, .ref b), (1, .ref h0), (2, .ref a), (3, .ref o), (4, .int (iN (i)))]) hC.1 hC.2.1 dL_law_1632 hl (by decide) rfl (fun ls hl => ?_)
  refine lv_aload_n hC.1 hC.2.1 dL_law_1634 rfl (lv_at hl 3 rfl) ?_
  refine lv_aload_n hC.1 hC.2.1 dL_law_1635 rfl (lv_at hl 1 rfl) ?_
  refine lv_iload hC.1 hC.2.1 dL_law_1636 (lv_at hl 5 rfl) ?_
  refine x_const hC dL_law_1638 ?_
  refine x_iadd hC dL_law_1639 ?_
  refine x_sld hC hw hX hbl hbA (by omega) (by omega) (by omega) dL_law_1640 ?_
  rw [← hz_1]
  refine lv_aload_n hC.1 hC.2.1 dL_law_1641 rfl (lv_at hl 1 rfl) ?_
  refine lv_iload hC.1 hC.2.1 dL_law_1642 (lv_at hl 5 rfl) ?_
  refine x_const hC dL_law_1644 ?_
  refine x_iadd hC dL_law_1645 ?_
  refine x_sld hC hw hX hbl hbA (by omega) (by omega) (by omega) dL_law_1646 ?_
  rw [← hz_2]
  refine lv_aload_n hC.1 hC.2.1 dL_law_1647 rfl (lv_at hl 1 rfl) ?_
  refine lv_iload hC.1 hC.2.1 dL_law_1648 (lv_at hl 5 rfl) ?_
  refine x_const hC dL_law_1650 ?_
  refine x_iadd hC dL_law_1651 ?_
  refine x_sld hC hw hX hbl hbA (by omega) (by omega) (by omega) dL_law_1652 ?_
  rw [← hz_3]
  rw [xU_comm hdB] at hw
  have hm := hm.add (z_2).toNat
  obtain ⟨va, oa, wa, ya, wk, br, re, la, ha, qv, qw, fa, fb, fy, wt, hR, hK⟩ := hm
  replace hR : MGx G B a va oa wa ya wk th0 rfd br re la ha kp kv qv qw fa fb V O fy Wv wt (sAdd S (z_2).toNat) := hR
  replace hK : abM O wt br re la ha K := hK
  refine x_callV hC hw (lv_size hl) ((c_X5_viewMerge l G hR hK (p0 := z_1) (by omega) (p1 := z_2) (by omega) (p2 := z_3) (by omega) (fun _ => by simp [sAdd])).frame hdB.symm) gL_law_X5_viewMerge rfl dv_X5_viewMerge (xU_l hR.1.1) rfl rfl (Nat.le_of_ble_eq_true rfl) (by rw [hRf]; decide) (by rw [hRl]; decide) (by first | (rw [hRc]; decide) | omega) (by first | (rw [hRs]; decide) | omega) dL_law_1653 (fun r9 M1 H locs hq hw => ?_)
  obtain ⟨Bk_5, ⟨zk_5, thk_5, hrk_5, hzk_5, hv9⟩, hMk_5, hdB9⟩ := hq
  subst hrk_5
  subst hMk_5
  have hdB := hdB9.symm
  rw [xU_comm hdB9] at hw
  obtain ⟨s1, hG, hm, hkt, hthr, hans⟩ : ∃ s1 : ST, RG G Ak_4 h0 (N + 1) s1 ∧ MGm G Bk_5 a (sAdd S (z_2).toNat) thk_5 s1 ∧ zk_4 = thk_5 ∧ (0 ≤ thk_5 ∧ thk_5 ≤ 3) ∧ (zk_4 = 0 → dk_4 = (iN zk_5).toInt64) := by
    rcases hw9 with ⟨h1, h2, ⟨z8, h3, h4, h5⟩, h6⟩ | ⟨h1, h2, h6⟩
    · rcases hv9 with ⟨g1, g2, g4, g5⟩ | ⟨g1, g2, g5⟩
      · exact ⟨_, h6, g5, by omega, by omega, fun _ => (show dk_4 = (iN zk_5).toInt64 by rw [h3, h5, g4])⟩
      · exfalso; omega
    · rcases hv9 with ⟨g1, g2, g4, g5⟩ | ⟨g1, g2, g5⟩
      · exfalso; omega
      · exact ⟨_, h6, g5, by omega, by omega, fun q9 => absurd q9 h1⟩
  clear hw9 hv9
  show W p l e R s m args below meth c H locs _ _ _ (F0 m 1656 ls [.int (iN (zk_5))])
  refine lv_istore (lv' := [(6, .int (iN (zk_5))), (5, .int (iN (zk_4))), (0, .ref b), (1, .ref h0), (2, .ref a), (3, .ref o), (4, .int (iN (i)))]) hC.1 hC.2.1 dL_law_1656 hl (by decide) rfl (fun ls hl => ?_)
  refine lv_goto (tgt := 2584) hC.1 hC.2.1 dL_law_1658 (by decide) ?_
  refine W.widen (k := cu + 3) (n := su + (18)) (by omega) (by omega) ?_
  exact kk _ _ _ _ _ (sAdd S (z_2).toNat) hw ⟨_, _, _, _, _, rfl, hG, hm, hdA, hdB⟩ (lv_sub hl [2, 3, 4, 5, 6] rfl) (mC_add1 _ _)
set_option maxHeartbeats 8000000 in
set_option maxRecDepth 100000 in
theorem k_26 {p : Program} {l : Launch} {e : Env} {R : Room} {s : State} {m : MethodId} {args : Array Value} {below : List Frame} {meth : Method} {c : Code} {Q : State → Prop} {G : xG} {b L : Nat} {xs : Nat → Int32} {nm : String} (hst : l.stackTraces = false) (hRf : R.frames = 2048) {C9 S9 : Nat} (hRc : R.cells = C9) (hRs : R.slots = S9) (hC9 : 513000 ≤ C9) (hS9 : 6932000 ≤ S9) (hRl : R.locals = 84000) (hC : xB p s m args meth c cL_law 7 "RangeledgerLaw" nm wsL_law (some .boolean) G (xA (fun _ => none) s.heap.size)) (hX : va_X b L xs s s.heap) (hbl : b < s.heap.size) (hL : L ≤ 3072) {h0 a o : Nat} {N : Int} (hN : N ≤ 590) {s9 : ST} {S : Nat → Bool} {M : HM} {H : Heap} {locs : List Loc} {ls : Array Slot} {i : Int} {cu su : Nat} (hw : xD G (xA (fun _ => none) s.heap.size) s M H locs) (hS : LwS G M h0 a o N s9 S) (hl : lv_has ls 7 [(0, .ref b), (1, .ref h0), (2, .ref a), (3, .ref o), (4, .int (iN (i)))]) (hi : 0 ≤ i ∧ i + 6 ≤ L) (hcu : cu + 1000 ≤ C9) (hsu : su + 15590 ≤ S9) (kk : ∀ (M1 : HM) (H1 : Heap) (locs1 : List Loc) (ls1 : Array Slot) (s1 : ST) (S1 : Nat → Bool), xD G (xA (fun _ => none) s.heap.size) s M1 H1 locs1 → LwS G M1 h0 a o (N + 1) s1 S1 → lv_has ls1 7 [(0, .ref b), (1, .ref h0), (2, .ref a), (3, .ref o), (4, .int (iN (i)))] → mC S1 100 ≤ mC S 100 + 0 → W p l e R s m args below meth c H1 locs1 (cu + 1) (su + (6)) Q (F0 m 2584 ls1 [])) : W p l e R s m args below meth c H locs cu su Q (F0 m 1661 ls []) := by
  obtain ⟨A, B, d, sv, th0, hM, hG, hm, hdA, hdB⟩ := hS
  subst hM
  obtain ⟨O, V, Wv, K, kp, kv, rfd⟩ := s9
  have hbA : ¬ (xA (fun _ => none) s.heap.size) b := fun h9 => h9.elim (fun h8 => h8 rfl) (fun h8 => by omega)
  refine lv_aload_n hC.1 hC.2.1 dL_law_1661 rfl (lv_at hl 1 rfl) ?_
  refine lv_aload_n hC.1 hC.2.1 dL_law_1662 rfl (lv_at hl 0 rfl) ?_
  refine lv_iload hC.1 hC.2.1 dL_law_1663 (lv_at hl 4 rfl) ?_
  refine x_const hC dL_law_1665 ?_
  refine x_iadd hC dL_law_1666 ?_
  refine x_sld hC hw hX hbl hbA (by omega) (by omega) (by omega) dL_law_1667 ?_
  obtain ⟨z_1, hz_1⟩ : ∃ z : Int, z = (xs (i + 1).toNat).toInt := ⟨_, rfl⟩
  rw [← hz_1]
  have hrz_1 : -2147483648 ≤ z_1 ∧ z_1 ≤ 2147483647 := by rw [hz_1]; exact iN_rng _
  refine lv_aload_n hC.1 hC.2.1 dL_law_1668 rfl (lv_at hl 0 rfl) ?_
  refine lv_iload hC.1 hC.2.1 dL_law_1669 (lv_at hl 4 rfl) ?_
  refine x_const hC dL_law_1671 ?_
  refine x_iadd hC dL_law_1672 ?_
  refine x_sld hC hw hX hbl hbA (by omega) (by omega) (by omega) dL_law_1673 ?_
  obtain ⟨z_2, hz_2⟩ : ∃ z : Int, z = (xs (i + 2).toNat).toInt := ⟨_, rfl⟩
  rw [← hz_2]
  have hrz_2 : -2147483648 ≤ z_2 ∧ z_2 ≤ 2147483647 := by rw [hz_2]; exact iN_rng _
  refine x_if_eq (tgt := 1681) hC ⟨by omega, by omega⟩ dL_law_1674 (by decide) (fun c_3 => ?_) (fun c_3 => ?_)
  · refine x_const hC dL_law_1681 ?_
    refine lv_aload_n hC.1 hC.2.1 dL_law_1682 rfl (lv_at hl 3 rfl) ?_
    refine x_callSW hC hw (lv_size hl) ((c_L_viewPoll l G hst hG hN hdA (p0 := z_1) (by omega) (p1 := 0) (by omega) (by omega)).frame hdB) gL_law_L_viewPoll rfl dv_L_viewPoll_s rfl (Nat.le_of_ble_eq_true rfl) (by rw [hRf]; decide) (by rw [hRl]; decide) (by first | (rw [hRc]; decide) | omega) (by first | (rw [hRs]; decide) | omega) dL_law_1683 (fun r9 M1 H locs hq hw => ?_)
    obtain ⟨Ck_4, ⟨zk_4, hrk_4, Ak_4, dk_4, svk_4, hCk_4, hdA, hw9⟩, hMk_4, hdB⟩ := hq
    subst hrk_4
    subst hCk_4
    subst hMk_4
    have hzrk_4 : 0 ≤ zk_4 ∧ zk_4 ≤ 3 := by rcases hw9 with ⟨h1, _⟩ | ⟨h1, h2, _⟩; (· omega); (· omega)
    show W p l e R s m args below meth c H locs _ _ _ (F0 m 1686 ls [.int (iN (zk_4))])
    refine lv_istore (lv' := [(5, .int (iN (zk_4))), (0, .ref b), (1, .ref h0), (2, .ref a), (3, .ref o), (4, .int (iN (i)))]) hC.1 hC.2.1 dL_law_1686 hl (by decide) rfl (fun ls hl => ?_)
    refine lv_aload_n hC.1 hC.2.1 dL_law_1688 rfl (lv_at hl 3 rfl) ?_
    refine lv_aload_n hC.1 hC.2.1 dL_law_1689 rfl (lv_at hl 1 rfl) ?_
    refine lv_iload hC.1 hC.2.1 dL_law_1690 (lv_at hl 5 rfl) ?_
    refine x_const hC dL_law_1692 ?_
    refine x_iadd hC dL_law_1693 ?_
    refine x_sld hC hw hX hbl hbA (by omega) (by omega) (by omega) dL_law_1694 ?_
    rw [← hz_1]
    refine lv_aload_n hC.1 hC.2.1 dL_law_1695 rfl (lv_at hl 1 rfl) ?_
    refine lv_iload hC.1 hC.2.1 dL_law_1696 (lv_at hl 5 rfl) ?_
    refine x_const hC dL_law_1698 ?_
    refine x_iadd hC dL_law_1699 ?_
    refine x_sld hC hw hX hbl hbA (by omega) (by omega) (by omega) dL_law_1700 ?_
    rw [← hz_2]
    refine x_if_eq (tgt := 1708) hC ⟨by omega, by omega⟩ dL_law_1701 (by decide) (fun c_5 => ?_) (fun c_5 => ?_)
    · refine x_const hC dL_law_1708 ?_
      rw [xU_comm hdB] at hw
      obtain ⟨va, oa, wa, ya, wk, br, re, la, ha, qv, qw, fa, fb, fy, wt, hR, hK⟩ := hm
      replace hR : MGx G B a va oa wa ya wk th0 rfd br re la ha kp kv qv qw fa fb V O fy Wv wt S := hR
      replace hK : abM O wt br re la ha K := hK
      refine x_callV hC hw (lv_size hl) ((c_X5_viewPoll l G hR hK (p0 := z_1) (by omega) (p1 := 0) (by omega)).frame hdB.symm) gL_law_X5_viewPoll rfl dv_X5_viewPoll (xU_l hR.1.1) rfl rfl (Nat.le_of_ble_eq_true rfl) (by rw [hRf]; decide) (by rw [hRl]; decide) (by first | (rw [hRc]; decide) | omega) (by first | (rw [hRs]; decide) | omega) dL_law_1709 (fun r9 M1 H locs hq hw => ?_)
      obtain ⟨Bk_6, ⟨zk_6, thk_6, hrk_6, hzk_6, hv9⟩, hMk_6, hdB9⟩ := hq
      subst hrk_6
      subst hMk_6
      have hdB := hdB9.symm
      rw [xU_comm hdB9] at hw
      obtain ⟨s1, hG, hm, hkt, hthr, hans⟩ : ∃ s1 : ST, RG G Ak_4 h0 (N + 1) s1 ∧ MGm G Bk_6 a S thk_6 s1 ∧ zk_4 = thk_6 ∧ (0 ≤ thk_6 ∧ thk_6 ≤ 3) ∧ (zk_4 = 0 → dk_4 = (iN zk_6).toInt64) := by
        rcases hw9 with ⟨h1, h2, ⟨z8, h3, h4, h5⟩, h6⟩ | ⟨h1, h2, h6⟩
        · rcases hv9 with ⟨g1, g2, g4, g5⟩ | ⟨g1, g2, g5⟩
          · exact ⟨_, h6, g5, by omega, by omega, fun _ => (show dk_4 = (iN zk_6).toInt64 by rw [h3, h5, g4])⟩
          · exfalso; omega
        · rcases hv9 with ⟨g1, g2, g4, g5⟩ | ⟨g1, g2, g5⟩
          · exfalso; omega
          · exact ⟨_, h6, g5, by omega, by omega, fun q9 => absurd q9 h1⟩
      clear hw9 hv9
      show W p l e R s m args below meth c H locs _ _ _ (F0 m 1712 ls [.int (iN (zk_6))])
      refine lv_istore (lv' := [(6, .int (iN (zk_6))), (5, .int (iN (zk_4))), (0, .ref b), (1, .ref h0), (2, .ref a), (3, .ref o), (4, .int (iN (i)))]) hC.1 hC.2.1 dL_law_1712 hl (by decide) rfl (fun ls hl => ?_)
      refine lv_goto (tgt := 2584) hC.1 hC.2.1 dL_law_1714 (by decide) ?_
      refine W.widen (k := cu + 1) (n := su + (6)) (by omega) (by omega) ?_
      exact kk _ _ _ _ _ S hw ⟨_, _, _, _, _, rfl, hG, hm, hdA, hdB⟩ (lv_sub hl [2, 3, 4, 5, 6] rfl) (Nat.le_refl _)
    · exact absurd c_3 c_5
  · refine x_const hC dL_law_1677 ?_
    refine lv_goto (tgt := 1682) hC.1 hC.2.1 dL_law_1678 (by decide) ?_
    refine lv_aload_n hC.1 hC.2.1 dL_law_1682 rfl (lv_at hl 3 rfl) ?_
    refine x_callSW hC hw (lv_size hl) ((c_L_viewPoll l G hst hG hN hdA (p0 := z_1) (by omega) (p1 := 1) (by omega) (by omega)).frame hdB) gL_law_L_viewPoll rfl dv_L_viewPoll_s rfl (Nat.le_of_ble_eq_true rfl) (by rw [hRf]; decide) (by rw [hRl]; decide) (by first | (rw [hRc]; decide) | omega) (by first | (rw [hRs]; decide) | omega) dL_law_1683 (fun r9 M1 H locs hq hw => ?_)
    obtain ⟨Ck_7, ⟨zk_7, hrk_7, Ak_7, dk_7, svk_7, hCk_7, hdA, hw9⟩, hMk_7, hdB⟩ := hq
    subst hrk_7
    subst hCk_7
    subst hMk_7
    have hzrk_7 : 0 ≤ zk_7 ∧ zk_7 ≤ 3 := by rcases hw9 with ⟨h1, _⟩ | ⟨h1, h2, _⟩; (· omega); (· omega)
    show W p l e R s m args below meth c H locs _ _ _ (F0 m 1686 ls [.int (iN (zk_7))])
    refine lv_istore (lv' := [(5, .int (iN (zk_7))), (0, .ref b), (1, .ref h0), (2, .ref a), (3, .ref o), (4, .int (iN (i)))]) hC.1 hC.2.1 dL_law_1686 hl (by decide) rfl (fun ls hl => ?_)
    refine lv_aload_n hC.1 hC.2.1 dL_law_1688 rfl (lv_at hl 3 rfl) ?_
    refine lv_aload_n hC.1 hC.2.1 dL_law_1689 rfl (lv_at hl 1 rfl) ?_
    refine lv_iload hC.1 hC.2.1 dL_law_1690 (lv_at hl 5 rfl) ?_
    refine x_const hC dL_law_1692 ?_
    refine x_iadd hC dL_law_1693 ?_
    refine x_sld hC hw hX hbl hbA (by omega) (by omega) (by omega) dL_law_1694 ?_
    rw [← hz_1]
    refine lv_aload_n hC.1 hC.2.1 dL_law_1695 rfl (lv_at hl 1 rfl) ?_
    refine lv_iload hC.1 hC.2.1 dL_law_1696 (lv_at hl 5 rfl) ?_
    refine x_const hC dL_law_1698 ?_
    refine x_iadd hC dL_law_1699 ?_
    refine x_sld hC hw hX hbl hbA (by omega) (by omega) (by omega) dL_law_1700 ?_
    rw [← hz_2]
    refine x_if_eq (tgt := 1708) hC ⟨by omega, by omega⟩ dL_law_1701 (by decide) (fun c_8 => ?_) (fun c_8 => ?_)
    · exact absurd c_8 c_3
    · refine x_const hC dL_law_1704 ?_
      refine lv_goto (tgt := 1709) hC.1 hC.2.1 dL_law_1705 (by decide) ?_
      rw [xU_comm hdB] at hw
      obtain ⟨va, oa, wa, ya, wk, br, re, la, ha, qv, qw, fa, fb, fy, wt, hR, hK⟩ := hm
      replace hR : MGx G B a va oa wa ya wk th0 rfd br re la ha kp kv qv qw fa fb V O fy Wv wt S := hR
      replace hK : abM O wt br re la ha K := hK
      refine x_callV hC hw (lv_size hl) ((c_X5_viewPoll l G hR hK (p0 := z_1) (by omega) (p1 := 1) (by omega)).frame hdB.symm) gL_law_X5_viewPoll rfl dv_X5_viewPoll (xU_l hR.1.1) rfl rfl (Nat.le_of_ble_eq_true rfl) (by rw [hRf]; decide) (by rw [hRl]; decide) (by first | (rw [hRc]; decide) | omega) (by first | (rw [hRs]; decide) | omega) dL_law_1709 (fun r9 M1 H locs hq hw => ?_)
      obtain ⟨Bk_9, ⟨zk_9, thk_9, hrk_9, hzk_9, hv9⟩, hMk_9, hdB9⟩ := hq
      subst hrk_9
      subst hMk_9
      have hdB := hdB9.symm
      rw [xU_comm hdB9] at hw
      obtain ⟨s1, hG, hm, hkt, hthr, hans⟩ : ∃ s1 : ST, RG G Ak_7 h0 (N + 1) s1 ∧ MGm G Bk_9 a S thk_9 s1 ∧ zk_7 = thk_9 ∧ (0 ≤ thk_9 ∧ thk_9 ≤ 3) ∧ (zk_7 = 0 → dk_7 = (iN zk_9).toInt64) := by
        rcases hw9 with ⟨h1, h2, ⟨z8, h3, h4, h5⟩, h6⟩ | ⟨h1, h2, h6⟩
        · rcases hv9 with ⟨g1, g2, g4, g5⟩ | ⟨g1, g2, g5⟩
          · exact ⟨_, h6, g5, by omega, by omega, fun _ => (show dk_7 = (iN zk_9).toInt64 by rw [h3, h5, g4])⟩
          · exfalso; omega
        · rcases hv9 with ⟨g1, g2, g4, g5⟩ | ⟨g1, g2, g5⟩
          · exfalso; omega
          · exact ⟨_, h6, g5, by omega, by omega, fun q9 => absurd q9 h1⟩
      clear hw9 hv9
      show W p l e R s m args below meth c H locs _ _ _ (F0 m 1712 ls [.int (iN (zk_9))])
      refine lv_istore (lv' := [(6, .int (iN (zk_9))), (5, .int (iN (zk_7))), (0, .ref b), (1, .ref h0), (2, .ref a), (3, .ref o), (4, .int (iN (i)))]) hC.1 hC.2.1 dL_law_1712 hl (by decide) rfl (fun ls hl => ?_)
      refine lv_goto (tgt := 2584) hC.1 hC.2.1 dL_law_1714 (by decide) ?_
      refine W.widen (k := cu + 1) (n := su + (6)) (by omega) (by omega) ?_
      exact kk _ _ _ _ _ S hw ⟨_, _, _, _, _, rfl, hG, hm, hdA, hdB⟩ (lv_sub hl [2, 3, 4, 5, 6] rfl) (Nat.le_refl _)
set_option maxHeartbeats 8000000 in
set_option maxRecDepth 100000 in
theorem k_27 {p : Program} {l : Launch} {e : Env} {R : Room} {s : State} {m : MethodId} {args : Array Value} {below : List Frame} {meth : Method} {c : Code} {Q : State → Prop} {G : xG} {b L : Nat} {xs : Nat → Int32} {nm : String} (hst : l.stackTraces = false) (hRf : R.frames = 2048) {C9 S9 : Nat} (hRc : R.cells = C9) (hRs : R.slots = S9) (hC9 : 513000 ≤ C9) (hS9 : 6932000 ≤ S9) (hRl : R.locals = 84000) (hC : xB p s m args meth c cL_law 7 "RangeledgerLaw" nm wsL_law (some .boolean) G (xA (fun _ => none) s.heap.size)) (hX : va_X b L xs s s.heap) (hbl : b < s.heap.size) (hL : L ≤ 3072) {h0 a o : Nat} {N : Int} (hN : N ≤ 590) {s9 : ST} {S : Nat → Bool} {M : HM} {H : Heap} {locs : List Loc} {ls : Array Slot} {i : Int} {cu su : Nat} (hw : xD G (xA (fun _ => none) s.heap.size) s M H locs) (hS : LwS G M h0 a o N s9 S) (hl : lv_has ls 7 [(0, .ref b), (1, .ref h0), (2, .ref a), (3, .ref o), (4, .int (iN (i)))]) (hi : 0 ≤ i ∧ i + 6 ≤ L) (hcu : cu + 1000 ≤ C9) (hsu : su + 15590 ≤ S9) (kk : ∀ (M1 : HM) (H1 : Heap) (locs1 : List Loc) (ls1 : Array Slot) (s1 : ST) (S1 : Nat → Bool), xD G (xA (fun _ => none) s.heap.size) s M1 H1 locs1 → LwS G M1 h0 a o (N + 1) s1 S1 → lv_has ls1 7 [(0, .ref b), (1, .ref h0), (2, .ref a), (3, .ref o), (4, .int (iN (i)))] → mC S1 100 ≤ mC S 100 + 0 → W p l e R s m args below meth c H1 locs1 (cu + 1) (su + (6)) Q (F0 m 2584 ls1 [])) : W p l e R s m args below meth c H locs cu su Q (F0 m 1717 ls []) := by
  obtain ⟨A, B, d, sv, th0, hM, hG, hm, hdA, hdB⟩ := hS
  subst hM
  obtain ⟨O, V, Wv, K, kp, kv, rfd⟩ := s9
  have hbA : ¬ (xA (fun _ => none) s.heap.size) b := fun h9 => h9.elim (fun h8 => h8 rfl) (fun h8 => by omega)
  refine lv_aload_n hC.1 hC.2.1 dL_law_1717 rfl (lv_at hl 1 rfl) ?_
  refine lv_aload_n hC.1 hC.2.1 dL_law_1718 rfl (lv_at hl 0 rfl) ?_
  refine lv_iload hC.1 hC.2.1 dL_law_1719 (lv_at hl 4 rfl) ?_
  refine x_const hC dL_law_1721 ?_
  refine x_iadd hC dL_law_1722 ?_
  refine x_sld hC hw hX hbl hbA (by omega) (by omega) (by omega) dL_law_1723 ?_
  obtain ⟨z_1, hz_1⟩ : ∃ z : Int, z = (xs (i + 1).toNat).toInt := ⟨_, rfl⟩
  rw [← hz_1]
  have hrz_1 : -2147483648 ≤ z_1 ∧ z_1 ≤ 2147483647 := by rw [hz_1]; exact iN_rng _
  refine lv_aload_n hC.1 hC.2.1 dL_law_1724 rfl (lv_at hl 3 rfl) ?_
  refine x_callSW hC hw (lv_size hl) ((c_L_viewClear l G hst hG hN hdA (p0 := z_1) (by omega)).frame hdB) gL_law_L_viewClear rfl dv_L_viewClear_s rfl (Nat.le_of_ble_eq_true rfl) (by rw [hRf]; decide) (by rw [hRl]; decide) (by first | (rw [hRc]; decide) | omega) (by first | (rw [hRs]; decide) | omega) dL_law_1725 (fun r9 M1 H locs hq hw => ?_)
  obtain ⟨Ck_2, ⟨zk_2, hrk_2, Ak_2, dk_2, svk_2, hCk_2, hdA, hw9⟩, hMk_2, hdB⟩ := hq
  subst hrk_2
  subst hCk_2
  subst hMk_2
  have hzrk_2 : 0 ≤ zk_2 ∧ zk_2 ≤ 3 := by rcases hw9 with ⟨h1, _⟩ | ⟨h1, h2, _⟩; (· omega); (· omega)
  show W p l e R s m args below meth c H locs _ _ _ (F0 m 1728 ls [.int (iN (zk_2))])
  refine lv_istore (lv' := [(5, .int (iN (zk_2))), (0, .ref b), (1, .ref h0), (2, .ref a), (3, .ref o), (4, .int (iN (i)))]) hC.1 hC.2.1 dL_law_1728 hl (by decide) rfl (fun ls hl => ?_)
  refine lv_aload_n hC.1 hC.2.1 dL_law_1730 rfl (lv_at hl 3 rfl) ?_
  refine lv_aload_n hC.1 hC.2.1 dL_law_1731 rfl (lv_at hl 1 rfl) ?_
  refine lv_iload hC.1 hC.2.1 dL_law_1732 (lv_at hl 5 rfl) ?_
  refine x_const hC dL_law_1734 ?_
  refine x_iadd hC dL_law_1735 ?_
  refine x_sld hC hw hX hbl hbA (by omega) (by omega) (by omega) dL_law_1736 ?_
  rw [← hz_1]
  rw [xU_comm hdB] at hw
  obtain ⟨va, oa, wa, ya, wk, br, re, la, ha, qv, qw, fa, fb, fy, wt, hR, hK⟩ := hm
  replace hR : MGx G B a va oa wa ya wk th0 rfd br re la ha kp kv qv qw fa fb V O fy Wv wt S := hR
  replace hK : abM O wt br re la ha K := hK
  refine x_callV hC hw (lv_size hl) ((c_X5_viewClear l G hR hK (p0 := z_1) (by omega)).frame hdB.symm) gL_law_X5_viewClear rfl dv_X5_viewClear (xU_l hR.1.1) rfl rfl (Nat.le_of_ble_eq_true rfl) (by rw [hRf]; decide) (by rw [hRl]; decide) (by first | (rw [hRc]; decide) | omega) (by first | (rw [hRs]; decide) | omega) dL_law_1737 (fun r9 M1 H locs hq hw => ?_)
  obtain ⟨Bk_3, ⟨zk_3, thk_3, hrk_3, hzk_3, hv9⟩, hMk_3, hdB9⟩ := hq
  subst hrk_3
  subst hMk_3
  have hdB := hdB9.symm
  rw [xU_comm hdB9] at hw
  obtain ⟨s1, hG, hm, hkt, hthr, hans⟩ : ∃ s1 : ST, RG G Ak_2 h0 (N + 1) s1 ∧ MGm G Bk_3 a S thk_3 s1 ∧ zk_2 = thk_3 ∧ (0 ≤ thk_3 ∧ thk_3 ≤ 3) ∧ (zk_2 = 0 → dk_2 = (iN zk_3).toInt64) := by
    rcases hw9 with ⟨h1, h2, ⟨z8, h3, h4, h5⟩, h6⟩ | ⟨h1, h2, h6⟩
    · rcases hv9 with ⟨g1, g2, g4, g5⟩ | ⟨g1, g2, g5⟩
      · exact ⟨_, h6, g5, by omega, by omega, fun _ => (show dk_2 = (iN zk_3).toInt64 by rw [h3, h5, g4])⟩
      · exfalso; omega
    · rcases hv9 with ⟨g1, g2, g4, g5⟩ | ⟨g1, g2, g5⟩
      · exfalso; omega
      · exact ⟨_, h6, g5, by omega, by omega, fun q9 => absurd q9 h1⟩
  clear hw9 hv9
  show W p l e R s m args below meth c H locs _ _ _ (F0 m 1740 ls [.int (iN (zk_3))])
  refine lv_istore (lv' := [(6, .int (iN (zk_3))), (5, .int (iN (zk_2))), (0, .ref b), (1, .ref h0), (2, .ref a), (3, .ref o), (4, .int (iN (i)))]) hC.1 hC.2.1 dL_law_1740 hl (by decide) rfl (fun ls hl => ?_)
  refine lv_goto (tgt := 2584) hC.1 hC.2.1 dL_law_1742 (by decide) ?_
  refine W.widen (k := cu + 1) (n := su + (6)) (by omega) (by omega) ?_
  exact kk _ _ _ _ _ S hw ⟨_, _, _, _, _, rfl, hG, hm, hdA, hdB⟩ (lv_sub hl [2, 3, 4, 5, 6] rfl) (Nat.le_refl _)
set_option maxHeartbeats 8000000 in
set_option maxRecDepth 100000 in
theorem k_28 {p : Program} {l : Launch} {e : Env} {R : Room} {s : State} {m : MethodId} {args : Array Value} {below : List Frame} {meth : Method} {c : Code} {Q : State → Prop} {G : xG} {b L : Nat} {xs : Nat → Int32} {nm : String} (hst : l.stackTraces = false) (hRf : R.frames = 2048) {C9 S9 : Nat} (hRc : R.cells = C9) (hRs : R.slots = S9) (hC9 : 513000 ≤ C9) (hS9 : 6932000 ≤ S9) (hRl : R.locals = 84000) (hC : xB p s m args meth c cL_law 7 "RangeledgerLaw" nm wsL_law (some .boolean) G (xA (fun _ => none) s.heap.size)) (hX : va_X b L xs s s.heap) (hbl : b < s.heap.size) (hL : L ≤ 3072) {h0 a o : Nat} {N : Int} (hN : N ≤ 590) {s9 : ST} {S : Nat → Bool} {M : HM} {H : Heap} {locs : List Loc} {ls : Array Slot} {i : Int} {cu su : Nat} (hw : xD G (xA (fun _ => none) s.heap.size) s M H locs) (hS : LwS G M h0 a o N s9 S) (hl : lv_has ls 7 [(0, .ref b), (1, .ref h0), (2, .ref a), (3, .ref o), (4, .int (iN (i)))]) (hi : 0 ≤ i ∧ i + 6 ≤ L) (hcu : cu + 1000 ≤ C9) (hsu : su + 15590 ≤ S9) (kk : ∀ (M1 : HM) (H1 : Heap) (locs1 : List Loc) (ls1 : Array Slot) (s1 : ST) (S1 : Nat → Bool), xD G (xA (fun _ => none) s.heap.size) s M1 H1 locs1 → LwS G M1 h0 a o (N + 1) s1 S1 → lv_has ls1 7 [(0, .ref b), (1, .ref h0), (2, .ref a), (3, .ref o), (4, .int (iN (i)))] → mC S1 100 ≤ mC S 100 + 0 → W p l e R s m args below meth c H1 locs1 (cu + 4) (su + (23)) Q (F0 m 2584 ls1 [])) : W p l e R s m args below meth c H locs cu su Q (F0 m 1745 ls []) := by
  obtain ⟨A, B, d, sv, th0, hM, hG, hm, hdA, hdB⟩ := hS
  subst hM
  obtain ⟨O, V, Wv, K, kp, kv, rfd⟩ := s9
  have hbA : ¬ (xA (fun _ => none) s.heap.size) b := fun h9 => h9.elim (fun h8 => h8 rfl) (fun h8 => by omega)
  refine lv_aload_n hC.1 hC.2.1 dL_law_1745 rfl (lv_at hl 1 rfl) ?_
  refine lv_aload_n hC.1 hC.2.1 dL_law_1746 rfl (lv_at hl 0 rfl) ?_
  refine lv_iload hC.1 hC.2.1 dL_law_1747 (lv_at hl 4 rfl) ?_
  refine x_const hC dL_law_1749 ?_
  refine x_iadd hC dL_law_1750 ?_
  refine x_sld hC hw hX hbl hbA (by omega) (by omega) (by omega) dL_law_1751 ?_
  obtain ⟨z_1, hz_1⟩ : ∃ z : Int, z = (xs (i + 1).toNat).toInt := ⟨_, rfl⟩
  rw [← hz_1]
  have hrz_1 : -2147483648 ≤ z_1 ∧ z_1 ≤ 2147483647 := by rw [hz_1]; exact iN_rng _
  refine lv_aload_n hC.1 hC.2.1 dL_law_1752 rfl (lv_at hl 3 rfl) ?_
  refine x_callSW hC hw (lv_size hl) ((c_L_walk l G hst hG hN hdA (p0 := z_1) (by omega)).frame hdB) gL_law_L_walk rfl dv_L_walk_s rfl (Nat.le_of_ble_eq_true rfl) (by rw [hRf]; decide) (by rw [hRl]; decide) (by first | (rw [hRc]; decide) | omega) (by first | (rw [hRs]; decide) | omega) dL_law_1753 (fun r9 M1 H locs hq hw => ?_)
  obtain ⟨Ck_2, ⟨zk_2, hrk_2, Ak_2, dk_2, svk_2, hCk_2, hdA, hw9⟩, hMk_2, hdB⟩ := hq
  subst hrk_2
  subst hCk_2
  subst hMk_2
  have hzrk_2 : 0 ≤ zk_2 ∧ zk_2 ≤ 3 := by rcases hw9 with ⟨h1, _⟩ | ⟨h1, h2, _⟩; (· omega); (· omega)
  show W p l e R s m args below meth c H locs _ _ _ (F0 m 1756 ls [.int (iN (zk_2))])
  refine lv_istore (lv' := [(5, .int (iN (zk_2))), (0, .ref b), (1, .ref h0), (2, .ref a), (3, .ref o), (4, .int (iN (i)))]) hC.1 hC.2.1 dL_law_1756 hl (by decide) rfl (fun ls hl => ?_)
  refine lv_aload_n hC.1 hC.2.1 dL_law_1758 rfl (lv_at hl 3 rfl) ?_
  refine lv_aload_n hC.1 hC.2.1 dL_law_1759 rfl (lv_at hl 1 rfl) ?_
  refine lv_iload hC.1 hC.2.1 dL_law_1760 (lv_at hl 5 rfl) ?_
  refine x_const hC dL_law_1762 ?_
  refine x_iadd hC dL_law_1763 ?_
  refine x_sld hC hw hX hbl hbA (by omega) (by omega) (by omega) dL_law_1764 ?_
  rw [← hz_1]
  rw [xU_comm hdB] at hw
  obtain ⟨va, oa, wa, ya, wk, br, re, la, ha, qv, qw, fa, fb, fy, wt, hR, hK⟩ := hm
  replace hR : MGx G B a va oa wa ya wk th0 rfd br re la ha kp kv qv qw fa fb V O fy Wv wt S := hR
  replace hK : abM O wt br re la ha K := hK
  refine x_callV hC hw (lv_size hl) ((c_X5_walk l G hR hK (p0 := z_1) (by omega)).frame hdB.symm) gL_law_X5_walk rfl dv_X5_walk (xU_l hR.1.1) rfl rfl (Nat.le_of_ble_eq_true rfl) (by rw [hRf]; decide) (by rw [hRl]; decide) (by first | (rw [hRc]; decide) | omega) (by first | (rw [hRs]; decide) | omega) dL_law_1765 (fun r9 M1 H locs hq hw => ?_)
  obtain ⟨Bk_3, ⟨zk_3, thk_3, hrk_3, hzk_3, hv9⟩, hMk_3, hdB9⟩ := hq
  subst hrk_3
  subst hMk_3
  have hdB := hdB9.symm
  rw [xU_comm hdB9] at hw
  obtain ⟨s1, hG, hm, hkt, hthr, hans⟩ : ∃ s1 : ST, RG G Ak_2 h0 (N + 1) s1 ∧ MGm G Bk_3 a S thk_3 s1 ∧ zk_2 = thk_3 ∧ (0 ≤ thk_3 ∧ thk_3 ≤ 3) ∧ (zk_2 = 0 → dk_2 = (iN zk_3).toInt64) := by
    rcases hw9 with ⟨h1, h2, ⟨z8, h3, h4, h5⟩, h6⟩ | ⟨h1, h2, h6⟩
    · rcases hv9 with ⟨g1, g2, g4, g5⟩ | ⟨g1, g2, g5⟩
      · exact ⟨_, h6, g5, by omega, by omega, fun _ => (show dk_2 = (iN zk_3).toInt64 by rw [h3, h5, g4])⟩
      · exfalso; omega
    · rcases hv9 with ⟨g1, g2, g4, g5⟩ | ⟨g1, g2, g5⟩
      · exfalso; omega
      · exact ⟨_, h6, g5, by omega, by omega, fun q9 => absurd q9 h1⟩
  clear hw9 hv9
  show W p l e R s m args below meth c H locs _ _ _ (F0 m 1768 ls [.int (iN (zk_3))])
  refine lv_istore (lv' := [(6, .int (iN (zk_3))), (5, .int (iN (zk_2))), (0, .ref b), (1, .ref h0), (2, .ref a), (3, .ref o), (4, .int (iN (i)))]) hC.1 hC.2.1 dL_law_1768 hl (by decide) rfl (fun ls hl => ?_)
  refine lv_goto (tgt := 2584) hC.1 hC.2.1 dL_law_1770 (by decide) ?_
  refine W.widen (k := cu + 4) (n := su + (23)) (by omega) (by omega) ?_
  exact kk _ _ _ _ _ S hw ⟨_, _, _, _, _, rfl, hG, hm, hdA, hdB⟩ (lv_sub hl [2, 3, 4, 5, 6] rfl) (Nat.le_refl _)
set_option maxHeartbeats 8000000 in
set_option maxRecDepth 100000 in
theorem k_29 {p : Program} {l : Launch} {e : Env} {R : Room} {s : State} {m : MethodId} {args : Array Value} {below : List Frame} {meth : Method} {c : Code} {Q : State → Prop} {G : xG} {b L : Nat} {xs : Nat → Int32} {nm : String} (hst : l.stackTraces = false) (hRf : R.frames = 2048) {C9 S9 : Nat} (hRc : R.cells = C9) (hRs : R.slots = S9) (hC9 : 513000 ≤ C9) (hS9 : 6932000 ≤ S9) (hRl : R.locals = 84000) (hC : xB p s m args meth c cL_law 7 "RangeledgerLaw" nm wsL_law (some .boolean) G (xA (fun _ => none) s.heap.size)) (hX : va_X b L xs s s.heap) (hbl : b < s.heap.size) (hL : L ≤ 3072) {h0 a o : Nat} {N : Int} (hN : N ≤ 590) {s9 : ST} {S : Nat → Bool} {M : HM} {H : Heap} {locs : List Loc} {ls : Array Slot} {i : Int} {cu su : Nat} (hw : xD G (xA (fun _ => none) s.heap.size) s M H locs) (hS : LwS G M h0 a o N s9 S) (hl : lv_has ls 7 [(0, .ref b), (1, .ref h0), (2, .ref a), (3, .ref o), (4, .int (iN (i)))]) (hi : 0 ≤ i ∧ i + 6 ≤ L) (hcu : cu + 1000 ≤ C9) (hsu : su + 15590 ≤ S9) (kk : ∀ (M1 : HM) (H1 : Heap) (locs1 : List Loc) (ls1 : Array Slot) (s1 : ST) (S1 : Nat → Bool), xD G (xA (fun _ => none) s.heap.size) s M1 H1 locs1 → LwS G M1 h0 a o (N + 1) s1 S1 → lv_has ls1 7 [(0, .ref b), (1, .ref h0), (2, .ref a), (3, .ref o), (4, .int (iN (i)))] → mC S1 100 ≤ mC S 100 + 0 → W p l e R s m args below meth c H1 locs1 (cu + 3) (su + (16)) Q (F0 m 2584 ls1 [])) : W p l e R s m args below meth c H locs cu su Q (F0 m 1773 ls []) := by
  obtain ⟨A, B, d, sv, th0, hM, hG, hm, hdA, hdB⟩ := hS
  subst hM
  obtain ⟨O, V, Wv, K, kp, kv, rfd⟩ := s9
  have hbA : ¬ (xA (fun _ => none) s.heap.size) b := fun h9 => h9.elim (fun h8 => h8 rfl) (fun h8 => by omega)
  refine lv_aload_n hC.1 hC.2.1 dL_law_1773 rfl (lv_at hl 1 rfl) ?_
  refine lv_aload_n hC.1 hC.2.1 dL_law_1774 rfl (lv_at hl 0 rfl) ?_
  refine lv_iload hC.1 hC.2.1 dL_law_1775 (lv_at hl 4 rfl) ?_
  refine x_const hC dL_law_1777 ?_
  refine x_iadd hC dL_law_1778 ?_
  refine x_sld hC hw hX hbl hbA (by omega) (by omega) (by omega) dL_law_1779 ?_
  obtain ⟨z_1, hz_1⟩ : ∃ z : Int, z = (xs (i + 1).toNat).toInt := ⟨_, rfl⟩
  rw [← hz_1]
  have hrz_1 : -2147483648 ≤ z_1 ∧ z_1 ≤ 2147483647 := by rw [hz_1]; exact iN_rng _
  refine lv_aload_n hC.1 hC.2.1 dL_law_1780 rfl (lv_at hl 3 rfl) ?_
  refine x_callSW hC hw (lv_size hl) ((c_L_viewWalk l G hst hG hN hdA (p0 := z_1) (by omega)).frame hdB) gL_law_L_viewWalk rfl dv_L_viewWalk_s rfl (Nat.le_of_ble_eq_true rfl) (by rw [hRf]; decide) (by rw [hRl]; decide) (by first | (rw [hRc]; decide) | omega) (by first | (rw [hRs]; decide) | omega) dL_law_1781 (fun r9 M1 H locs hq hw => ?_)
  obtain ⟨Ck_2, ⟨zk_2, hrk_2, Ak_2, dk_2, svk_2, hCk_2, hdA, hw9⟩, hMk_2, hdB⟩ := hq
  subst hrk_2
  subst hCk_2
  subst hMk_2
  have hzrk_2 : 0 ≤ zk_2 ∧ zk_2 ≤ 3 := by rcases hw9 with ⟨h1, _⟩ | ⟨h1, h2, _⟩; (· omega); (· omega)
  show W p l e R s m args below meth c H locs _ _ _ (F0 m 1784 ls [.int (iN (zk_2))])
  refine lv_istore (lv' := [(5, .int (iN (zk_2))), (0, .ref b), (1, .ref h0), (2, .ref a), (3, .ref o), (4, .int (iN (i)))]) hC.1 hC.2.1 dL_law_1784 hl (by decide) rfl (fun ls hl => ?_)
  refine lv_aload_n hC.1 hC.2.1 dL_law_1786 rfl (lv_at hl 3 rfl) ?_
  refine lv_aload_n hC.1 hC.2.1 dL_law_1787 rfl (lv_at hl 1 rfl) ?_
  refine lv_iload hC.1 hC.2.1 dL_law_1788 (lv_at hl 5 rfl) ?_
  refine x_const hC dL_law_1790 ?_
  refine x_iadd hC dL_law_1791 ?_
  refine x_sld hC hw hX hbl hbA (by omega) (by omega) (by omega) dL_law_1792 ?_
  rw [← hz_1]
  rw [xU_comm hdB] at hw
  obtain ⟨va, oa, wa, ya, wk, br, re, la, ha, qv, qw, fa, fb, fy, wt, hR, hK⟩ := hm
  replace hR : MGx G B a va oa wa ya wk th0 rfd br re la ha kp kv qv qw fa fb V O fy Wv wt S := hR
  replace hK : abM O wt br re la ha K := hK
  refine x_callV hC hw (lv_size hl) ((c_X5_viewWalk l G hR hK (p0 := z_1) (by omega)).frame hdB.symm) gL_law_X5_viewWalk rfl dv_X5_viewWalk (xU_l hR.1.1) rfl rfl (Nat.le_of_ble_eq_true rfl) (by rw [hRf]; decide) (by rw [hRl]; decide) (by first | (rw [hRc]; decide) | omega) (by first | (rw [hRs]; decide) | omega) dL_law_1793 (fun r9 M1 H locs hq hw => ?_)
  obtain ⟨Bk_3, ⟨zk_3, thk_3, hrk_3, hzk_3, hv9⟩, hMk_3, hdB9⟩ := hq
  subst hrk_3
  subst hMk_3
  have hdB := hdB9.symm
  rw [xU_comm hdB9] at hw
  obtain ⟨s1, hG, hm, hkt, hthr, hans⟩ : ∃ s1 : ST, RG G Ak_2 h0 (N + 1) s1 ∧ MGm G Bk_3 a S thk_3 s1 ∧ zk_2 = thk_3 ∧ (0 ≤ thk_3 ∧ thk_3 ≤ 3) ∧ (zk_2 = 0 → dk_2 = (iN zk_3).toInt64) := by
    rcases hw9 with ⟨h1, h2, ⟨z8, h3, h4, h5⟩, h6⟩ | ⟨h1, h2, h6⟩
    · rcases hv9 with ⟨g1, g2, g4, g5⟩ | ⟨g1, g2, g5⟩
      · exact ⟨_, h6, g5, by omega, by omega, fun _ => (show dk_2 = (iN zk_3).toInt64 by rw [h3, h5, g4])⟩
      · exfalso; omega
    · rcases hv9 with ⟨g1, g2, g4, g5⟩ | ⟨g1, g2, g5⟩
      · exfalso; omega
      · exact ⟨_, h6, g5, by omega, by omega, fun q9 => absurd q9 h1⟩
  clear hw9 hv9
  show W p l e R s m args below meth c H locs _ _ _ (F0 m 1796 ls [.int (iN (zk_3))])
  refine lv_istore (lv' := [(6, .int (iN (zk_3))), (5, .int (iN (zk_2))), (0, .ref b), (1, .ref h0), (2, .ref a), (3, .ref o), (4, .int (iN (i)))]) hC.1 hC.2.1 dL_law_1796 hl (by decide) rfl (fun ls hl => ?_)
  refine lv_goto (tgt := 2584) hC.1 hC.2.1 dL_law_1798 (by decide) ?_
  refine W.widen (k := cu + 3) (n := su + (16)) (by omega) (by omega) ?_
  exact kk _ _ _ _ _ S hw ⟨_, _, _, _, _, rfl, hG, hm, hdA, hdB⟩ (lv_sub hl [2, 3, 4, 5, 6] rfl) (Nat.le_refl _)
set_option maxHeartbeats 8000000 in
set_option maxRecDepth 100000 in
theorem k_30 {p : Program} {l : Launch} {e : Env} {R : Room} {s : State} {m : MethodId} {args : Array Value} {below : List Frame} {meth : Method} {c : Code} {Q : State → Prop} {G : xG} {b L : Nat} {xs : Nat → Int32} {nm : String} (hst : l.stackTraces = false) (hRf : R.frames = 2048) {C9 S9 : Nat} (hRc : R.cells = C9) (hRs : R.slots = S9) (hC9 : 513000 ≤ C9) (hS9 : 6932000 ≤ S9) (hRl : R.locals = 84000) (hC : xB p s m args meth c cL_law 7 "RangeledgerLaw" nm wsL_law (some .boolean) G (xA (fun _ => none) s.heap.size)) (hX : va_X b L xs s s.heap) (hbl : b < s.heap.size) (hL : L ≤ 3072) {h0 a o : Nat} {N : Int} (hN : N ≤ 590) {s9 : ST} {S : Nat → Bool} {M : HM} {H : Heap} {locs : List Loc} {ls : Array Slot} {i : Int} {cu su : Nat} (hw : xD G (xA (fun _ => none) s.heap.size) s M H locs) (hS : LwS G M h0 a o N s9 S) (hl : lv_has ls 7 [(0, .ref b), (1, .ref h0), (2, .ref a), (3, .ref o), (4, .int (iN (i)))]) (hi : 0 ≤ i ∧ i + 6 ≤ L) (hcu : cu + 1000 ≤ C9) (hsu : su + 15590 ≤ S9) (kk : ∀ (M1 : HM) (H1 : Heap) (locs1 : List Loc) (ls1 : Array Slot) (s1 : ST) (S1 : Nat → Bool), xD G (xA (fun _ => none) s.heap.size) s M1 H1 locs1 → LwS G M1 h0 a o (N + 1) s1 S1 → lv_has ls1 7 [(0, .ref b), (1, .ref h0), (2, .ref a), (3, .ref o), (4, .int (iN (i)))] → mC S1 100 ≤ mC S 100 + 0 → W p l e R s m args below meth c H1 locs1 (cu + 1) (su + (6)) Q (F0 m 2584 ls1 [])) : W p l e R s m args below meth c H locs cu su Q (F0 m 1801 ls []) := by
  obtain ⟨A, B, d, sv, th0, hM, hG, hm, hdA, hdB⟩ := hS
  subst hM
  obtain ⟨O, V, Wv, K, kp, kv, rfd⟩ := s9
  have hbA : ¬ (xA (fun _ => none) s.heap.size) b := fun h9 => h9.elim (fun h8 => h8 rfl) (fun h8 => by omega)
  refine lv_aload_n hC.1 hC.2.1 dL_law_1801 rfl (lv_at hl 1 rfl) ?_
  refine lv_aload_n hC.1 hC.2.1 dL_law_1802 rfl (lv_at hl 3 rfl) ?_
  refine x_callSW hC hw (lv_size hl) ((c_L_step l G hst hG hN hdA).frame hdB) gL_law_L_step rfl dv_L_step_s rfl (Nat.le_of_ble_eq_true rfl) (by rw [hRf]; decide) (by rw [hRl]; decide) (by first | (rw [hRc]; decide) | omega) (by first | (rw [hRs]; decide) | omega) dL_law_1803 (fun r9 M1 H locs hq hw => ?_)
  obtain ⟨Ck_1, ⟨zk_1, hrk_1, Ak_1, dk_1, svk_1, hCk_1, hdA, hw9⟩, hMk_1, hdB⟩ := hq
  subst hrk_1
  subst hCk_1
  subst hMk_1
  have hzrk_1 : 0 ≤ zk_1 ∧ zk_1 ≤ 3 := by rcases hw9 with ⟨h1, _⟩ | ⟨h1, h2, _⟩; (· omega); (· omega)
  show W p l e R s m args below meth c H locs _ _ _ (F0 m 1806 ls [.int (iN (zk_1))])
  refine lv_istore (lv' := [(5, .int (iN (zk_1))), (0, .ref b), (1, .ref h0), (2, .ref a), (3, .ref o), (4, .int (iN (i)))]) hC.1 hC.2.1 dL_law_1806 hl (by decide) rfl (fun ls hl => ?_)
  refine lv_aload_n hC.1 hC.2.1 dL_law_1808 rfl (lv_at hl 3 rfl) ?_
  rw [xU_comm hdB] at hw
  obtain ⟨va, oa, wa, ya, wk, br, re, la, ha, qv, qw, fa, fb, fy, wt, hR, hK⟩ := hm
  replace hR : MGx G B a va oa wa ya wk th0 rfd br re la ha kp kv qv qw fa fb V O fy Wv wt S := hR
  replace hK : abM O wt br re la ha K := hK
  refine x_callV hC hw (lv_size hl) ((c_X5_step l G hR hK).frame hdB.symm) gL_law_X5_step rfl dv_X5_step (xU_l hR.1.1) rfl rfl (Nat.le_of_ble_eq_true rfl) (by rw [hRf]; decide) (by rw [hRl]; decide) (by first | (rw [hRc]; decide) | omega) (by first | (rw [hRs]; decide) | omega) dL_law_1809 (fun r9 M1 H locs hq hw => ?_)
  obtain ⟨Bk_2, ⟨zk_2, thk_2, hrk_2, hzk_2, hv9⟩, hMk_2, hdB9⟩ := hq
  subst hrk_2
  subst hMk_2
  have hdB := hdB9.symm
  rw [xU_comm hdB9] at hw
  obtain ⟨s1, hG, hm, hkt, hthr, hans⟩ : ∃ s1 : ST, RG G Ak_1 h0 (N + 1) s1 ∧ MGm G Bk_2 a S thk_2 s1 ∧ zk_1 = thk_2 ∧ (0 ≤ thk_2 ∧ thk_2 ≤ 3) ∧ (zk_1 = 0 → dk_1 = (iN zk_2).toInt64) := by
    rcases hw9 with ⟨h1, h2, ⟨z8, h3, h4, h5⟩, h6⟩ | ⟨h1, h2, h6⟩
    · rcases hv9 with ⟨g1, g2, g4, g5⟩ | ⟨g1, g2, g5⟩
      · exact ⟨_, h6, g5, by omega, by omega, fun _ => (show dk_1 = (iN zk_2).toInt64 by rw [h3, h5, g4])⟩
      · exfalso; omega
    · rcases hv9 with ⟨g1, g2, g4, g5⟩ | ⟨g1, g2, g5⟩
      · exfalso; omega
      · exact ⟨_, h6, g5, by omega, by omega, fun q9 => absurd q9 h1⟩
  clear hw9 hv9
  show W p l e R s m args below meth c H locs _ _ _ (F0 m 1812 ls [.int (iN (zk_2))])
  refine lv_istore (lv' := [(6, .int (iN (zk_2))), (5, .int (iN (zk_1))), (0, .ref b), (1, .ref h0), (2, .ref a), (3, .ref o), (4, .int (iN (i)))]) hC.1 hC.2.1 dL_law_1812 hl (by decide) rfl (fun ls hl => ?_)
  refine lv_goto (tgt := 2584) hC.1 hC.2.1 dL_law_1814 (by decide) ?_
  refine W.widen (k := cu + 1) (n := su + (6)) (by omega) (by omega) ?_
  exact kk _ _ _ _ _ S hw ⟨_, _, _, _, _, rfl, hG, hm, hdA, hdB⟩ (lv_sub hl [2, 3, 4, 5, 6] rfl) (Nat.le_refl _)
set_option maxHeartbeats 8000000 in
set_option maxRecDepth 100000 in
theorem k_31 {p : Program} {l : Launch} {e : Env} {R : Room} {s : State} {m : MethodId} {args : Array Value} {below : List Frame} {meth : Method} {c : Code} {Q : State → Prop} {G : xG} {b L : Nat} {xs : Nat → Int32} {nm : String} (hst : l.stackTraces = false) (hRf : R.frames = 2048) {C9 S9 : Nat} (hRc : R.cells = C9) (hRs : R.slots = S9) (hC9 : 513000 ≤ C9) (hS9 : 6932000 ≤ S9) (hRl : R.locals = 84000) (hC : xB p s m args meth c cL_law 7 "RangeledgerLaw" nm wsL_law (some .boolean) G (xA (fun _ => none) s.heap.size)) (hX : va_X b L xs s s.heap) (hbl : b < s.heap.size) (hL : L ≤ 3072) {h0 a o : Nat} {N : Int} (hN : N ≤ 590) {s9 : ST} {S : Nat → Bool} {M : HM} {H : Heap} {locs : List Loc} {ls : Array Slot} {i : Int} {cu su : Nat} (hw : xD G (xA (fun _ => none) s.heap.size) s M H locs) (hS : LwS G M h0 a o N s9 S) (hl : lv_has ls 7 [(0, .ref b), (1, .ref h0), (2, .ref a), (3, .ref o), (4, .int (iN (i)))]) (hi : 0 ≤ i ∧ i + 6 ≤ L) (hcu : cu + 1000 ≤ C9) (hsu : su + 15590 ≤ S9) (kk : ∀ (M1 : HM) (H1 : Heap) (locs1 : List Loc) (ls1 : Array Slot) (s1 : ST) (S1 : Nat → Bool), xD G (xA (fun _ => none) s.heap.size) s M1 H1 locs1 → LwS G M1 h0 a o (N + 1) s1 S1 → lv_has ls1 7 [(0, .ref b), (1, .ref h0), (2, .ref a), (3, .ref o), (4, .int (iN (i)))] → mC S1 100 ≤ mC S 100 + 1 → W p l e R s m args below meth c H1 locs1 (cu + 3) (su + (18)) Q (F0 m 2584 ls1 [])) : W p l e R s m args below meth c H locs cu su Q (F0 m 1817 ls []) := by
  obtain ⟨A, B, d, sv, th0, hM, hG, hm, hdA, hdB⟩ := hS
  subst hM
  obtain ⟨O, V, Wv, K, kp, kv, rfd⟩ := s9
  have hbA : ¬ (xA (fun _ => none) s.heap.size) b := fun h9 => h9.elim (fun h8 => h8 rfl) (fun h8 => by omega)
  refine lv_aload_n hC.1 hC.2.1 dL_law_1817 rfl (lv_at hl 1 rfl) ?_
  refine lv_aload_n hC.1 hC.2.1 dL_law_1818 rfl (lv_at hl 0 rfl) ?_
  refine lv_iload hC.1 hC.2.1 dL_law_1819 (lv_at hl 4 rfl) ?_
  refine x_const hC dL_law_1821 ?_
  refine x_iadd hC dL_law_1822 ?_
  refine x_sld hC hw hX hbl hbA (by omega) (by omega) (by omega) dL_law_1823 ?_
  obtain ⟨z_1, hz_1⟩ : ∃ z : Int, z = (xs (i + 1).toNat).toInt := ⟨_, rfl⟩
  rw [← hz_1]
  have hrz_1 : -2147483648 ≤ z_1 ∧ z_1 ≤ 2147483647 := by rw [hz_1]; exact iN_rng _
  refine lv_aload_n hC.1 hC.2.1 dL_law_1824 rfl (lv_at hl 3 rfl) ?_
  refine x_callSW hC hw (lv_size hl) ((c_L_write l G hst hG hN hdA (p0 := z_1) (by omega)).frame hdB) gL_law_L_write rfl dv_L_write_s rfl (Nat.le_of_ble_eq_true rfl) (by rw [hRf]; decide) (by rw [hRl]; decide) (by first | (rw [hRc]; decide) | omega) (by first | (rw [hRs]; decide) | omega) dL_law_1825 (fun r9 M1 H locs hq hw => ?_)
  obtain ⟨Ck_2, ⟨zk_2, hrk_2, Ak_2, dk_2, svk_2, hCk_2, hdA, hw9⟩, hMk_2, hdB⟩ := hq
  subst hrk_2
  subst hCk_2
  subst hMk_2
  have hzrk_2 : 0 ≤ zk_2 ∧ zk_2 ≤ 3 := by rcases hw9 with ⟨h1, _⟩ | ⟨h1, h2, _⟩; (· omega); (· omega)
  show W p l e R s m args below meth c H locs _ _ _ (F0 m 1828 ls [.int (iN (zk_2))])
  refine lv_istore (lv' := [(5, .int (iN (zk_2))), (0, .ref b), (1, .ref h0), (2, .ref a), (3, .ref o), (4, .int (iN (i)))]) hC.1 hC.2.1 dL_law_1828 hl (by decide) rfl (fun ls hl => ?_)
  refine lv_aload_n hC.1 hC.2.1 dL_law_1830 rfl (lv_at hl 3 rfl) ?_
  refine lv_aload_n hC.1 hC.2.1 dL_law_1831 rfl (lv_at hl 1 rfl) ?_
  refine lv_iload hC.1 hC.2.1 dL_law_1832 (lv_at hl 5 rfl) ?_
  refine x_const hC dL_law_1834 ?_
  refine x_iadd hC dL_law_1835 ?_
  refine x_sld hC hw hX hbl hbA (by omega) (by omega) (by omega) dL_law_1836 ?_
  rw [← hz_1]
  rw [xU_comm hdB] at hw
  obtain ⟨va, oa, wa, ya, wk, br, re, la, ha, qv, qw, fa, fb, fy, wt, hR, hK⟩ := hm
  replace hR : MGx G B a va oa wa ya wk th0 rfd br re la ha kp kv qv qw fa fb V O fy Wv wt S := hR
  replace hK : abM O wt br re la ha K := hK
  have hR := hR.more (S2 := sAdd S ha.toNat) (fun k hk => by simp [sAdd, hk])
  refine x_callV hC hw (lv_size hl) ((c_X5_write l G hR hK (p0 := z_1) (by omega) (fun _ => by simp [sAdd])).frame hdB.symm) gL_law_X5_write rfl dv_X5_write (xU_l hR.1.1) rfl rfl (Nat.le_of_ble_eq_true rfl) (by rw [hRf]; decide) (by rw [hRl]; decide) (by first | (rw [hRc]; decide) | omega) (by first | (rw [hRs]; decide) | omega) dL_law_1837 (fun r9 M1 H locs hq hw => ?_)
  obtain ⟨Bk_3, ⟨zk_3, thk_3, hrk_3, hzk_3, hv9⟩, hMk_3, hdB9⟩ := hq
  subst hrk_3
  subst hMk_3
  have hdB := hdB9.symm
  rw [xU_comm hdB9] at hw
  obtain ⟨s1, hG, hm, hkt, hthr, hans⟩ : ∃ s1 : ST, RG G Ak_2 h0 (N + 1) s1 ∧ MGm G Bk_3 a (sAdd S ha.toNat) thk_3 s1 ∧ zk_2 = thk_3 ∧ (0 ≤ thk_3 ∧ thk_3 ≤ 3) ∧ (zk_2 = 0 → dk_2 = (iN zk_3).toInt64) := by
    rcases hw9 with ⟨h1, h2, ⟨z8, h3, h4, h5⟩, h6⟩ | ⟨h1, h2, h6⟩
    · rcases hv9 with ⟨g1, g2, g4, g5⟩ | ⟨g1, g2, g5⟩
      · exact ⟨_, h6, g5, by omega, by omega, fun _ => (show dk_2 = (iN zk_3).toInt64 by rw [h3, h5, g4])⟩
      · exfalso; omega
    · rcases hv9 with ⟨g1, g2, g4, g5⟩ | ⟨g1, g2, g5⟩
      · exfalso; omega
      · exact ⟨_, h6, g5, by omega, by omega, fun q9 => absurd q9 h1⟩
  clear hw9 hv9
  show W p l e R s m args below meth c H locs _ _ _ (F0 m 1840 ls [.int (iN (zk_3))])
  refine lv_istore (lv' := [(6, .int (iN (zk_3))), (5, .int (iN (zk_2))), (0, .ref b), (1, .ref h0), (2, .ref a), (3, .ref o), (4, .int (iN (i)))]) hC.1 hC.2.1 dL_law_1840 hl (by decide) rfl (fun ls hl => ?_)
  refine lv_goto (tgt := 2584) hC.1 hC.2.1 dL_law_1842 (by decide) ?_
  refine W.widen (k := cu + 3) (n := su + (18)) (by omega) (by omega) ?_
  exact kk _ _ _ _ _ (sAdd S ha.toNat) hw ⟨_, _, _, _, _, rfl, hG, hm, hdA, hdB⟩ (lv_sub hl [2, 3, 4, 5, 6] rfl) (mC_add1 _ _)
set_option maxHeartbeats 8000000 in
set_option maxRecDepth 100000 in
theorem k_32 {p : Program} {l : Launch} {e : Env} {R : Room} {s : State} {m : MethodId} {args : Array Value} {below : List Frame} {meth : Method} {c : Code} {Q : State → Prop} {G : xG} {b L : Nat} {xs : Nat → Int32} {nm : String} (hst : l.stackTraces = false) (hRf : R.frames = 2048) {C9 S9 : Nat} (hRc : R.cells = C9) (hRs : R.slots = S9) (hC9 : 513000 ≤ C9) (hS9 : 6932000 ≤ S9) (hRl : R.locals = 84000) (hC : xB p s m args meth c cL_law 7 "RangeledgerLaw" nm wsL_law (some .boolean) G (xA (fun _ => none) s.heap.size)) (hX : va_X b L xs s s.heap) (hbl : b < s.heap.size) (hL : L ≤ 3072) {h0 a o : Nat} {N : Int} (hN : N ≤ 590) {s9 : ST} {S : Nat → Bool} {M : HM} {H : Heap} {locs : List Loc} {ls : Array Slot} {i : Int} {cu su : Nat} (hw : xD G (xA (fun _ => none) s.heap.size) s M H locs) (hS : LwS G M h0 a o N s9 S) (hl : lv_has ls 7 [(0, .ref b), (1, .ref h0), (2, .ref a), (3, .ref o), (4, .int (iN (i)))]) (hi : 0 ≤ i ∧ i + 6 ≤ L) (hcu : cu + 1000 ≤ C9) (hsu : su + 15590 ≤ S9) (kk : ∀ (M1 : HM) (H1 : Heap) (locs1 : List Loc) (ls1 : Array Slot) (s1 : ST) (S1 : Nat → Bool), xD G (xA (fun _ => none) s.heap.size) s M1 H1 locs1 → LwS G M1 h0 a o (N + 1) s1 S1 → lv_has ls1 7 [(0, .ref b), (1, .ref h0), (2, .ref a), (3, .ref o), (4, .int (iN (i)))] → mC S1 100 ≤ mC S 100 + 0 → W p l e R s m args below meth c H1 locs1 (cu + 3) (su + (17)) Q (F0 m 2584 ls1 [])) : W p l e R s m args below meth c H locs cu su Q (F0 m 1845 ls []) := by
  obtain ⟨A, B, d, sv, th0, hM, hG, hm, hdA, hdB⟩ := hS
  subst hM
  obtain ⟨O, V, Wv, K, kp, kv, rfd⟩ := s9
  have hbA : ¬ (xA (fun _ => none) s.heap.size) b := fun h9 => h9.elim (fun h8 => h8 rfl) (fun h8 => by omega)
  refine lv_aload_n hC.1 hC.2.1 dL_law_1845 rfl (lv_at hl 1 rfl) ?_
  refine lv_aload_n hC.1 hC.2.1 dL_law_1846 rfl (lv_at hl 3 rfl) ?_
  refine x_callSW hC hw (lv_size hl) ((c_L_drop l G hst hG hN hdA).frame hdB) gL_law_L_drop rfl dv_L_drop_s rfl (Nat.le_of_ble_eq_true rfl) (by rw [hRf]; decide) (by rw [hRl]; decide) (by first | (rw [hRc]; decide) | omega) (by first | (rw [hRs]; decide) | omega) dL_law_1847 (fun r9 M1 H locs hq hw => ?_)
  obtain ⟨Ck_1, ⟨zk_1, hrk_1, Ak_1, dk_1, svk_1, hCk_1, hdA, hw9⟩, hMk_1, hdB⟩ := hq
  subst hrk_1
  subst hCk_1
  subst hMk_1
  have hzrk_1 : 0 ≤ zk_1 ∧ zk_1 ≤ 3 := by rcases hw9 with ⟨h1, _⟩ | ⟨h1, h2, _⟩; (· omega); (· omega)
  show W p l e R s m args below meth c H locs _ _ _ (F0 m 1850 ls [.int (iN (zk_1))])
  refine lv_istore (lv' := [(5, .int (iN (zk_1))), (0, .ref b), (1, .ref h0), (2, .ref a), (3, .ref o), (4, .int (iN (i)))]) hC.1 hC.2.1 dL_law_1850 hl (by decide) rfl (fun ls hl => ?_)
  refine lv_aload_n hC.1 hC.2.1 dL_law_1852 rfl (lv_at hl 3 rfl) ?_
  rw [xU_comm hdB] at hw
  obtain ⟨va, oa, wa, ya, wk, br, re, la, ha, qv, qw, fa, fb, fy, wt, hR, hK⟩ := hm
  replace hR : MGx G B a va oa wa ya wk th0 rfd br re la ha kp kv qv qw fa fb V O fy Wv wt S := hR
  replace hK : abM O wt br re la ha K := hK
  refine x_callV hC hw (lv_size hl) ((c_X5_drop l G hR hK).frame hdB.symm) gL_law_X5_drop rfl dv_X5_drop (xU_l hR.1.1) rfl rfl (Nat.le_of_ble_eq_true rfl) (by rw [hRf]; decide) (by rw [hRl]; decide) (by first | (rw [hRc]; decide) | omega) (by first | (rw [hRs]; decide) | omega) dL_law_1853 (fun r9 M1 H locs hq hw => ?_)
  obtain ⟨Bk_2, ⟨zk_2, thk_2, hrk_2, hzk_2, hv9⟩, hMk_2, hdB9⟩ := hq
  subst hrk_2
  subst hMk_2
  have hdB := hdB9.symm
  rw [xU_comm hdB9] at hw
  obtain ⟨s1, hG, hm, hkt, hthr, hans⟩ : ∃ s1 : ST, RG G Ak_1 h0 (N + 1) s1 ∧ MGm G Bk_2 a S thk_2 s1 ∧ zk_1 = thk_2 ∧ (0 ≤ thk_2 ∧ thk_2 ≤ 3) ∧ (zk_1 = 0 → dk_1 = (iN zk_2).toInt64) := by
    rcases hw9 with ⟨h1, h2, ⟨z8, h3, h4, h5⟩, h6⟩ | ⟨h1, h2, h6⟩
    · rcases hv9 with ⟨g1, g2, g4, g5⟩ | ⟨g1, g2, g5⟩
      · exact ⟨_, h6, g5, by omega, by omega, fun _ => (show dk_1 = (iN zk_2).toInt64 by rw [h3, h5, g4])⟩
      · exfalso; omega
    · rcases hv9 with ⟨g1, g2, g4, g5⟩ | ⟨g1, g2, g5⟩
      · exfalso; omega
      · exact ⟨_, h6, g5, by omega, by omega, fun q9 => absurd q9 h1⟩
  clear hw9 hv9
  show W p l e R s m args below meth c H locs _ _ _ (F0 m 1856 ls [.int (iN (zk_2))])
  refine lv_istore (lv' := [(6, .int (iN (zk_2))), (5, .int (iN (zk_1))), (0, .ref b), (1, .ref h0), (2, .ref a), (3, .ref o), (4, .int (iN (i)))]) hC.1 hC.2.1 dL_law_1856 hl (by decide) rfl (fun ls hl => ?_)
  refine lv_goto (tgt := 2584) hC.1 hC.2.1 dL_law_1858 (by decide) ?_
  refine W.widen (k := cu + 3) (n := su + (17)) (by omega) (by omega) ?_
  exact kk _ _ _ _ _ S hw ⟨_, _, _, _, _, rfl, hG, hm, hdA, hdB⟩ (lv_sub hl [2, 3, 4, 5, 6] rfl) (Nat.le_refl _)
set_option maxHeartbeats 8000000 in
set_option maxRecDepth 100000 in
theorem k_33 {p : Program} {l : Launch} {e : Env} {R : Room} {s : State} {m : MethodId} {args : Array Value} {below : List Frame} {meth : Method} {c : Code} {Q : State → Prop} {G : xG} {b L : Nat} {xs : Nat → Int32} {nm : String} (hst : l.stackTraces = false) (hRf : R.frames = 2048) {C9 S9 : Nat} (hRc : R.cells = C9) (hRs : R.slots = S9) (hC9 : 513000 ≤ C9) (hS9 : 6932000 ≤ S9) (hRl : R.locals = 84000) (hC : xB p s m args meth c cL_law 7 "RangeledgerLaw" nm wsL_law (some .boolean) G (xA (fun _ => none) s.heap.size)) (hX : va_X b L xs s s.heap) (hbl : b < s.heap.size) (hL : L ≤ 3072) {h0 a o : Nat} {N : Int} (hN : N ≤ 590) {s9 : ST} {S : Nat → Bool} {M : HM} {H : Heap} {locs : List Loc} {ls : Array Slot} {i : Int} {cu su : Nat} (hw : xD G (xA (fun _ => none) s.heap.size) s M H locs) (hS : LwS G M h0 a o N s9 S) (hl : lv_has ls 7 [(0, .ref b), (1, .ref h0), (2, .ref a), (3, .ref o), (4, .int (iN (i)))]) (hi : 0 ≤ i ∧ i + 6 ≤ L) (hcu : cu + 1000 ≤ C9) (hsu : su + 15590 ≤ S9) (kk : ∀ (M1 : HM) (H1 : Heap) (locs1 : List Loc) (ls1 : Array Slot) (s1 : ST) (S1 : Nat → Bool), xD G (xA (fun _ => none) s.heap.size) s M1 H1 locs1 → LwS G M1 h0 a o (N + 1) s1 S1 → lv_has ls1 7 [(0, .ref b), (1, .ref h0), (2, .ref a), (3, .ref o), (4, .int (iN (i)))] → mC S1 100 ≤ mC S 100 + 0 → W p l e R s m args below meth c H1 locs1 (cu + 2) (su + (11)) Q (F0 m 2584 ls1 [])) : W p l e R s m args below meth c H locs cu su Q (F0 m 1861 ls []) := by
  obtain ⟨A, B, d, sv, th0, hM, hG, hm, hdA, hdB⟩ := hS
  subst hM
  obtain ⟨O, V, Wv, K, kp, kv, rfd⟩ := s9
  have hbA : ¬ (xA (fun _ => none) s.heap.size) b := fun h9 => h9.elim (fun h8 => h8 rfl) (fun h8 => by omega)
  refine lv_aload_n hC.1 hC.2.1 dL_law_1861 rfl (lv_at hl 1 rfl) ?_
  refine lv_aload_n hC.1 hC.2.1 dL_law_1862 rfl (lv_at hl 0 rfl) ?_
  refine lv_iload hC.1 hC.2.1 dL_law_1863 (lv_at hl 4 rfl) ?_
  refine x_const hC dL_law_1865 ?_
  refine x_iadd hC dL_law_1866 ?_
  refine x_sld hC hw hX hbl hbA (by omega) (by omega) (by omega) dL_law_1867 ?_
  obtain ⟨z_1, hz_1⟩ : ∃ z : Int, z = (xs (i + 1).toNat).toInt := ⟨_, rfl⟩
  rw [← hz_1]
  have hrz_1 : -2147483648 ≤ z_1 ∧ z_1 ≤ 2147483647 := by rw [hz_1]; exact iN_rng _
  refine lv_aload_n hC.1 hC.2.1 dL_law_1868 rfl (lv_at hl 0 rfl) ?_
  refine lv_iload hC.1 hC.2.1 dL_law_1869 (lv_at hl 4 rfl) ?_
  refine x_const hC dL_law_1871 ?_
  refine x_iadd hC dL_law_1872 ?_
  refine x_sld hC hw hX hbl hbA (by omega) (by omega) (by omega) dL_law_1873 ?_
  obtain ⟨z_2, hz_2⟩ : ∃ z : Int, z = (xs (i + 2).toNat).toInt := ⟨_, rfl⟩
  rw [← hz_2]
  have hrz_2 : -2147483648 ≤ z_2 ∧ z_2 ≤ 2147483647 := by rw [hz_2]; exact iN_rng _
  refine x_if_eq (tgt := 1881) hC ⟨by omega, by omega⟩ dL_law_1874 (by decide) (fun c_3 => ?_) (fun c_3 => ?_)
  · refine x_const hC dL_law_1881 ?_
    refine lv_aload_n hC.1 hC.2.1 dL_law_1882 rfl (lv_at hl 3 rfl) ?_
    refine x_callSW hC hw (lv_size hl) ((c_L_keep l G hst hG hN hdA (p0 := z_1) (by omega) (p1 := 0) (by omega) (by omega)).frame hdB) gL_law_L_keep rfl dv_L_keep_s rfl (Nat.le_of_ble_eq_true rfl) (by rw [hRf]; decide) (by rw [hRl]; decide) (by first | (rw [hRc]; decide) | omega) (by first | (rw [hRs]; decide) | omega) dL_law_1883 (fun r9 M1 H locs hq hw => ?_)
    obtain ⟨Ck_4, ⟨zk_4, hrk_4, Ak_4, dk_4, svk_4, hCk_4, hdA, hw9⟩, hMk_4, hdB⟩ := hq
    subst hrk_4
    subst hCk_4
    subst hMk_4
    have hzrk_4 : 0 ≤ zk_4 ∧ zk_4 ≤ 3 := by rcases hw9 with ⟨h1, _⟩ | ⟨h1, h2, _⟩; (· omega); (· omega)
    show W p l e R s m args below meth c H locs _ _ _ (F0 m 1886 ls [.int (iN (zk_4))])
    refine lv_istore (lv' := [(5, .int (iN (zk_4))), (0, .ref b), (1, .ref h0), (2, .ref a), (3, .ref o), (4, .int (iN (i)))]) hC.1 hC.2.1 dL_law_1886 hl (by decide) rfl (fun ls hl => ?_)
    refine lv_aload_n hC.1 hC.2.1 dL_law_1888 rfl (lv_at hl 3 rfl) ?_
    refine lv_aload_n hC.1 hC.2.1 dL_law_1889 rfl (lv_at hl 1 rfl) ?_
    refine lv_iload hC.1 hC.2.1 dL_law_1890 (lv_at hl 5 rfl) ?_
    refine x_const hC dL_law_1892 ?_
    refine x_iadd hC dL_law_1893 ?_
    refine x_sld hC hw hX hbl hbA (by omega) (by omega) (by omega) dL_law_1894 ?_
    rw [← hz_1]
    refine lv_aload_n hC.1 hC.2.1 dL_law_1895 rfl (lv_at hl 1 rfl) ?_
    refine lv_iload hC.1 hC.2.1 dL_law_1896 (lv_at hl 5 rfl) ?_
    refine x_const hC dL_law_1898 ?_
    refine x_iadd hC dL_law_1899 ?_
    refine x_sld hC hw hX hbl hbA (by omega) (by omega) (by omega) dL_law_1900 ?_
    rw [← hz_2]
    refine x_if_eq (tgt := 1908) hC ⟨by omega, by omega⟩ dL_law_1901 (by decide) (fun c_5 => ?_) (fun c_5 => ?_)
    · refine x_const hC dL_law_1908 ?_
      rw [xU_comm hdB] at hw
      obtain ⟨va, oa, wa, ya, wk, br, re, la, ha, qv, qw, fa, fb, fy, wt, hR, hK⟩ := hm
      replace hR : MGx G B a va oa wa ya wk th0 rfd br re la ha kp kv qv qw fa fb V O fy Wv wt S := hR
      replace hK : abM O wt br re la ha K := hK
      refine x_callV hC hw (lv_size hl) ((c_X5_keep l G hR hK (p0 := z_1) (by omega) (p1 := 0) (by omega)).frame hdB.symm) gL_law_X5_keep rfl dv_X5_keep (xU_l hR.1.1) rfl rfl (Nat.le_of_ble_eq_true rfl) (by rw [hRf]; decide) (by rw [hRl]; decide) (by first | (rw [hRc]; decide) | omega) (by first | (rw [hRs]; decide) | omega) dL_law_1909 (fun r9 M1 H locs hq hw => ?_)
      obtain ⟨Bk_6, ⟨zk_6, thk_6, hrk_6, hzk_6, hv9⟩, hMk_6, hdB9⟩ := hq
      subst hrk_6
      subst hMk_6
      have hdB := hdB9.symm
      rw [xU_comm hdB9] at hw
      obtain ⟨s1, hG, hm, hkt, hthr, hans⟩ : ∃ s1 : ST, RG G Ak_4 h0 (N + 1) s1 ∧ MGm G Bk_6 a S thk_6 s1 ∧ zk_4 = thk_6 ∧ (0 ≤ thk_6 ∧ thk_6 ≤ 3) ∧ (zk_4 = 0 → dk_4 = (iN zk_6).toInt64) := by
        rcases hw9 with ⟨h1, h2, ⟨z8, h3, h4, h5⟩, h6⟩ | ⟨h1, h2, h6⟩
        · rcases hv9 with ⟨g1, g2, g4, g5⟩ | ⟨g1, g2, g5⟩
          · exact ⟨_, h6, g5, by omega, by omega, fun _ => (show dk_4 = (iN zk_6).toInt64 by rw [h3, h5, g4])⟩
          · exfalso; omega
        · rcases hv9 with ⟨g1, g2, g4, g5⟩ | ⟨g1, g2, g5⟩
          · exfalso; omega
          · exact ⟨_, h6, g5, by omega, by omega, fun q9 => absurd q9 h1⟩
      clear hw9 hv9
      show W p l e R s m args below meth c H locs _ _ _ (F0 m 1912 ls [.int (iN (zk_6))])
      refine lv_istore (lv' := [(6, .int (iN (zk_6))), (5, .int (iN (zk_4))), (0, .ref b), (1, .ref h0), (2, .ref a), (3, .ref o), (4, .int (iN (i)))]) hC.1 hC.2.1 dL_law_1912 hl (by decide) rfl (fun ls hl => ?_)
      refine lv_goto (tgt := 2584) hC.1 hC.2.1 dL_law_1914 (by decide) ?_
      refine W.widen (k := cu + 2) (n := su + (11)) (by omega) (by omega) ?_
      exact kk _ _ _ _ _ S hw ⟨_, _, _, _, _, rfl, hG, hm, hdA, hdB⟩ (lv_sub hl [2, 3, 4, 5, 6] rfl) (Nat.le_refl _)
    · exact absurd c_3 c_5
  · refine x_const hC dL_law_1877 ?_
    refine lv_goto (tgt := 1882) hC.1 hC.2.1 dL_law_1878 (by decide) ?_
    refine lv_aload_n hC.1 hC.2.1 dL_law_1882 rfl (lv_at hl 3 rfl) ?_
    refine x_callSW hC hw (lv_size hl) ((c_L_keep l G hst hG hN hdA (p0 := z_1) (by omega) (p1 := 1) (by omega) (by omega)).frame hdB) gL_law_L_keep rfl dv_L_keep_s rfl (Nat.le_of_ble_eq_true rfl) (by rw [hRf]; decide) (by rw [hRl]; decide) (by first | (rw [hRc]; decide) | omega) (by first | (rw [hRs]; decide) | omega) dL_law_1883 (fun r9 M1 H locs hq hw => ?_)
    obtain ⟨Ck_7, ⟨zk_7, hrk_7, Ak_7, dk_7, svk_7, hCk_7, hdA, hw9⟩, hMk_7, hdB⟩ := hq
    subst hrk_7
    subst hCk_7
    subst hMk_7
    have hzrk_7 : 0 ≤ zk_7 ∧ zk_7 ≤ 3 := by rcases hw9 with ⟨h1, _⟩ | ⟨h1, h2, _⟩; (· omega); (· omega)
    show W p l e R s m args below meth c H locs _ _ _ (F0 m 1886 ls [.int (iN (zk_7))])
    refine lv_istore (lv' := [(5, .int (iN (zk_7))), (0, .ref b), (1, .ref h0), (2, .ref a), (3, .ref o), (4, .int (iN (i)))]) hC.1 hC.2.1 dL_law_1886 hl (by decide) rfl (fun ls hl => ?_)
    refine lv_aload_n hC.1 hC.2.1 dL_law_1888 rfl (lv_at hl 3 rfl) ?_
    refine lv_aload_n hC.1 hC.2.1 dL_law_1889 rfl (lv_at hl 1 rfl) ?_
    refine lv_iload hC.1 hC.2.1 dL_law_1890 (lv_at hl 5 rfl) ?_
    refine x_const hC dL_law_1892 ?_
    refine x_iadd hC dL_law_1893 ?_
    refine x_sld hC hw hX hbl hbA (by omega) (by omega) (by omega) dL_law_1894 ?_
    rw [← hz_1]
    refine lv_aload_n hC.1 hC.2.1 dL_law_1895 rfl (lv_at hl 1 rfl) ?_
    refine lv_iload hC.1 hC.2.1 dL_law_1896 (lv_at hl 5 rfl) ?_
    refine x_const hC dL_law_1898 ?_
    refine x_iadd hC dL_law_1899 ?_
    refine x_sld hC hw hX hbl hbA (by omega) (by omega) (by omega) dL_law_1900 ?_
    rw [← hz_2]
    refine x_if_eq (tgt := 1908) hC ⟨by omega, by omega⟩ dL_law_1901 (by decide) (fun c_8 => ?_) (fun c_8 => ?_)
    · exact absurd c_8 c_3
    · refine x_const hC dL_law_1904 ?_
      refine lv_goto (tgt := 1909) hC.1 hC.2.1 dL_law_1905 (by decide) ?_
      rw [xU_comm hdB] at hw
      obtain ⟨va, oa, wa, ya, wk, br, re, la, ha, qv, qw, fa, fb, fy, wt, hR, hK⟩ := hm
      replace hR : MGx G B a va oa wa ya wk th0 rfd br re la ha kp kv qv qw fa fb V O fy Wv wt S := hR
      replace hK : abM O wt br re la ha K := hK
      refine x_callV hC hw (lv_size hl) ((c_X5_keep l G hR hK (p0 := z_1) (by omega) (p1 := 1) (by omega)).frame hdB.symm) gL_law_X5_keep rfl dv_X5_keep (xU_l hR.1.1) rfl rfl (Nat.le_of_ble_eq_true rfl) (by rw [hRf]; decide) (by rw [hRl]; decide) (by first | (rw [hRc]; decide) | omega) (by first | (rw [hRs]; decide) | omega) dL_law_1909 (fun r9 M1 H locs hq hw => ?_)
      obtain ⟨Bk_9, ⟨zk_9, thk_9, hrk_9, hzk_9, hv9⟩, hMk_9, hdB9⟩ := hq
      subst hrk_9
      subst hMk_9
      have hdB := hdB9.symm
      rw [xU_comm hdB9] at hw
      obtain ⟨s1, hG, hm, hkt, hthr, hans⟩ : ∃ s1 : ST, RG G Ak_7 h0 (N + 1) s1 ∧ MGm G Bk_9 a S thk_9 s1 ∧ zk_7 = thk_9 ∧ (0 ≤ thk_9 ∧ thk_9 ≤ 3) ∧ (zk_7 = 0 → dk_7 = (iN zk_9).toInt64) := by
        rcases hw9 with ⟨h1, h2, ⟨z8, h3, h4, h5⟩, h6⟩ | ⟨h1, h2, h6⟩
        · rcases hv9 with ⟨g1, g2, g4, g5⟩ | ⟨g1, g2, g5⟩
          · exact ⟨_, h6, g5, by omega, by omega, fun _ => (show dk_7 = (iN zk_9).toInt64 by rw [h3, h5, g4])⟩
          · exfalso; omega
        · rcases hv9 with ⟨g1, g2, g4, g5⟩ | ⟨g1, g2, g5⟩
          · exfalso; omega
          · exact ⟨_, h6, g5, by omega, by omega, fun q9 => absurd q9 h1⟩
      clear hw9 hv9
      show W p l e R s m args below meth c H locs _ _ _ (F0 m 1912 ls [.int (iN (zk_9))])
      refine lv_istore (lv' := [(6, .int (iN (zk_9))), (5, .int (iN (zk_7))), (0, .ref b), (1, .ref h0), (2, .ref a), (3, .ref o), (4, .int (iN (i)))]) hC.1 hC.2.1 dL_law_1912 hl (by decide) rfl (fun ls hl => ?_)
      refine lv_goto (tgt := 2584) hC.1 hC.2.1 dL_law_1914 (by decide) ?_
      refine W.widen (k := cu + 2) (n := su + (11)) (by omega) (by omega) ?_
      exact kk _ _ _ _ _ S hw ⟨_, _, _, _, _, rfl, hG, hm, hdA, hdB⟩ (lv_sub hl [2, 3, 4, 5, 6] rfl) (Nat.le_refl _)
set_option maxHeartbeats 8000000 in
set_option maxRecDepth 100000 in
theorem k_34 {p : Program} {l : Launch} {e : Env} {R : Room} {s : State} {m : MethodId} {args : Array Value} {below : List Frame} {meth : Method} {c : Code} {Q : State → Prop} {G : xG} {b L : Nat} {xs : Nat → Int32} {nm : String} (hst : l.stackTraces = false) (hRf : R.frames = 2048) {C9 S9 : Nat} (hRc : R.cells = C9) (hRs : R.slots = S9) (hC9 : 513000 ≤ C9) (hS9 : 6932000 ≤ S9) (hRl : R.locals = 84000) (hC : xB p s m args meth c cL_law 7 "RangeledgerLaw" nm wsL_law (some .boolean) G (xA (fun _ => none) s.heap.size)) (hX : va_X b L xs s s.heap) (hbl : b < s.heap.size) (hL : L ≤ 3072) {h0 a o : Nat} {N : Int} (hN : N ≤ 590) {s9 : ST} {S : Nat → Bool} {M : HM} {H : Heap} {locs : List Loc} {ls : Array Slot} {i : Int} {cu su : Nat} (hw : xD G (xA (fun _ => none) s.heap.size) s M H locs) (hS : LwS G M h0 a o N s9 S) (hl : lv_has ls 7 [(0, .ref b), (1, .ref h0), (2, .ref a), (3, .ref o), (4, .int (iN (i)))]) (hi : 0 ≤ i ∧ i + 6 ≤ L) (hcu : cu + 1000 ≤ C9) (hsu : su + 15590 ≤ S9) (kk : ∀ (M1 : HM) (H1 : Heap) (locs1 : List Loc) (ls1 : Array Slot) (s1 : ST) (S1 : Nat → Bool), xD G (xA (fun _ => none) s.heap.size) s M1 H1 locs1 → LwS G M1 h0 a o (N + 1) s1 S1 → lv_has ls1 7 [(0, .ref b), (1, .ref h0), (2, .ref a), (3, .ref o), (4, .int (iN (i)))] → mC S1 100 ≤ mC S 100 + 0 → W p l e R s m args below meth c H1 locs1 (cu + 1) (su + (6)) Q (F0 m 2584 ls1 [])) : W p l e R s m args below meth c H locs cu su Q (F0 m 1917 ls []) := by
  obtain ⟨A, B, d, sv, th0, hM, hG, hm, hdA, hdB⟩ := hS
  subst hM
  obtain ⟨O, V, Wv, K, kp, kv, rfd⟩ := s9
  have hbA : ¬ (xA (fun _ => none) s.heap.size) b := fun h9 => h9.elim (fun h8 => h8 rfl) (fun h8 => by omega)
  refine lv_aload_n hC.1 hC.2.1 dL_law_1917 rfl (lv_at hl 1 rfl) ?_
  refine lv_aload_n hC.1 hC.2.1 dL_law_1918 rfl (lv_at hl 0 rfl) ?_
  refine lv_iload hC.1 hC.2.1 dL_law_1919 (lv_at hl 4 rfl) ?_
  refine x_const hC dL_law_1921 ?_
  refine x_iadd hC dL_law_1922 ?_
  refine x_sld hC hw hX hbl hbA (by omega) (by omega) (by omega) dL_law_1923 ?_
  obtain ⟨z_1, hz_1⟩ : ∃ z : Int, z = (xs (i + 1).toNat).toInt := ⟨_, rfl⟩
  rw [← hz_1]
  have hrz_1 : -2147483648 ≤ z_1 ∧ z_1 ≤ 2147483647 := by rw [hz_1]; exact iN_rng _
  refine lv_aload_n hC.1 hC.2.1 dL_law_1924 rfl (lv_at hl 3 rfl) ?_
  refine x_callSW hC hw (lv_size hl) ((c_L_brand l G hst hG hN hdA (p0 := z_1) (by omega)).frame hdB) gL_law_L_brand rfl dv_L_brand_s rfl (Nat.le_of_ble_eq_true rfl) (by rw [hRf]; decide) (by rw [hRl]; decide) (by first | (rw [hRc]; decide) | omega) (by first | (rw [hRs]; decide) | omega) dL_law_1925 (fun r9 M1 H locs hq hw => ?_)
  obtain ⟨Ck_2, ⟨zk_2, hrk_2, Ak_2, dk_2, svk_2, hCk_2, hdA, hw9⟩, hMk_2, hdB⟩ := hq
  subst hrk_2
  subst hCk_2
  subst hMk_2
  have hzrk_2 : 0 ≤ zk_2 ∧ zk_2 ≤ 3 := by rcases hw9 with ⟨h1, _⟩ | ⟨h1, h2, _⟩; (· omega); (· omega)
  show W p l e R s m args below meth c H locs _ _ _ (F0 m 1928 ls [.int (iN (zk_2))])
  refine lv_istore (lv' := [(5, .int (iN (zk_2))), (0, .ref b), (1, .ref h0), (2, .ref a), (3, .ref o), (4, .int (iN (i)))]) hC.1 hC.2.1 dL_law_1928 hl (by decide) rfl (fun ls hl => ?_)
  refine lv_aload_n hC.1 hC.2.1 dL_law_1930 rfl (lv_at hl 3 rfl) ?_
  refine lv_aload_n hC.1 hC.2.1 dL_law_1931 rfl (lv_at hl 1 rfl) ?_
  refine lv_iload hC.1 hC.2.1 dL_law_1932 (lv_at hl 5 rfl) ?_
  refine x_const hC dL_law_1934 ?_
  refine x_iadd hC dL_law_1935 ?_
  refine x_sld hC hw hX hbl hbA (by omega) (by omega) (by omega) dL_law_1936 ?_
  rw [← hz_1]
  rw [xU_comm hdB] at hw
  obtain ⟨va, oa, wa, ya, wk, br, re, la, ha, qv, qw, fa, fb, fy, wt, hR, hK⟩ := hm
  replace hR : MGx G B a va oa wa ya wk th0 rfd br re la ha kp kv qv qw fa fb V O fy Wv wt S := hR
  replace hK : abM O wt br re la ha K := hK
  refine x_callV hC hw (lv_size hl) ((c_X5_brand l G hR hK (p0 := z_1) (by omega)).frame hdB.symm) gL_law_X5_brand rfl dv_X5_brand (xU_l hR.1.1) rfl rfl (Nat.le_of_ble_eq_true rfl) (by rw [hRf]; decide) (by rw [hRl]; decide) (by first | (rw [hRc]; decide) | omega) (by first | (rw [hRs]; decide) | omega) dL_law_1937 (fun r9 M1 H locs hq hw => ?_)
  obtain ⟨Bk_3, ⟨zk_3, thk_3, hrk_3, hzk_3, hv9⟩, hMk_3, hdB9⟩ := hq
  subst hrk_3
  subst hMk_3
  have hdB := hdB9.symm
  rw [xU_comm hdB9] at hw
  obtain ⟨s1, hG, hm, hkt, hthr, hans⟩ : ∃ s1 : ST, RG G Ak_2 h0 (N + 1) s1 ∧ MGm G Bk_3 a S thk_3 s1 ∧ zk_2 = thk_3 ∧ (0 ≤ thk_3 ∧ thk_3 ≤ 3) ∧ (zk_2 = 0 → dk_2 = (iN zk_3).toInt64) := by
    rcases hw9 with ⟨h1, h2, ⟨z8, h3, h4, h5⟩, h6⟩ | ⟨h1, h2, h6⟩
    · rcases hv9 with ⟨g1, g2, g4, g5⟩ | ⟨g1, g2, g5⟩
      · exact ⟨_, h6, g5, by omega, by omega, fun _ => (show dk_2 = (iN zk_3).toInt64 by rw [h3, h5, g4])⟩
      · exfalso; omega
    · rcases hv9 with ⟨g1, g2, g4, g5⟩ | ⟨g1, g2, g5⟩
      · exfalso; omega
      · exact ⟨_, h6, g5, by omega, by omega, fun q9 => absurd q9 h1⟩
  clear hw9 hv9
  show W p l e R s m args below meth c H locs _ _ _ (F0 m 1940 ls [.int (iN (zk_3))])
  refine lv_istore (lv' := [(6, .int (iN (zk_3))), (5, .int (iN (zk_2))), (0, .ref b), (1, .ref h0), (2, .ref a), (3, .ref o), (4, .int (iN (i)))]) hC.1 hC.2.1 dL_law_1940 hl (by decide) rfl (fun ls hl => ?_)
  refine lv_goto (tgt := 2584) hC.1 hC.2.1 dL_law_1942 (by decide) ?_
  refine W.widen (k := cu + 1) (n := su + (6)) (by omega) (by omega) ?_
  exact kk _ _ _ _ _ S hw ⟨_, _, _, _, _, rfl, hG, hm, hdA, hdB⟩ (lv_sub hl [2, 3, 4, 5, 6] rfl) (Nat.le_refl _)
set_option maxHeartbeats 8000000 in
set_option maxRecDepth 100000 in
theorem k_35 {p : Program} {l : Launch} {e : Env} {R : Room} {s : State} {m : MethodId} {args : Array Value} {below : List Frame} {meth : Method} {c : Code} {Q : State → Prop} {G : xG} {b L : Nat} {xs : Nat → Int32} {nm : String} (hst : l.stackTraces = false) (hRf : R.frames = 2048) {C9 S9 : Nat} (hRc : R.cells = C9) (hRs : R.slots = S9) (hC9 : 513000 ≤ C9) (hS9 : 6932000 ≤ S9) (hRl : R.locals = 84000) (hC : xB p s m args meth c cL_law 7 "RangeledgerLaw" nm wsL_law (some .boolean) G (xA (fun _ => none) s.heap.size)) (hX : va_X b L xs s s.heap) (hbl : b < s.heap.size) (hL : L ≤ 3072) {h0 a o : Nat} {N : Int} (hN : N ≤ 590) {s9 : ST} {S : Nat → Bool} {M : HM} {H : Heap} {locs : List Loc} {ls : Array Slot} {i : Int} {cu su : Nat} (hw : xD G (xA (fun _ => none) s.heap.size) s M H locs) (hS : LwS G M h0 a o N s9 S) (hl : lv_has ls 7 [(0, .ref b), (1, .ref h0), (2, .ref a), (3, .ref o), (4, .int (iN (i)))]) (hi : 0 ≤ i ∧ i + 6 ≤ L) (hcu : cu + 1000 ≤ C9) (hsu : su + 15590 ≤ S9) (kk : ∀ (M1 : HM) (H1 : Heap) (locs1 : List Loc) (ls1 : Array Slot) (s1 : ST) (S1 : Nat → Bool), xD G (xA (fun _ => none) s.heap.size) s M1 H1 locs1 → LwS G M1 h0 a o (N + 1) s1 S1 → lv_has ls1 7 [(0, .ref b), (1, .ref h0), (2, .ref a), (3, .ref o), (4, .int (iN (i)))] → mC S1 100 ≤ mC S 100 + 0 → W p l e R s m args below meth c H1 locs1 (cu + 0) (su + (0)) Q (F0 m 2584 ls1 [])) : W p l e R s m args below meth c H locs cu su Q (F0 m 1945 ls []) := by
  obtain ⟨A, B, d, sv, th0, hM, hG, hm, hdA, hdB⟩ := hS
  subst hM
  obtain ⟨O, V, Wv, K, kp, kv, rfd⟩ := s9
  have hbA : ¬ (xA (fun _ => none) s.heap.size) b := fun h9 => h9.elim (fun h8 => h8 rfl) (fun h8 => by omega)
  refine lv_aload_n hC.1 hC.2.1 dL_law_1945 rfl (lv_at hl 1 rfl) ?_
  obtain ⟨bs, vs, og, qb, qk, qv9, fb9, fv, T, C, K0, hR, hK, hcb⟩ := id hG
  replace hK : K = abK T C K0 := hK
  subst hK
  replace hR : RGx G A h0 bs vs og kp kv rfd qb qk qv9 fb9 fv O O Wv V T C K0 := hR
  refine x_callV hC hw (lv_size hl) (((c_X3_knock l G hR hcb hN).frame hdA).frame hdB) gL_law_X3_knock rfl dv_X3_knock (xU_l (xU_l hR.1)) rfl rfl (Nat.le_of_ble_eq_true rfl) (by rw [hRf]; decide) (by rw [hRl]; decide) (by first | (rw [hRc]; decide) | omega) (by first | (rw [hRs]; decide) | omega) dL_law_1946 (fun r9 M1 H locs hq hw => ?_)
  obtain ⟨Ck_1, ⟨Ak_1, ⟨hrk_1, hG⟩, hAk_1, hdA⟩, hMk_1, hdB⟩ := hq
  subst hrk_1
  subst hAk_1
  subst hMk_1
  obtain ⟨kn9, hkn9, hknr⟩ := x_nrm (rfd.toInt + 1)
  rw [hkn9]
  show W p l e R s m args below meth c H locs _ _ _ (F0 m 1949 ls [.int (iN (kn9))])
  refine lv_pop hC.1 hC.2.1 dL_law_1949 rfl ?_
  refine lv_aload_n hC.1 hC.2.1 dL_law_1950 rfl (lv_at hl 2 rfl) ?_
  rw [xU_comm hdB] at hw
  obtain ⟨va, oa, wa, ya, wk, br, re, la, ha, qv, qw, fa, fb, fy, wt, hR, hK⟩ := hm
  replace hR : MGx G B a va oa wa ya wk th0 rfd br re la ha kp kv qv qw fa fb V O fy Wv wt S := hR
  replace hK : abM O wt br re la ha (abK T C K0) := hK
  refine x_callV hC hw (lv_size hl) ((c_X5_knock l G hR hK).frame hdB.symm) gL_law_X5_knock rfl dv_X5_knock (xU_l hR.1.1) rfl rfl (Nat.le_of_ble_eq_true rfl) (by rw [hRf]; decide) (by rw [hRl]; decide) (by first | (rw [hRc]; decide) | omega) (by first | (rw [hRs]; decide) | omega) dL_law_1951 (fun r9 M1 H locs hq hw => ?_)
  obtain ⟨Bk_2, ⟨hrk_2, hm⟩, hMk_2, hdB9⟩ := hq
  subst hrk_2
  subst hMk_2
  have hdB := hdB9.symm
  rw [xU_comm hdB9] at hw
  rw [hkn9]
  show W p l e R s m args below meth c H locs _ _ _ (F0 m 1954 ls [.int (iN (kn9))])
  refine lv_pop hC.1 hC.2.1 dL_law_1954 rfl ?_
  refine lv_goto (tgt := 2584) hC.1 hC.2.1 dL_law_1955 (by decide) ?_
  refine W.widen (k := cu + 0) (n := su + (0)) (by omega) (by omega) ?_
  exact kk _ _ _ _ _ S hw ⟨_, _, _, _, _, rfl, hG, hm, hdA, hdB⟩ (lv_sub hl [0, 1, 2, 3, 4] rfl) (Nat.le_refl _)
set_option maxHeartbeats 8000000 in
set_option maxRecDepth 100000 in
theorem k_36 {p : Program} {l : Launch} {e : Env} {R : Room} {s : State} {m : MethodId} {args : Array Value} {below : List Frame} {meth : Method} {c : Code} {Q : State → Prop} {G : xG} {b L : Nat} {xs : Nat → Int32} {nm : String} (hst : l.stackTraces = false) (hRf : R.frames = 2048) {C9 S9 : Nat} (hRc : R.cells = C9) (hRs : R.slots = S9) (hC9 : 513000 ≤ C9) (hS9 : 6932000 ≤ S9) (hRl : R.locals = 84000) (hC : xB p s m args meth c cL_law 7 "RangeledgerLaw" nm wsL_law (some .boolean) G (xA (fun _ => none) s.heap.size)) (hX : va_X b L xs s s.heap) (hbl : b < s.heap.size) (hL : L ≤ 3072) {h0 a o : Nat} {N : Int} (hN : N ≤ 590) {s9 : ST} {S : Nat → Bool} {M : HM} {H : Heap} {locs : List Loc} {ls : Array Slot} {i : Int} {cu su : Nat} (hw : xD G (xA (fun _ => none) s.heap.size) s M H locs) (hS : LwS G M h0 a o N s9 S) (hl : lv_has ls 7 [(0, .ref b), (1, .ref h0), (2, .ref a), (3, .ref o), (4, .int (iN (i)))]) (hi : 0 ≤ i ∧ i + 6 ≤ L) (hcu : cu + 1000 ≤ C9) (hsu : su + 15590 ≤ S9) (kk : ∀ (M1 : HM) (H1 : Heap) (locs1 : List Loc) (ls1 : Array Slot) (s1 : ST) (S1 : Nat → Bool), xD G (xA (fun _ => none) s.heap.size) s M1 H1 locs1 → LwS G M1 h0 a o (N + 1) s1 S1 → lv_has ls1 7 [(0, .ref b), (1, .ref h0), (2, .ref a), (3, .ref o), (4, .int (iN (i)))] → mC S1 100 ≤ mC S 100 + 0 → W p l e R s m args below meth c H1 locs1 (cu + 2) (su + (12)) Q (F0 m 2584 ls1 [])) : W p l e R s m args below meth c H locs cu su Q (F0 m 1958 ls []) := by
  obtain ⟨A, B, d, sv, th0, hM, hG, hm, hdA, hdB⟩ := hS
  subst hM
  obtain ⟨O, V, Wv, K, kp, kv, rfd⟩ := s9
  have hbA : ¬ (xA (fun _ => none) s.heap.size) b := fun h9 => h9.elim (fun h8 => h8 rfl) (fun h8 => by omega)
  refine lv_aload_n hC.1 hC.2.1 dL_law_1958 rfl (lv_at hl 1 rfl) ?_
  refine lv_aload_n hC.1 hC.2.1 dL_law_1959 rfl (lv_at hl 0 rfl) ?_
  refine lv_iload hC.1 hC.2.1 dL_law_1960 (lv_at hl 4 rfl) ?_
  refine x_const hC dL_law_1962 ?_
  refine x_iadd hC dL_law_1963 ?_
  refine x_sld hC hw hX hbl hbA (by omega) (by omega) (by omega) dL_law_1964 ?_
  obtain ⟨z_1, hz_1⟩ : ∃ z : Int, z = (xs (i + 1).toNat).toInt := ⟨_, rfl⟩
  rw [← hz_1]
  have hrz_1 : -2147483648 ≤ z_1 ∧ z_1 ≤ 2147483647 := by rw [hz_1]; exact iN_rng _
  refine lv_aload_n hC.1 hC.2.1 dL_law_1965 rfl (lv_at hl 0 rfl) ?_
  refine lv_iload hC.1 hC.2.1 dL_law_1966 (lv_at hl 4 rfl) ?_
  refine x_const hC dL_law_1968 ?_
  refine x_iadd hC dL_law_1969 ?_
  refine x_sld hC hw hX hbl hbA (by omega) (by omega) (by omega) dL_law_1970 ?_
  obtain ⟨z_2, hz_2⟩ : ∃ z : Int, z = (xs (i + 2).toNat).toInt := ⟨_, rfl⟩
  rw [← hz_2]
  have hrz_2 : -2147483648 ≤ z_2 ∧ z_2 ≤ 2147483647 := by rw [hz_2]; exact iN_rng _
  refine lv_aload_n hC.1 hC.2.1 dL_law_1971 rfl (lv_at hl 3 rfl) ?_
  refine x_callSW hC hw (lv_size hl) ((c_L_get l G hst hG hN hdA (p0 := z_1) (by omega) (p1 := z_2) (by omega)).frame hdB) gL_law_L_get rfl dv_L_get_s rfl (Nat.le_of_ble_eq_true rfl) (by rw [hRf]; decide) (by rw [hRl]; decide) (by first | (rw [hRc]; decide) | omega) (by first | (rw [hRs]; decide) | omega) dL_law_1972 (fun r9 M1 H locs hq hw => ?_)
  obtain ⟨Ck_3, ⟨zk_3, hrk_3, Ak_3, dk_3, svk_3, hCk_3, hdA, hw9⟩, hMk_3, hdB⟩ := hq
  subst hrk_3
  subst hCk_3
  subst hMk_3
  have hzrk_3 : 0 ≤ zk_3 ∧ zk_3 ≤ 3 := by rcases hw9 with ⟨h1, _⟩ | ⟨h1, h2, _⟩; (· omega); (· omega)
  show W p l e R s m args below meth c H locs _ _ _ (F0 m 1975 ls [.int (iN (zk_3))])
  refine lv_istore (lv' := [(5, .int (iN (zk_3))), (0, .ref b), (1, .ref h0), (2, .ref a), (3, .ref o), (4, .int (iN (i)))]) hC.1 hC.2.1 dL_law_1975 hl (by decide) rfl (fun ls hl => ?_)
  refine lv_aload_n hC.1 hC.2.1 dL_law_1977 rfl (lv_at hl 3 rfl) ?_
  refine lv_aload_n hC.1 hC.2.1 dL_law_1978 rfl (lv_at hl 1 rfl) ?_
  refine lv_iload hC.1 hC.2.1 dL_law_1979 (lv_at hl 5 rfl) ?_
  refine x_const hC dL_law_1981 ?_
  refine x_iadd hC dL_law_1982 ?_
  refine x_sld hC hw hX hbl hbA (by omega) (by omega) (by omega) dL_law_1983 ?_
  rw [← hz_1]
  refine lv_aload_n hC.1 hC.2.1 dL_law_1984 rfl (lv_at hl 1 rfl) ?_
  refine lv_iload hC.1 hC.2.1 dL_law_1985 (lv_at hl 5 rfl) ?_
  refine x_const hC dL_law_1987 ?_
  refine x_iadd hC dL_law_1988 ?_
  refine x_sld hC hw hX hbl hbA (by omega) (by omega) (by omega) dL_law_1989 ?_
  rw [← hz_2]
  rw [xU_comm hdB] at hw
  obtain ⟨va, oa, wa, ya, wk, br, re, la, ha, qv, qw, fa, fb, fy, wt, hR, hK⟩ := hm
  replace hR : MGx G B a va oa wa ya wk th0 rfd br re la ha kp kv qv qw fa fb V O fy Wv wt S := hR
  replace hK : abM O wt br re la ha K := hK
  refine x_callV hC hw (lv_size hl) ((c_X5_get l G hR hK (p0 := z_1) (by omega) (p1 := z_2) (by omega)).frame hdB.symm) gL_law_X5_get rfl dv_X5_get (xU_l hR.1.1) rfl rfl (Nat.le_of_ble_eq_true rfl) (by rw [hRf]; decide) (by rw [hRl]; decide) (by first | (rw [hRc]; decide) | omega) (by first | (rw [hRs]; decide) | omega) dL_law_1990 (fun r9 M1 H locs hq hw => ?_)
  obtain ⟨Bk_4, ⟨zk_4, thk_4, hrk_4, hzk_4, hv9⟩, hMk_4, hdB9⟩ := hq
  subst hrk_4
  subst hMk_4
  have hdB := hdB9.symm
  rw [xU_comm hdB9] at hw
  obtain ⟨s1, hG, hm, hkt, hthr, hans⟩ : ∃ s1 : ST, RG G Ak_3 h0 (N + 1) s1 ∧ MGm G Bk_4 a S thk_4 s1 ∧ zk_3 = thk_4 ∧ (0 ≤ thk_4 ∧ thk_4 ≤ 3) ∧ (zk_3 = 0 → dk_3 = (iN zk_4).toInt64) := by
    rcases hw9 with ⟨h1, h2, ⟨z8, h3, h4, h5⟩, h6⟩ | ⟨h1, h2, h6⟩
    · rcases hv9 with ⟨g1, g2, g4, g5⟩ | ⟨g1, g2, g5⟩
      · exact ⟨_, h6, g5, by omega, by omega, fun _ => (show dk_3 = (iN zk_4).toInt64 by rw [h3, h5, g4])⟩
      · exfalso; omega
    · rcases hv9 with ⟨g1, g2, g4, g5⟩ | ⟨g1, g2, g5⟩
      · exfalso; omega
      · exact ⟨_, h6, g5, by omega, by omega, fun q9 => absurd q9 h1⟩
  clear hw9 hv9
  show W p l e R s m args below meth c H locs _ _ _ (F0 m 1993 ls [.int (iN (zk_4))])
  refine lv_istore (lv' := [(6, .int (iN (zk_4))), (5, .int (iN (zk_3))), (0, .ref b), (1, .ref h0), (2, .ref a), (3, .ref o), (4, .int (iN (i)))]) hC.1 hC.2.1 dL_law_1993 hl (by decide) rfl (fun ls hl => ?_)
  refine lv_goto (tgt := 2584) hC.1 hC.2.1 dL_law_1995 (by decide) ?_
  refine W.widen (k := cu + 2) (n := su + (12)) (by omega) (by omega) ?_
  exact kk _ _ _ _ _ S hw ⟨_, _, _, _, _, rfl, hG, hm, hdA, hdB⟩ (lv_sub hl [2, 3, 4, 5, 6] rfl) (Nat.le_refl _)
set_option maxHeartbeats 8000000 in
set_option maxRecDepth 100000 in
theorem k_37 {p : Program} {l : Launch} {e : Env} {R : Room} {s : State} {m : MethodId} {args : Array Value} {below : List Frame} {meth : Method} {c : Code} {Q : State → Prop} {G : xG} {b L : Nat} {xs : Nat → Int32} {nm : String} (hst : l.stackTraces = false) (hRf : R.frames = 2048) {C9 S9 : Nat} (hRc : R.cells = C9) (hRs : R.slots = S9) (hC9 : 513000 ≤ C9) (hS9 : 6932000 ≤ S9) (hRl : R.locals = 84000) (hC : xB p s m args meth c cL_law 7 "RangeledgerLaw" nm wsL_law (some .boolean) G (xA (fun _ => none) s.heap.size)) (hX : va_X b L xs s s.heap) (hbl : b < s.heap.size) (hL : L ≤ 3072) {h0 a o : Nat} {N : Int} (hN : N ≤ 590) {s9 : ST} {S : Nat → Bool} {M : HM} {H : Heap} {locs : List Loc} {ls : Array Slot} {i : Int} {cu su : Nat} (hw : xD G (xA (fun _ => none) s.heap.size) s M H locs) (hS : LwS G M h0 a o N s9 S) (hl : lv_has ls 7 [(0, .ref b), (1, .ref h0), (2, .ref a), (3, .ref o), (4, .int (iN (i)))]) (hi : 0 ≤ i ∧ i + 6 ≤ L) (hcu : cu + 1000 ≤ C9) (hsu : su + 15590 ≤ S9) (kk : ∀ (M1 : HM) (H1 : Heap) (locs1 : List Loc) (ls1 : Array Slot) (s1 : ST) (S1 : Nat → Bool), xD G (xA (fun _ => none) s.heap.size) s M1 H1 locs1 → LwS G M1 h0 a o (N + 1) s1 S1 → lv_has ls1 7 [(0, .ref b), (1, .ref h0), (2, .ref a), (3, .ref o), (4, .int (iN (i)))] → mC S1 100 ≤ mC S 100 + 0 → W p l e R s m args below meth c H1 locs1 (cu + 3) (su + (18)) Q (F0 m 2584 ls1 [])) : W p l e R s m args below meth c H locs cu su Q (F0 m 1998 ls []) := by
  obtain ⟨A, B, d, sv, th0, hM, hG, hm, hdA, hdB⟩ := hS
  subst hM
  obtain ⟨O, V, Wv, K, kp, kv, rfd⟩ := s9
  have hbA : ¬ (xA (fun _ => none) s.heap.size) b := fun h9 => h9.elim (fun h8 => h8 rfl) (fun h8 => by omega)
  refine lv_aload_n hC.1 hC.2.1 dL_law_1998 rfl (lv_at hl 1 rfl) ?_
  refine lv_aload_n hC.1 hC.2.1 dL_law_1999 rfl (lv_at hl 0 rfl) ?_
  refine lv_iload hC.1 hC.2.1 dL_law_2000 (lv_at hl 4 rfl) ?_
  refine x_const hC dL_law_2002 ?_
  refine x_iadd hC dL_law_2003 ?_
  refine x_sld hC hw hX hbl hbA (by omega) (by omega) (by omega) dL_law_2004 ?_
  obtain ⟨z_1, hz_1⟩ : ∃ z : Int, z = (xs (i + 1).toNat).toInt := ⟨_, rfl⟩
  rw [← hz_1]
  have hrz_1 : -2147483648 ≤ z_1 ∧ z_1 ≤ 2147483647 := by rw [hz_1]; exact iN_rng _
  refine lv_aload_n hC.1 hC.2.1 dL_law_2005 rfl (lv_at hl 0 rfl) ?_
  refine lv_iload hC.1 hC.2.1 dL_law_2006 (lv_at hl 4 rfl) ?_
  refine x_const hC dL_law_2008 ?_
  refine x_iadd hC dL_law_2009 ?_
  refine x_sld hC hw hX hbl hbA (by omega) (by omega) (by omega) dL_law_2010 ?_
  obtain ⟨z_2, hz_2⟩ : ∃ z : Int, z = (xs (i + 2).toNat).toInt := ⟨_, rfl⟩
  rw [← hz_2]
  have hrz_2 : -2147483648 ≤ z_2 ∧ z_2 ≤ 2147483647 := by rw [hz_2]; exact iN_rng _
  refine lv_aload_n hC.1 hC.2.1 dL_law_2011 rfl (lv_at hl 0 rfl) ?_
  refine lv_iload hC.1 hC.2.1 dL_law_2012 (lv_at hl 4 rfl) ?_
  refine x_const hC dL_law_2014 ?_
  refine x_iadd hC dL_law_2015 ?_
  refine x_sld hC hw hX hbl hbA (by omega) (by omega) (by omega) dL_law_2016 ?_
  obtain ⟨z_3, hz_3⟩ : ∃ z : Int, z = (xs (i + 3).toNat).toInt := ⟨_, rfl⟩
  rw [← hz_3]
  have hrz_3 : -2147483648 ≤ z_3 ∧ z_3 ≤ 2147483647 := by rw [hz_3]; exact iN_rng _
  refine lv_aload_n hC.1 hC.2.1 dL_law_2017 rfl (lv_at hl 3 rfl) ?_
  refine x_callSW hC hw (lv_size hl) ((c_L_getOr l G hst hG hN hdA (p0 := z_1) (by omega) (p1 := z_2) (by omega) (p2 := z_3) (by omega)).frame hdB) gL_law_L_getOr rfl dv_L_getOr_s rfl (Nat.le_of_ble_eq_true rfl) (by rw [hRf]; decide) (by rw [hRl]; decide) (by first | (rw [hRc]; decide) | omega) (by first | (rw [hRs]; decide) | omega) dL_law_2018 (fun r9 M1 H locs hq hw => ?_)
  obtain ⟨Ck_4, ⟨zk_4, hrk_4, Ak_4, dk_4, svk_4, hCk_4, hdA, hw9⟩, hMk_4, hdB⟩ := hq
  subst hrk_4
  subst hCk_4
  subst hMk_4
  have hzrk_4 : 0 ≤ zk_4 ∧ zk_4 ≤ 3 := by rcases hw9 with ⟨h1, _⟩ | ⟨h1, h2, _⟩; (· omega); (· omega)
  show W p l e R s m args below meth c H locs _ _ _ (F0 m 2021 ls [.int (iN (zk_4))])
  refine lv_istore (lv' := [(5, .int (iN (zk_4))), (0, .ref b), (1, .ref h0), (2, .ref a), (3, .ref o), (4, .int (iN (i)))]) hC.1 hC.2.1 dL_law_2021 hl (by decide) rfl (fun ls hl => ?_)
  refine lv_aload_n hC.1 hC.2.1 dL_law_2023 rfl (lv_at hl 3 rfl) ?_
  refine lv_aload_n hC.1 hC.2.1 dL_law_2024 rfl (lv_at hl 1 rfl) ?_
  refine lv_iload hC.1 hC.2.1 dL_law_2025 (lv_at hl 5 rfl) ?_
  refine x_const hC dL_law_2027 ?_
  refine x_iadd hC dL_law_2028 ?_
  refine x_sld hC hw hX hbl hbA (by omega) (by omega) (by omega) dL_law_2029 ?_
  rw [← hz_1]
  refine lv_aload_n hC.1 hC.2.1 dL_law_2030 rfl (lv_at hl 1 rfl) ?_
  refine lv_iload hC.1 hC.2.1 dL_law_2031 (lv_at hl 5 rfl) ?_
  refine x_const hC dL_law_2033 ?_
  refine x_iadd hC dL_law_2034 ?_
  refine x_sld hC hw hX hbl hbA (by omega) (by omega) (by omega) dL_law_2035 ?_
  rw [← hz_2]
  refine lv_aload_n hC.1 hC.2.1 dL_law_2036 rfl (lv_at hl 1 rfl) ?_
  refine lv_iload hC.1 hC.2.1 dL_law_2037 (lv_at hl 5 rfl) ?_
  refine x_const hC dL_law_2039 ?_
  refine x_iadd hC dL_law_2040 ?_
  refine x_sld hC hw hX hbl hbA (by omega) (by omega) (by omega) dL_law_2041 ?_
  rw [← hz_3]
  rw [xU_comm hdB] at hw
  obtain ⟨va, oa, wa, ya, wk, br, re, la, ha, qv, qw, fa, fb, fy, wt, hR, hK⟩ := hm
  replace hR : MGx G B a va oa wa ya wk th0 rfd br re la ha kp kv qv qw fa fb V O fy Wv wt S := hR
  replace hK : abM O wt br re la ha K := hK
  refine x_callV hC hw (lv_size hl) ((c_X5_getOr l G hR hK (p0 := z_1) (by omega) (p1 := z_2) (by omega) (p2 := z_3) (by omega)).frame hdB.symm) gL_law_X5_getOr rfl dv_X5_getOr (xU_l hR.1.1) rfl rfl (Nat.le_of_ble_eq_true rfl) (by rw [hRf]; decide) (by rw [hRl]; decide) (by first | (rw [hRc]; decide) | omega) (by first | (rw [hRs]; decide) | omega) dL_law_2042 (fun r9 M1 H locs hq hw => ?_)
  obtain ⟨Bk_5, ⟨zk_5, thk_5, hrk_5, hzk_5, hv9⟩, hMk_5, hdB9⟩ := hq
  subst hrk_5
  subst hMk_5
  have hdB := hdB9.symm
  rw [xU_comm hdB9] at hw
  obtain ⟨s1, hG, hm, hkt, hthr, hans⟩ : ∃ s1 : ST, RG G Ak_4 h0 (N + 1) s1 ∧ MGm G Bk_5 a S thk_5 s1 ∧ zk_4 = thk_5 ∧ (0 ≤ thk_5 ∧ thk_5 ≤ 3) ∧ (zk_4 = 0 → dk_4 = (iN zk_5).toInt64) := by
    rcases hw9 with ⟨h1, h2, ⟨z8, h3, h4, h5⟩, h6⟩ | ⟨h1, h2, h6⟩
    · rcases hv9 with ⟨g1, g2, g4, g5⟩ | ⟨g1, g2, g5⟩
      · exact ⟨_, h6, g5, by omega, by omega, fun _ => (show dk_4 = (iN zk_5).toInt64 by rw [h3, h5, g4])⟩
      · exfalso; omega
    · rcases hv9 with ⟨g1, g2, g4, g5⟩ | ⟨g1, g2, g5⟩
      · exfalso; omega
      · exact ⟨_, h6, g5, by omega, by omega, fun q9 => absurd q9 h1⟩
  clear hw9 hv9
  show W p l e R s m args below meth c H locs _ _ _ (F0 m 2045 ls [.int (iN (zk_5))])
  refine lv_istore (lv' := [(6, .int (iN (zk_5))), (5, .int (iN (zk_4))), (0, .ref b), (1, .ref h0), (2, .ref a), (3, .ref o), (4, .int (iN (i)))]) hC.1 hC.2.1 dL_law_2045 hl (by decide) rfl (fun ls hl => ?_)
  refine lv_goto (tgt := 2584) hC.1 hC.2.1 dL_law_2047 (by decide) ?_
  refine W.widen (k := cu + 3) (n := su + (18)) (by omega) (by omega) ?_
  exact kk _ _ _ _ _ S hw ⟨_, _, _, _, _, rfl, hG, hm, hdA, hdB⟩ (lv_sub hl [2, 3, 4, 5, 6] rfl) (Nat.le_refl _)
set_option maxHeartbeats 8000000 in
set_option maxRecDepth 100000 in
theorem k_38 {p : Program} {l : Launch} {e : Env} {R : Room} {s : State} {m : MethodId} {args : Array Value} {below : List Frame} {meth : Method} {c : Code} {Q : State → Prop} {G : xG} {b L : Nat} {xs : Nat → Int32} {nm : String} (hst : l.stackTraces = false) (hRf : R.frames = 2048) {C9 S9 : Nat} (hRc : R.cells = C9) (hRs : R.slots = S9) (hC9 : 513000 ≤ C9) (hS9 : 6932000 ≤ S9) (hRl : R.locals = 84000) (hC : xB p s m args meth c cL_law 7 "RangeledgerLaw" nm wsL_law (some .boolean) G (xA (fun _ => none) s.heap.size)) (hX : va_X b L xs s s.heap) (hbl : b < s.heap.size) (hL : L ≤ 3072) {h0 a o : Nat} {N : Int} (hN : N ≤ 590) {s9 : ST} {S : Nat → Bool} {M : HM} {H : Heap} {locs : List Loc} {ls : Array Slot} {i : Int} {cu su : Nat} (hw : xD G (xA (fun _ => none) s.heap.size) s M H locs) (hS : LwS G M h0 a o N s9 S) (hl : lv_has ls 7 [(0, .ref b), (1, .ref h0), (2, .ref a), (3, .ref o), (4, .int (iN (i)))]) (hi : 0 ≤ i ∧ i + 6 ≤ L) (hcu : cu + 1000 ≤ C9) (hsu : su + 15590 ≤ S9) (kk : ∀ (M1 : HM) (H1 : Heap) (locs1 : List Loc) (ls1 : Array Slot) (s1 : ST) (S1 : Nat → Bool), xD G (xA (fun _ => none) s.heap.size) s M1 H1 locs1 → LwS G M1 h0 a o (N + 1) s1 S1 → lv_has ls1 7 [(0, .ref b), (1, .ref h0), (2, .ref a), (3, .ref o), (4, .int (iN (i)))] → mC S1 100 ≤ mC S 100 + 0 → W p l e R s m args below meth c H1 locs1 (cu + 2) (su + (12)) Q (F0 m 2584 ls1 [])) : W p l e R s m args below meth c H locs cu su Q (F0 m 2050 ls []) := by
  obtain ⟨A, B, d, sv, th0, hM, hG, hm, hdA, hdB⟩ := hS
  subst hM
  obtain ⟨O, V, Wv, K, kp, kv, rfd⟩ := s9
  have hbA : ¬ (xA (fun _ => none) s.heap.size) b := fun h9 => h9.elim (fun h8 => h8 rfl) (fun h8 => by omega)
  refine lv_aload_n hC.1 hC.2.1 dL_law_2050 rfl (lv_at hl 1 rfl) ?_
  refine lv_aload_n hC.1 hC.2.1 dL_law_2051 rfl (lv_at hl 0 rfl) ?_
  refine lv_iload hC.1 hC.2.1 dL_law_2052 (lv_at hl 4 rfl) ?_
  refine x_const hC dL_law_2054 ?_
  refine x_iadd hC dL_law_2055 ?_
  refine x_sld hC hw hX hbl hbA (by omega) (by omega) (by omega) dL_law_2056 ?_
  obtain ⟨z_1, hz_1⟩ : ∃ z : Int, z = (xs (i + 1).toNat).toInt := ⟨_, rfl⟩
  rw [← hz_1]
  have hrz_1 : -2147483648 ≤ z_1 ∧ z_1 ≤ 2147483647 := by rw [hz_1]; exact iN_rng _
  refine lv_aload_n hC.1 hC.2.1 dL_law_2057 rfl (lv_at hl 0 rfl) ?_
  refine lv_iload hC.1 hC.2.1 dL_law_2058 (lv_at hl 4 rfl) ?_
  refine x_const hC dL_law_2060 ?_
  refine x_iadd hC dL_law_2061 ?_
  refine x_sld hC hw hX hbl hbA (by omega) (by omega) (by omega) dL_law_2062 ?_
  obtain ⟨z_2, hz_2⟩ : ∃ z : Int, z = (xs (i + 2).toNat).toInt := ⟨_, rfl⟩
  rw [← hz_2]
  have hrz_2 : -2147483648 ≤ z_2 ∧ z_2 ≤ 2147483647 := by rw [hz_2]; exact iN_rng _
  refine lv_aload_n hC.1 hC.2.1 dL_law_2063 rfl (lv_at hl 3 rfl) ?_
  refine x_callSW hC hw (lv_size hl) ((c_L_has l G hst hG hN hdA (p0 := z_1) (by omega) (p1 := z_2) (by omega)).frame hdB) gL_law_L_has rfl dv_L_has_s rfl (Nat.le_of_ble_eq_true rfl) (by rw [hRf]; decide) (by rw [hRl]; decide) (by first | (rw [hRc]; decide) | omega) (by first | (rw [hRs]; decide) | omega) dL_law_2064 (fun r9 M1 H locs hq hw => ?_)
  obtain ⟨Ck_3, ⟨zk_3, hrk_3, Ak_3, dk_3, svk_3, hCk_3, hdA, hw9⟩, hMk_3, hdB⟩ := hq
  subst hrk_3
  subst hCk_3
  subst hMk_3
  have hzrk_3 : 0 ≤ zk_3 ∧ zk_3 ≤ 3 := by rcases hw9 with ⟨h1, _⟩ | ⟨h1, h2, _⟩; (· omega); (· omega)
  show W p l e R s m args below meth c H locs _ _ _ (F0 m 2067 ls [.int (iN (zk_3))])
  refine lv_istore (lv' := [(5, .int (iN (zk_3))), (0, .ref b), (1, .ref h0), (2, .ref a), (3, .ref o), (4, .int (iN (i)))]) hC.1 hC.2.1 dL_law_2067 hl (by decide) rfl (fun ls hl => ?_)
  refine lv_aload_n hC.1 hC.2.1 dL_law_2069 rfl (lv_at hl 3 rfl) ?_
  refine lv_aload_n hC.1 hC.2.1 dL_law_2070 rfl (lv_at hl 1 rfl) ?_
  refine lv_iload hC.1 hC.2.1 dL_law_2071 (lv_at hl 5 rfl) ?_
  refine x_const hC dL_law_2073 ?_
  refine x_iadd hC dL_law_2074 ?_
  refine x_sld hC hw hX hbl hbA (by omega) (by omega) (by omega) dL_law_2075 ?_
  rw [← hz_1]
  refine lv_aload_n hC.1 hC.2.1 dL_law_2076 rfl (lv_at hl 1 rfl) ?_
  refine lv_iload hC.1 hC.2.1 dL_law_2077 (lv_at hl 5 rfl) ?_
  refine x_const hC dL_law_2079 ?_
  refine x_iadd hC dL_law_2080 ?_
  refine x_sld hC hw hX hbl hbA (by omega) (by omega) (by omega) dL_law_2081 ?_
  rw [← hz_2]
  rw [xU_comm hdB] at hw
  obtain ⟨va, oa, wa, ya, wk, br, re, la, ha, qv, qw, fa, fb, fy, wt, hR, hK⟩ := hm
  replace hR : MGx G B a va oa wa ya wk th0 rfd br re la ha kp kv qv qw fa fb V O fy Wv wt S := hR
  replace hK : abM O wt br re la ha K := hK
  refine x_callV hC hw (lv_size hl) ((c_X5_has l G hR hK (p0 := z_1) (by omega) (p1 := z_2) (by omega)).frame hdB.symm) gL_law_X5_has rfl dv_X5_has (xU_l hR.1.1) rfl rfl (Nat.le_of_ble_eq_true rfl) (by rw [hRf]; decide) (by rw [hRl]; decide) (by first | (rw [hRc]; decide) | omega) (by first | (rw [hRs]; decide) | omega) dL_law_2082 (fun r9 M1 H locs hq hw => ?_)
  obtain ⟨Bk_4, ⟨zk_4, thk_4, hrk_4, hzk_4, hv9⟩, hMk_4, hdB9⟩ := hq
  subst hrk_4
  subst hMk_4
  have hdB := hdB9.symm
  rw [xU_comm hdB9] at hw
  obtain ⟨s1, hG, hm, hkt, hthr, hans, hbo⟩ : ∃ s1 : ST, RG G Ak_3 h0 (N + 1) s1 ∧ MGm G Bk_4 a S thk_4 s1 ∧ zk_3 = thk_4 ∧ (0 ≤ thk_4 ∧ thk_4 ≤ 3) ∧ (zk_3 = 0 → dk_3 = (iN zk_4).toInt64) ∧ (zk_3 = 0 → zk_4 = 0 ∨ zk_4 = 1) := by
    rcases hw9 with ⟨h1, h2, ⟨z8, h3, h4, h5⟩, h6⟩ | ⟨h1, h2, h6⟩
    · rcases hv9 with ⟨g1, g2, g4, g5⟩ | ⟨g1, g2, g5⟩
      · exact ⟨_, h6, g5, by omega, by omega, fun _ => (show dk_3 = (iN zk_4).toInt64 by rw [h3, h5, g4]), fun _ => by rw [g4]; unfold A_has; split <;> simp⟩
      · exfalso; omega
    · rcases hv9 with ⟨g1, g2, g4, g5⟩ | ⟨g1, g2, g5⟩
      · exfalso; omega
      · exact ⟨_, h6, g5, by omega, by omega, fun q9 => absurd q9 h1, fun q9 => absurd q9 h1⟩
  clear hw9 hv9
  show W p l e R s m args below meth c H locs _ _ _ (F0 m 2085 ls [.int (iN (zk_4))])
  refine lv_istore (lv' := [(6, .int (iN (zk_4))), (5, .int (iN (zk_3))), (0, .ref b), (1, .ref h0), (2, .ref a), (3, .ref o), (4, .int (iN (i)))]) hC.1 hC.2.1 dL_law_2085 hl (by decide) rfl (fun ls hl => ?_)
  refine lv_goto (tgt := 2584) hC.1 hC.2.1 dL_law_2087 (by decide) ?_
  refine W.widen (k := cu + 2) (n := su + (12)) (by omega) (by omega) ?_
  exact kk _ _ _ _ _ S hw ⟨_, _, _, _, _, rfl, hG, hm, hdA, hdB⟩ (lv_sub hl [2, 3, 4, 5, 6] rfl) (Nat.le_refl _)
set_option maxHeartbeats 8000000 in
set_option maxRecDepth 100000 in
theorem k_39 {p : Program} {l : Launch} {e : Env} {R : Room} {s : State} {m : MethodId} {args : Array Value} {below : List Frame} {meth : Method} {c : Code} {Q : State → Prop} {G : xG} {b L : Nat} {xs : Nat → Int32} {nm : String} (hst : l.stackTraces = false) (hRf : R.frames = 2048) {C9 S9 : Nat} (hRc : R.cells = C9) (hRs : R.slots = S9) (hC9 : 513000 ≤ C9) (hS9 : 6932000 ≤ S9) (hRl : R.locals = 84000) (hC : xB p s m args meth c cL_law 7 "RangeledgerLaw" nm wsL_law (some .boolean) G (xA (fun _ => none) s.heap.size)) (hX : va_X b L xs s s.heap) (hbl : b < s.heap.size) (hL : L ≤ 3072) {h0 a o : Nat} {N : Int} (hN : N ≤ 590) {s9 : ST} {S : Nat → Bool} {M : HM} {H : Heap} {locs : List Loc} {ls : Array Slot} {i : Int} {cu su : Nat} (hw : xD G (xA (fun _ => none) s.heap.size) s M H locs) (hS : LwS G M h0 a o N s9 S) (hl : lv_has ls 7 [(0, .ref b), (1, .ref h0), (2, .ref a), (3, .ref o), (4, .int (iN (i)))]) (hi : 0 ≤ i ∧ i + 6 ≤ L) (hcu : cu + 1000 ≤ C9) (hsu : su + 15590 ≤ S9) (kk : ∀ (M1 : HM) (H1 : Heap) (locs1 : List Loc) (ls1 : Array Slot) (s1 : ST) (S1 : Nat → Bool), xD G (xA (fun _ => none) s.heap.size) s M1 H1 locs1 → LwS G M1 h0 a o (N + 1) s1 S1 → lv_has ls1 7 [(0, .ref b), (1, .ref h0), (2, .ref a), (3, .ref o), (4, .int (iN (i)))] → mC S1 100 ≤ mC S 100 + 0 → W p l e R s m args below meth c H1 locs1 (cu + 2) (su + (12)) Q (F0 m 2584 ls1 [])) : W p l e R s m args below meth c H locs cu su Q (F0 m 2090 ls []) := by
  obtain ⟨A, B, d, sv, th0, hM, hG, hm, hdA, hdB⟩ := hS
  subst hM
  obtain ⟨O, V, Wv, K, kp, kv, rfd⟩ := s9
  have hbA : ¬ (xA (fun _ => none) s.heap.size) b := fun h9 => h9.elim (fun h8 => h8 rfl) (fun h8 => by omega)
  refine lv_aload_n hC.1 hC.2.1 dL_law_2090 rfl (lv_at hl 1 rfl) ?_
  refine lv_aload_n hC.1 hC.2.1 dL_law_2091 rfl (lv_at hl 0 rfl) ?_
  refine lv_iload hC.1 hC.2.1 dL_law_2092 (lv_at hl 4 rfl) ?_
  refine x_const hC dL_law_2094 ?_
  refine x_iadd hC dL_law_2095 ?_
  refine x_sld hC hw hX hbl hbA (by omega) (by omega) (by omega) dL_law_2096 ?_
  obtain ⟨z_1, hz_1⟩ : ∃ z : Int, z = (xs (i + 1).toNat).toInt := ⟨_, rfl⟩
  rw [← hz_1]
  have hrz_1 : -2147483648 ≤ z_1 ∧ z_1 ≤ 2147483647 := by rw [hz_1]; exact iN_rng _
  refine lv_aload_n hC.1 hC.2.1 dL_law_2097 rfl (lv_at hl 0 rfl) ?_
  refine lv_iload hC.1 hC.2.1 dL_law_2098 (lv_at hl 4 rfl) ?_
  refine x_const hC dL_law_2100 ?_
  refine x_iadd hC dL_law_2101 ?_
  refine x_sld hC hw hX hbl hbA (by omega) (by omega) (by omega) dL_law_2102 ?_
  obtain ⟨z_2, hz_2⟩ : ∃ z : Int, z = (xs (i + 2).toNat).toInt := ⟨_, rfl⟩
  rw [← hz_2]
  have hrz_2 : -2147483648 ≤ z_2 ∧ z_2 ≤ 2147483647 := by rw [hz_2]; exact iN_rng _
  refine lv_aload_n hC.1 hC.2.1 dL_law_2103 rfl (lv_at hl 3 rfl) ?_
  refine x_callSW hC hw (lv_size hl) ((c_L_hasValue l G hst hG hN hdA (p0 := z_1) (by omega) (p1 := z_2) (by omega)).frame hdB) gL_law_L_hasValue rfl dv_L_hasValue_s rfl (Nat.le_of_ble_eq_true rfl) (by rw [hRf]; decide) (by rw [hRl]; decide) (by first | (rw [hRc]; decide) | omega) (by first | (rw [hRs]; decide) | omega) dL_law_2104 (fun r9 M1 H locs hq hw => ?_)
  obtain ⟨Ck_3, ⟨zk_3, hrk_3, Ak_3, dk_3, svk_3, hCk_3, hdA, hw9⟩, hMk_3, hdB⟩ := hq
  subst hrk_3
  subst hCk_3
  subst hMk_3
  have hzrk_3 : 0 ≤ zk_3 ∧ zk_3 ≤ 3 := by rcases hw9 with ⟨h1, _⟩ | ⟨h1, h2, _⟩; (· omega); (· omega)
  show W p l e R s m args below meth c H locs _ _ _ (F0 m 2107 ls [.int (iN (zk_3))])
  refine lv_istore (lv' := [(5, .int (iN (zk_3))), (0, .ref b), (1, .ref h0), (2, .ref a), (3, .ref o), (4, .int (iN (i)))]) hC.1 hC.2.1 dL_law_2107 hl (by decide) rfl (fun ls hl => ?_)
  refine lv_aload_n hC.1 hC.2.1 dL_law_2109 rfl (lv_at hl 3 rfl) ?_
  refine lv_aload_n hC.1 hC.2.1 dL_law_2110 rfl (lv_at hl 1 rfl) ?_
  refine lv_iload hC.1 hC.2.1 dL_law_2111 (lv_at hl 5 rfl) ?_
  refine x_const hC dL_law_2113 ?_
  refine x_iadd hC dL_law_2114 ?_
  refine x_sld hC hw hX hbl hbA (by omega) (by omega) (by omega) dL_law_2115 ?_
  rw [← hz_1]
  refine lv_aload_n hC.1 hC.2.1 dL_law_2116 rfl (lv_at hl 1 rfl) ?_
  refine lv_iload hC.1 hC.2.1 dL_law_2117 (lv_at hl 5 rfl) ?_
  refine x_const hC dL_law_2119 ?_
  refine x_iadd hC dL_law_2120 ?_
  refine x_sld hC hw hX hbl hbA (by omega) (by omega) (by omega) dL_law_2121 ?_
  rw [← hz_2]
  rw [xU_comm hdB] at hw
  obtain ⟨va, oa, wa, ya, wk, br, re, la, ha, qv, qw, fa, fb, fy, wt, hR, hK⟩ := hm
  replace hR : MGx G B a va oa wa ya wk th0 rfd br re la ha kp kv qv qw fa fb V O fy Wv wt S := hR
  replace hK : abM O wt br re la ha K := hK
  refine x_callV hC hw (lv_size hl) ((c_X5_hasValue l G hR hK (p0 := z_1) (by omega) (p1 := z_2) (by omega)).frame hdB.symm) gL_law_X5_hasValue rfl dv_X5_hasValue (xU_l hR.1.1) rfl rfl (Nat.le_of_ble_eq_true rfl) (by rw [hRf]; decide) (by rw [hRl]; decide) (by first | (rw [hRc]; decide) | omega) (by first | (rw [hRs]; decide) | omega) dL_law_2122 (fun r9 M1 H locs hq hw => ?_)
  obtain ⟨Bk_4, ⟨zk_4, thk_4, hrk_4, hzk_4, hv9⟩, hMk_4, hdB9⟩ := hq
  subst hrk_4
  subst hMk_4
  have hdB := hdB9.symm
  rw [xU_comm hdB9] at hw
  obtain ⟨s1, hG, hm, hkt, hthr, hans, hbo⟩ : ∃ s1 : ST, RG G Ak_3 h0 (N + 1) s1 ∧ MGm G Bk_4 a S thk_4 s1 ∧ zk_3 = thk_4 ∧ (0 ≤ thk_4 ∧ thk_4 ≤ 3) ∧ (zk_3 = 0 → dk_3 = (iN zk_4).toInt64) ∧ (zk_3 = 0 → zk_4 = 0 ∨ zk_4 = 1) := by
    rcases hw9 with ⟨h1, h2, ⟨z8, h3, h4, h5⟩, h6⟩ | ⟨h1, h2, h6⟩
    · rcases hv9 with ⟨g1, g2, g4, g5⟩ | ⟨g1, g2, g5⟩
      · exact ⟨_, h6, g5, by omega, by omega, fun _ => (show dk_3 = (iN zk_4).toInt64 by rw [h3, h5, g4]), fun _ => by rw [g4]; unfold A_hasValue; split <;> simp⟩
      · exfalso; omega
    · rcases hv9 with ⟨g1, g2, g4, g5⟩ | ⟨g1, g2, g5⟩
      · exfalso; omega
      · exact ⟨_, h6, g5, by omega, by omega, fun q9 => absurd q9 h1, fun q9 => absurd q9 h1⟩
  clear hw9 hv9
  show W p l e R s m args below meth c H locs _ _ _ (F0 m 2125 ls [.int (iN (zk_4))])
  refine lv_istore (lv' := [(6, .int (iN (zk_4))), (5, .int (iN (zk_3))), (0, .ref b), (1, .ref h0), (2, .ref a), (3, .ref o), (4, .int (iN (i)))]) hC.1 hC.2.1 dL_law_2125 hl (by decide) rfl (fun ls hl => ?_)
  refine lv_goto (tgt := 2584) hC.1 hC.2.1 dL_law_2127 (by decide) ?_
  refine W.widen (k := cu + 2) (n := su + (12)) (by omega) (by omega) ?_
  exact kk _ _ _ _ _ S hw ⟨_, _, _, _, _, rfl, hG, hm, hdA, hdB⟩ (lv_sub hl [2, 3, 4, 5, 6] rfl) (Nat.le_refl _)
set_option maxHeartbeats 8000000 in
set_option maxRecDepth 100000 in
theorem k_40 {p : Program} {l : Launch} {e : Env} {R : Room} {s : State} {m : MethodId} {args : Array Value} {below : List Frame} {meth : Method} {c : Code} {Q : State → Prop} {G : xG} {b L : Nat} {xs : Nat → Int32} {nm : String} (hst : l.stackTraces = false) (hRf : R.frames = 2048) {C9 S9 : Nat} (hRc : R.cells = C9) (hRs : R.slots = S9) (hC9 : 513000 ≤ C9) (hS9 : 6932000 ≤ S9) (hRl : R.locals = 84000) (hC : xB p s m args meth c cL_law 7 "RangeledgerLaw" nm wsL_law (some .boolean) G (xA (fun _ => none) s.heap.size)) (hX : va_X b L xs s s.heap) (hbl : b < s.heap.size) (hL : L ≤ 3072) {h0 a o : Nat} {N : Int} (hN : N ≤ 590) {s9 : ST} {S : Nat → Bool} {M : HM} {H : Heap} {locs : List Loc} {ls : Array Slot} {i : Int} {cu su : Nat} (hw : xD G (xA (fun _ => none) s.heap.size) s M H locs) (hS : LwS G M h0 a o N s9 S) (hl : lv_has ls 7 [(0, .ref b), (1, .ref h0), (2, .ref a), (3, .ref o), (4, .int (iN (i)))]) (hi : 0 ≤ i ∧ i + 6 ≤ L) (hcu : cu + 1000 ≤ C9) (hsu : su + 15590 ≤ S9) (kk : ∀ (M1 : HM) (H1 : Heap) (locs1 : List Loc) (ls1 : Array Slot) (s1 : ST) (S1 : Nat → Bool), xD G (xA (fun _ => none) s.heap.size) s M1 H1 locs1 → LwS G M1 h0 a o (N + 1) s1 S1 → lv_has ls1 7 [(0, .ref b), (1, .ref h0), (2, .ref a), (3, .ref o), (4, .int (iN (i)))] → mC S1 100 ≤ mC S 100 + 0 → W p l e R s m args below meth c H1 locs1 (cu + 3) (su + (17)) Q (F0 m 2584 ls1 [])) : W p l e R s m args below meth c H locs cu su Q (F0 m 2130 ls []) := by
  obtain ⟨A, B, d, sv, th0, hM, hG, hm, hdA, hdB⟩ := hS
  subst hM
  obtain ⟨O, V, Wv, K, kp, kv, rfd⟩ := s9
  have hbA : ¬ (xA (fun _ => none) s.heap.size) b := fun h9 => h9.elim (fun h8 => h8 rfl) (fun h8 => by omega)
  refine lv_aload_n hC.1 hC.2.1 dL_law_2130 rfl (lv_at hl 1 rfl) ?_
  refine lv_aload_n hC.1 hC.2.1 dL_law_2131 rfl (lv_at hl 0 rfl) ?_
  refine lv_iload hC.1 hC.2.1 dL_law_2132 (lv_at hl 4 rfl) ?_
  refine x_const hC dL_law_2134 ?_
  refine x_iadd hC dL_law_2135 ?_
  refine x_sld hC hw hX hbl hbA (by omega) (by omega) (by omega) dL_law_2136 ?_
  obtain ⟨z_1, hz_1⟩ : ∃ z : Int, z = (xs (i + 1).toNat).toInt := ⟨_, rfl⟩
  rw [← hz_1]
  have hrz_1 : -2147483648 ≤ z_1 ∧ z_1 ≤ 2147483647 := by rw [hz_1]; exact iN_rng _
  refine lv_aload_n hC.1 hC.2.1 dL_law_2137 rfl (lv_at hl 0 rfl) ?_
  refine lv_iload hC.1 hC.2.1 dL_law_2138 (lv_at hl 4 rfl) ?_
  refine x_const hC dL_law_2140 ?_
  refine x_iadd hC dL_law_2141 ?_
  refine x_sld hC hw hX hbl hbA (by omega) (by omega) (by omega) dL_law_2142 ?_
  obtain ⟨z_2, hz_2⟩ : ∃ z : Int, z = (xs (i + 2).toNat).toInt := ⟨_, rfl⟩
  rw [← hz_2]
  have hrz_2 : -2147483648 ≤ z_2 ∧ z_2 ≤ 2147483647 := by rw [hz_2]; exact iN_rng _
  refine lv_aload_n hC.1 hC.2.1 dL_law_2143 rfl (lv_at hl 3 rfl) ?_
  refine x_callSW hC hw (lv_size hl) ((c_L_ofBook l G hst hG hN hdA (p0 := z_1) (by omega) (p1 := z_2) (by omega)).frame hdB) gL_law_L_ofBook rfl dv_L_ofBook_s rfl (Nat.le_of_ble_eq_true rfl) (by rw [hRf]; decide) (by rw [hRl]; decide) (by first | (rw [hRc]; decide) | omega) (by first | (rw [hRs]; decide) | omega) dL_law_2144 (fun r9 M1 H locs hq hw => ?_)
  obtain ⟨Ck_3, ⟨zk_3, hrk_3, Ak_3, dk_3, svk_3, hCk_3, hdA, hw9⟩, hMk_3, hdB⟩ := hq
  subst hrk_3
  subst hCk_3
  subst hMk_3
  have hzrk_3 : 0 ≤ zk_3 ∧ zk_3 ≤ 3 := by rcases hw9 with ⟨h1, _⟩ | ⟨h1, h2, _⟩; (· omega); (· omega)
  show W p l e R s m args below meth c H locs _ _ _ (F0 m 2147 ls [.int (iN (zk_3))])
  refine lv_istore (lv' := [(5, .int (iN (zk_3))), (0, .ref b), (1, .ref h0), (2, .ref a), (3, .ref o), (4, .int (iN (i)))]) hC.1 hC.2.1 dL_law_2147 hl (by decide) rfl (fun ls hl => ?_)
  refine lv_aload_n hC.1 hC.2.1 dL_law_2149 rfl (lv_at hl 3 rfl) ?_
  refine lv_aload_n hC.1 hC.2.1 dL_law_2150 rfl (lv_at hl 1 rfl) ?_
  refine lv_iload hC.1 hC.2.1 dL_law_2151 (lv_at hl 5 rfl) ?_
  refine x_const hC dL_law_2153 ?_
  refine x_iadd hC dL_law_2154 ?_
  refine x_sld hC hw hX hbl hbA (by omega) (by omega) (by omega) dL_law_2155 ?_
  rw [← hz_1]
  refine lv_aload_n hC.1 hC.2.1 dL_law_2156 rfl (lv_at hl 1 rfl) ?_
  refine lv_iload hC.1 hC.2.1 dL_law_2157 (lv_at hl 5 rfl) ?_
  refine x_const hC dL_law_2159 ?_
  refine x_iadd hC dL_law_2160 ?_
  refine x_sld hC hw hX hbl hbA (by omega) (by omega) (by omega) dL_law_2161 ?_
  rw [← hz_2]
  rw [xU_comm hdB] at hw
  obtain ⟨va, oa, wa, ya, wk, br, re, la, ha, qv, qw, fa, fb, fy, wt, hR, hK⟩ := hm
  replace hR : MGx G B a va oa wa ya wk th0 rfd br re la ha kp kv qv qw fa fb V O fy Wv wt S := hR
  replace hK : abM O wt br re la ha K := hK
  refine x_callV hC hw (lv_size hl) ((c_X5_ofBook l G hR hK (p0 := z_1) (by omega) (p1 := z_2) (by omega)).frame hdB.symm) gL_law_X5_ofBook rfl dv_X5_ofBook (xU_l hR.1.1) rfl rfl (Nat.le_of_ble_eq_true rfl) (by rw [hRf]; decide) (by rw [hRl]; decide) (by first | (rw [hRc]; decide) | omega) (by first | (rw [hRs]; decide) | omega) dL_law_2162 (fun r9 M1 H locs hq hw => ?_)
  obtain ⟨Bk_4, ⟨zk_4, thk_4, hrk_4, hzk_4, hv9⟩, hMk_4, hdB9⟩ := hq
  subst hrk_4
  subst hMk_4
  have hdB := hdB9.symm
  rw [xU_comm hdB9] at hw
  obtain ⟨s1, hG, hm, hkt, hthr, hans⟩ : ∃ s1 : ST, RG G Ak_3 h0 (N + 1) s1 ∧ MGm G Bk_4 a S thk_4 s1 ∧ zk_3 = thk_4 ∧ (0 ≤ thk_4 ∧ thk_4 ≤ 3) ∧ (zk_3 = 0 → dk_3 = (iN zk_4).toInt64) := by
    rcases hw9 with ⟨h1, h2, ⟨z8, h3, h4, h5⟩, h6⟩ | ⟨h1, h2, h6⟩
    · rcases hv9 with ⟨g1, g2, g4, g5⟩ | ⟨g1, g2, g5⟩
      · exact ⟨_, h6, g5, by omega, by omega, fun _ => (show dk_3 = (iN zk_4).toInt64 by rw [h3, h5, g4])⟩
      · exfalso; omega
    · rcases hv9 with ⟨g1, g2, g4, g5⟩ | ⟨g1, g2, g5⟩
      · exfalso; omega
      · exact ⟨_, h6, g5, by omega, by omega, fun q9 => absurd q9 h1⟩
  clear hw9 hv9
  show W p l e R s m args below meth c H locs _ _ _ (F0 m 2165 ls [.int (iN (zk_4))])
  refine lv_istore (lv' := [(6, .int (iN (zk_4))), (5, .int (iN (zk_3))), (0, .ref b), (1, .ref h0), (2, .ref a), (3, .ref o), (4, .int (iN (i)))]) hC.1 hC.2.1 dL_law_2165 hl (by decide) rfl (fun ls hl => ?_)
  refine lv_goto (tgt := 2584) hC.1 hC.2.1 dL_law_2167 (by decide) ?_
  refine W.widen (k := cu + 3) (n := su + (17)) (by omega) (by omega) ?_
  exact kk _ _ _ _ _ S hw ⟨_, _, _, _, _, rfl, hG, hm, hdA, hdB⟩ (lv_sub hl [2, 3, 4, 5, 6] rfl) (Nat.le_refl _)
set_option maxHeartbeats 8000000 in
set_option maxRecDepth 100000 in
theorem k_41 {p : Program} {l : Launch} {e : Env} {R : Room} {s : State} {m : MethodId} {args : Array Value} {below : List Frame} {meth : Method} {c : Code} {Q : State → Prop} {G : xG} {b L : Nat} {xs : Nat → Int32} {nm : String} (hst : l.stackTraces = false) (hRf : R.frames = 2048) {C9 S9 : Nat} (hRc : R.cells = C9) (hRs : R.slots = S9) (hC9 : 513000 ≤ C9) (hS9 : 6932000 ≤ S9) (hRl : R.locals = 84000) (hC : xB p s m args meth c cL_law 7 "RangeledgerLaw" nm wsL_law (some .boolean) G (xA (fun _ => none) s.heap.size)) (hX : va_X b L xs s s.heap) (hbl : b < s.heap.size) (hL : L ≤ 3072) {h0 a o : Nat} {N : Int} (hN : N ≤ 590) {s9 : ST} {S : Nat → Bool} {M : HM} {H : Heap} {locs : List Loc} {ls : Array Slot} {i : Int} {cu su : Nat} (hw : xD G (xA (fun _ => none) s.heap.size) s M H locs) (hS : LwS G M h0 a o N s9 S) (hl : lv_has ls 7 [(0, .ref b), (1, .ref h0), (2, .ref a), (3, .ref o), (4, .int (iN (i)))]) (hi : 0 ≤ i ∧ i + 6 ≤ L) (hcu : cu + 1000 ≤ C9) (hsu : su + 15590 ≤ S9) (kk : ∀ (M1 : HM) (H1 : Heap) (locs1 : List Loc) (ls1 : Array Slot) (s1 : ST) (S1 : Nat → Bool), xD G (xA (fun _ => none) s.heap.size) s M1 H1 locs1 → LwS G M1 h0 a o (N + 1) s1 S1 → lv_has ls1 7 [(0, .ref b), (1, .ref h0), (2, .ref a), (3, .ref o), (4, .int (iN (i)))] → mC S1 100 ≤ mC S 100 + 0 → W p l e R s m args below meth c H1 locs1 (cu + 4) (su + (23)) Q (F0 m 2584 ls1 [])) : W p l e R s m args below meth c H locs cu su Q (F0 m 2170 ls []) := by
  obtain ⟨A, B, d, sv, th0, hM, hG, hm, hdA, hdB⟩ := hS
  subst hM
  obtain ⟨O, V, Wv, K, kp, kv, rfd⟩ := s9
  have hbA : ¬ (xA (fun _ => none) s.heap.size) b := fun h9 => h9.elim (fun h8 => h8 rfl) (fun h8 => by omega)
  refine lv_aload_n hC.1 hC.2.1 dL_law_2170 rfl (lv_at hl 1 rfl) ?_
  refine lv_aload_n hC.1 hC.2.1 dL_law_2171 rfl (lv_at hl 0 rfl) ?_
  refine lv_iload hC.1 hC.2.1 dL_law_2172 (lv_at hl 4 rfl) ?_
  refine x_const hC dL_law_2174 ?_
  refine x_iadd hC dL_law_2175 ?_
  refine x_sld hC hw hX hbl hbA (by omega) (by omega) (by omega) dL_law_2176 ?_
  obtain ⟨z_1, hz_1⟩ : ∃ z : Int, z = (xs (i + 1).toNat).toInt := ⟨_, rfl⟩
  rw [← hz_1]
  have hrz_1 : -2147483648 ≤ z_1 ∧ z_1 ≤ 2147483647 := by rw [hz_1]; exact iN_rng _
  refine lv_aload_n hC.1 hC.2.1 dL_law_2177 rfl (lv_at hl 0 rfl) ?_
  refine lv_iload hC.1 hC.2.1 dL_law_2178 (lv_at hl 4 rfl) ?_
  refine x_const hC dL_law_2180 ?_
  refine x_iadd hC dL_law_2181 ?_
  refine x_sld hC hw hX hbl hbA (by omega) (by omega) (by omega) dL_law_2182 ?_
  obtain ⟨z_2, hz_2⟩ : ∃ z : Int, z = (xs (i + 2).toNat).toInt := ⟨_, rfl⟩
  rw [← hz_2]
  have hrz_2 : -2147483648 ≤ z_2 ∧ z_2 ≤ 2147483647 := by rw [hz_2]; exact iN_rng _
  refine lv_aload_n hC.1 hC.2.1 dL_law_2183 rfl (lv_at hl 0 rfl) ?_
  refine lv_iload hC.1 hC.2.1 dL_law_2184 (lv_at hl 4 rfl) ?_
  refine x_const hC dL_law_2186 ?_
  refine x_iadd hC dL_law_2187 ?_
  refine x_sld hC hw hX hbl hbA (by omega) (by omega) (by omega) dL_law_2188 ?_
  obtain ⟨z_3, hz_3⟩ : ∃ z : Int, z = (xs (i + 3).toNat).toInt := ⟨_, rfl⟩
  rw [← hz_3]
  have hrz_3 : -2147483648 ≤ z_3 ∧ z_3 ≤ 2147483647 := by rw [hz_3]; exact iN_rng _
  refine lv_aload_n hC.1 hC.2.1 dL_law_2189 rfl (lv_at hl 3 rfl) ?_
  refine x_callSW hC hw (lv_size hl) ((c_L_near l G hst hG hN hdA (p0 := z_1) (by omega) (p1 := z_2) (by omega) (p2 := z_3) (by omega)).frame hdB) gL_law_L_near rfl dv_L_near_s rfl (Nat.le_of_ble_eq_true rfl) (by rw [hRf]; decide) (by rw [hRl]; decide) (by first | (rw [hRc]; decide) | omega) (by first | (rw [hRs]; decide) | omega) dL_law_2190 (fun r9 M1 H locs hq hw => ?_)
  obtain ⟨Ck_4, ⟨zk_4, hrk_4, Ak_4, dk_4, svk_4, hCk_4, hdA, hw9⟩, hMk_4, hdB⟩ := hq
  subst hrk_4
  subst hCk_4
  subst hMk_4
  have hzrk_4 : 0 ≤ zk_4 ∧ zk_4 ≤ 3 := by rcases hw9 with ⟨h1, _⟩ | ⟨h1, h2, _⟩; (· omega); (· omega)
  show W p l e R s m args below meth c H locs _ _ _ (F0 m 2193 ls [.int (iN (zk_4))])
  refine lv_istore (lv' := [(5, .int (iN (zk_4))), (0, .ref b), (1, .ref h0), (2, .ref a), (3, .ref o), (4, .int (iN (i)))]) hC.1 hC.2.1 dL_law_2193 hl (by decide) rfl (fun ls hl => ?_)
  refine lv_aload_n hC.1 hC.2.1 dL_law_2195 rfl (lv_at hl 3 rfl) ?_
  refine lv_aload_n hC.1 hC.2.1 dL_law_2196 rfl (lv_at hl 1 rfl) ?_
  refine lv_iload hC.1 hC.2.1 dL_law_2197 (lv_at hl 5 rfl) ?_
  refine x_const hC dL_law_2199 ?_
  refine x_iadd hC dL_law_2200 ?_
  refine x_sld hC hw hX hbl hbA (by omega) (by omega) (by omega) dL_law_2201 ?_
  rw [← hz_1]
  refine lv_aload_n hC.1 hC.2.1 dL_law_2202 rfl (lv_at hl 1 rfl) ?_
  refine lv_iload hC.1 hC.2.1 dL_law_2203 (lv_at hl 5 rfl) ?_
  refine x_const hC dL_law_2205 ?_
  refine x_iadd hC dL_law_2206 ?_
  refine x_sld hC hw hX hbl hbA (by omega) (by omega) (by omega) dL_law_2207 ?_
  rw [← hz_2]
  refine lv_aload_n hC.1 hC.2.1 dL_law_2208 rfl (lv_at hl 1 rfl) ?_
  refine lv_iload hC.1 hC.2.1 dL_law_2209 (lv_at hl 5 rfl) ?_
  refine x_const hC dL_law_2211 ?_
  refine x_iadd hC dL_law_2212 ?_
  refine x_sld hC hw hX hbl hbA (by omega) (by omega) (by omega) dL_law_2213 ?_
  rw [← hz_3]
  rw [xU_comm hdB] at hw
  obtain ⟨va, oa, wa, ya, wk, br, re, la, ha, qv, qw, fa, fb, fy, wt, hR, hK⟩ := hm
  replace hR : MGx G B a va oa wa ya wk th0 rfd br re la ha kp kv qv qw fa fb V O fy Wv wt S := hR
  replace hK : abM O wt br re la ha K := hK
  refine x_callV hC hw (lv_size hl) ((c_X5_near l G hR hK (p0 := z_1) (by omega) (p1 := z_2) (by omega) (p2 := z_3) (by omega)).frame hdB.symm) gL_law_X5_near rfl dv_X5_near (xU_l hR.1.1) rfl rfl (Nat.le_of_ble_eq_true rfl) (by rw [hRf]; decide) (by rw [hRl]; decide) (by first | (rw [hRc]; decide) | omega) (by first | (rw [hRs]; decide) | omega) dL_law_2214 (fun r9 M1 H locs hq hw => ?_)
  obtain ⟨Bk_5, ⟨zk_5, thk_5, hrk_5, hzk_5, hv9⟩, hMk_5, hdB9⟩ := hq
  subst hrk_5
  subst hMk_5
  have hdB := hdB9.symm
  rw [xU_comm hdB9] at hw
  obtain ⟨s1, hG, hm, hkt, hthr, hans⟩ : ∃ s1 : ST, RG G Ak_4 h0 (N + 1) s1 ∧ MGm G Bk_5 a S thk_5 s1 ∧ zk_4 = thk_5 ∧ (0 ≤ thk_5 ∧ thk_5 ≤ 3) ∧ (zk_4 = 0 → dk_4 = (iN zk_5).toInt64) := by
    rcases hw9 with ⟨h1, h2, ⟨z8, h3, h4, h5⟩, h6⟩ | ⟨h1, h2, h6⟩
    · rcases hv9 with ⟨g1, g2, g4, g5⟩ | ⟨g1, g2, g5⟩
      · exact ⟨_, h6, g5, by omega, by omega, fun _ => (show dk_4 = (iN zk_5).toInt64 by rw [h3, h5, g4])⟩
      · exfalso; omega
    · rcases hv9 with ⟨g1, g2, g4, g5⟩ | ⟨g1, g2, g5⟩
      · exfalso; omega
      · exact ⟨_, h6, g5, by omega, by omega, fun q9 => absurd q9 h1⟩
  clear hw9 hv9
  show W p l e R s m args below meth c H locs _ _ _ (F0 m 2217 ls [.int (iN (zk_5))])
  refine lv_istore (lv' := [(6, .int (iN (zk_5))), (5, .int (iN (zk_4))), (0, .ref b), (1, .ref h0), (2, .ref a), (3, .ref o), (4, .int (iN (i)))]) hC.1 hC.2.1 dL_law_2217 hl (by decide) rfl (fun ls hl => ?_)
  refine lv_goto (tgt := 2584) hC.1 hC.2.1 dL_law_2219 (by decide) ?_
  refine W.widen (k := cu + 4) (n := su + (23)) (by omega) (by omega) ?_
  exact kk _ _ _ _ _ S hw ⟨_, _, _, _, _, rfl, hG, hm, hdA, hdB⟩ (lv_sub hl [2, 3, 4, 5, 6] rfl) (Nat.le_refl _)
set_option maxHeartbeats 8000000 in
set_option maxRecDepth 100000 in
theorem k_42 {p : Program} {l : Launch} {e : Env} {R : Room} {s : State} {m : MethodId} {args : Array Value} {below : List Frame} {meth : Method} {c : Code} {Q : State → Prop} {G : xG} {b L : Nat} {xs : Nat → Int32} {nm : String} (hst : l.stackTraces = false) (hRf : R.frames = 2048) {C9 S9 : Nat} (hRc : R.cells = C9) (hRs : R.slots = S9) (hC9 : 513000 ≤ C9) (hS9 : 6932000 ≤ S9) (hRl : R.locals = 84000) (hC : xB p s m args meth c cL_law 7 "RangeledgerLaw" nm wsL_law (some .boolean) G (xA (fun _ => none) s.heap.size)) (hX : va_X b L xs s s.heap) (hbl : b < s.heap.size) (hL : L ≤ 3072) {h0 a o : Nat} {N : Int} (hN : N ≤ 590) {s9 : ST} {S : Nat → Bool} {M : HM} {H : Heap} {locs : List Loc} {ls : Array Slot} {i : Int} {cu su : Nat} (hw : xD G (xA (fun _ => none) s.heap.size) s M H locs) (hS : LwS G M h0 a o N s9 S) (hl : lv_has ls 7 [(0, .ref b), (1, .ref h0), (2, .ref a), (3, .ref o), (4, .int (iN (i)))]) (hi : 0 ≤ i ∧ i + 6 ≤ L) (hcu : cu + 1000 ≤ C9) (hsu : su + 15590 ≤ S9) (kk : ∀ (M1 : HM) (H1 : Heap) (locs1 : List Loc) (ls1 : Array Slot) (s1 : ST) (S1 : Nat → Bool), xD G (xA (fun _ => none) s.heap.size) s M1 H1 locs1 → LwS G M1 h0 a o (N + 1) s1 S1 → lv_has ls1 7 [(0, .ref b), (1, .ref h0), (2, .ref a), (3, .ref o), (4, .int (iN (i)))] → mC S1 100 ≤ mC S 100 + 0 → W p l e R s m args below meth c H1 locs1 (cu + 3) (su + (17)) Q (F0 m 2584 ls1 [])) : W p l e R s m args below meth c H locs cu su Q (F0 m 2222 ls []) := by
  obtain ⟨A, B, d, sv, th0, hM, hG, hm, hdA, hdB⟩ := hS
  subst hM
  obtain ⟨O, V, Wv, K, kp, kv, rfd⟩ := s9
  have hbA : ¬ (xA (fun _ => none) s.heap.size) b := fun h9 => h9.elim (fun h8 => h8 rfl) (fun h8 => by omega)
  refine lv_aload_n hC.1 hC.2.1 dL_law_2222 rfl (lv_at hl 1 rfl) ?_
  refine lv_aload_n hC.1 hC.2.1 dL_law_2223 rfl (lv_at hl 0 rfl) ?_
  refine lv_iload hC.1 hC.2.1 dL_law_2224 (lv_at hl 4 rfl) ?_
  refine x_const hC dL_law_2226 ?_
  refine x_iadd hC dL_law_2227 ?_
  refine x_sld hC hw hX hbl hbA (by omega) (by omega) (by omega) dL_law_2228 ?_
  obtain ⟨z_1, hz_1⟩ : ∃ z : Int, z = (xs (i + 1).toNat).toInt := ⟨_, rfl⟩
  rw [← hz_1]
  have hrz_1 : -2147483648 ≤ z_1 ∧ z_1 ≤ 2147483647 := by rw [hz_1]; exact iN_rng _
  refine lv_aload_n hC.1 hC.2.1 dL_law_2229 rfl (lv_at hl 0 rfl) ?_
  refine lv_iload hC.1 hC.2.1 dL_law_2230 (lv_at hl 4 rfl) ?_
  refine x_const hC dL_law_2232 ?_
  refine x_iadd hC dL_law_2233 ?_
  refine x_sld hC hw hX hbl hbA (by omega) (by omega) (by omega) dL_law_2234 ?_
  obtain ⟨z_2, hz_2⟩ : ∃ z : Int, z = (xs (i + 2).toNat).toInt := ⟨_, rfl⟩
  rw [← hz_2]
  have hrz_2 : -2147483648 ≤ z_2 ∧ z_2 ≤ 2147483647 := by rw [hz_2]; exact iN_rng _
  refine lv_aload_n hC.1 hC.2.1 dL_law_2235 rfl (lv_at hl 3 rfl) ?_
  refine x_callSW hC hw (lv_size hl) ((c_L_place l G hst hG hN hdA (p0 := z_1) (by omega) (p1 := z_2) (by omega)).frame hdB) gL_law_L_place rfl dv_L_place_s rfl (Nat.le_of_ble_eq_true rfl) (by rw [hRf]; decide) (by rw [hRl]; decide) (by first | (rw [hRc]; decide) | omega) (by first | (rw [hRs]; decide) | omega) dL_law_2236 (fun r9 M1 H locs hq hw => ?_)
  obtain ⟨Ck_3, ⟨zk_3, hrk_3, Ak_3, dk_3, svk_3, hCk_3, hdA, hw9⟩, hMk_3, hdB⟩ := hq
  subst hrk_3
  subst hCk_3
  subst hMk_3
  have hzrk_3 : 0 ≤ zk_3 ∧ zk_3 ≤ 3 := by rcases hw9 with ⟨h1, _⟩ | ⟨h1, h2, _⟩; (· omega); (· omega)
  show W p l e R s m args below meth c H locs _ _ _ (F0 m 2239 ls [.int (iN (zk_3))])
  refine lv_istore (lv' := [(5, .int (iN (zk_3))), (0, .ref b), (1, .ref h0), (2, .ref a), (3, .ref o), (4, .int (iN (i)))]) hC.1 hC.2.1 dL_law_2239 hl (by decide) rfl (fun ls hl => ?_)
  refine lv_aload_n hC.1 hC.2.1 dL_law_2241 rfl (lv_at hl 3 rfl) ?_
  refine lv_aload_n hC.1 hC.2.1 dL_law_2242 rfl (lv_at hl 1 rfl) ?_
  refine lv_iload hC.1 hC.2.1 dL_law_2243 (lv_at hl 5 rfl) ?_
  refine x_const hC dL_law_2245 ?_
  refine x_iadd hC dL_law_2246 ?_
  refine x_sld hC hw hX hbl hbA (by omega) (by omega) (by omega) dL_law_2247 ?_
  rw [← hz_1]
  refine lv_aload_n hC.1 hC.2.1 dL_law_2248 rfl (lv_at hl 1 rfl) ?_
  refine lv_iload hC.1 hC.2.1 dL_law_2249 (lv_at hl 5 rfl) ?_
  refine x_const hC dL_law_2251 ?_
  refine x_iadd hC dL_law_2252 ?_
  refine x_sld hC hw hX hbl hbA (by omega) (by omega) (by omega) dL_law_2253 ?_
  rw [← hz_2]
  rw [xU_comm hdB] at hw
  obtain ⟨va, oa, wa, ya, wk, br, re, la, ha, qv, qw, fa, fb, fy, wt, hR, hK⟩ := hm
  replace hR : MGx G B a va oa wa ya wk th0 rfd br re la ha kp kv qv qw fa fb V O fy Wv wt S := hR
  replace hK : abM O wt br re la ha K := hK
  refine x_callV hC hw (lv_size hl) ((c_X5_place l G hR hK (p0 := z_1) (by omega) (p1 := z_2) (by omega)).frame hdB.symm) gL_law_X5_place rfl dv_X5_place (xU_l hR.1.1) rfl rfl (Nat.le_of_ble_eq_true rfl) (by rw [hRf]; decide) (by rw [hRl]; decide) (by first | (rw [hRc]; decide) | omega) (by first | (rw [hRs]; decide) | omega) dL_law_2254 (fun r9 M1 H locs hq hw => ?_)
  obtain ⟨Bk_4, ⟨zk_4, thk_4, hrk_4, hzk_4, hv9⟩, hMk_4, hdB9⟩ := hq
  subst hrk_4
  subst hMk_4
  have hdB := hdB9.symm
  rw [xU_comm hdB9] at hw
  obtain ⟨s1, hG, hm, hkt, hthr, hans⟩ : ∃ s1 : ST, RG G Ak_3 h0 (N + 1) s1 ∧ MGm G Bk_4 a S thk_4 s1 ∧ zk_3 = thk_4 ∧ (0 ≤ thk_4 ∧ thk_4 ≤ 3) ∧ (zk_3 = 0 → dk_3 = (iN zk_4).toInt64) := by
    rcases hw9 with ⟨h1, h2, ⟨z8, h3, h4, h5⟩, h6⟩ | ⟨h1, h2, h6⟩
    · rcases hv9 with ⟨g1, g2, g4, g5⟩ | ⟨g1, g2, g5⟩
      · exact ⟨_, h6, g5, by omega, by omega, fun _ => (show dk_3 = (iN zk_4).toInt64 by rw [h3, h5, g4])⟩
      · exfalso; omega
    · rcases hv9 with ⟨g1, g2, g4, g5⟩ | ⟨g1, g2, g5⟩
      · exfalso; omega
      · exact ⟨_, h6, g5, by omega, by omega, fun q9 => absurd q9 h1⟩
  clear hw9 hv9
  show W p l e R s m args below meth c H locs _ _ _ (F0 m 2257 ls [.int (iN (zk_4))])
  refine lv_istore (lv' := [(6, .int (iN (zk_4))), (5, .int (iN (zk_3))), (0, .ref b), (1, .ref h0), (2, .ref a), (3, .ref o), (4, .int (iN (i)))]) hC.1 hC.2.1 dL_law_2257 hl (by decide) rfl (fun ls hl => ?_)
  refine lv_goto (tgt := 2584) hC.1 hC.2.1 dL_law_2259 (by decide) ?_
  refine W.widen (k := cu + 3) (n := su + (17)) (by omega) (by omega) ?_
  exact kk _ _ _ _ _ S hw ⟨_, _, _, _, _, rfl, hG, hm, hdA, hdB⟩ (lv_sub hl [2, 3, 4, 5, 6] rfl) (Nat.le_refl _)
set_option maxHeartbeats 8000000 in
set_option maxRecDepth 100000 in
theorem k_43 {p : Program} {l : Launch} {e : Env} {R : Room} {s : State} {m : MethodId} {args : Array Value} {below : List Frame} {meth : Method} {c : Code} {Q : State → Prop} {G : xG} {b L : Nat} {xs : Nat → Int32} {nm : String} (hst : l.stackTraces = false) (hRf : R.frames = 2048) {C9 S9 : Nat} (hRc : R.cells = C9) (hRs : R.slots = S9) (hC9 : 513000 ≤ C9) (hS9 : 6932000 ≤ S9) (hRl : R.locals = 84000) (hC : xB p s m args meth c cL_law 7 "RangeledgerLaw" nm wsL_law (some .boolean) G (xA (fun _ => none) s.heap.size)) (hX : va_X b L xs s s.heap) (hbl : b < s.heap.size) (hL : L ≤ 3072) {h0 a o : Nat} {N : Int} (hN : N ≤ 590) {s9 : ST} {S : Nat → Bool} {M : HM} {H : Heap} {locs : List Loc} {ls : Array Slot} {i : Int} {cu su : Nat} (hw : xD G (xA (fun _ => none) s.heap.size) s M H locs) (hS : LwS G M h0 a o N s9 S) (hl : lv_has ls 7 [(0, .ref b), (1, .ref h0), (2, .ref a), (3, .ref o), (4, .int (iN (i)))]) (hi : 0 ≤ i ∧ i + 6 ≤ L) (hcu : cu + 1000 ≤ C9) (hsu : su + 15590 ≤ S9) (kk : ∀ (M1 : HM) (H1 : Heap) (locs1 : List Loc) (ls1 : Array Slot) (s1 : ST) (S1 : Nat → Bool), xD G (xA (fun _ => none) s.heap.size) s M1 H1 locs1 → LwS G M1 h0 a o (N + 1) s1 S1 → lv_has ls1 7 [(0, .ref b), (1, .ref h0), (2, .ref a), (3, .ref o), (4, .int (iN (i)))] → mC S1 100 ≤ mC S 100 + 0 → W p l e R s m args below meth c H1 locs1 (cu + 102) (su + (512)) Q (F0 m 2584 ls1 [])) : W p l e R s m args below meth c H locs cu su Q (F0 m 2262 ls []) := by
  obtain ⟨A, B, d, sv, th0, hM, hG, hm, hdA, hdB⟩ := hS
  subst hM
  obtain ⟨O, V, Wv, K, kp, kv, rfd⟩ := s9
  have hbA : ¬ (xA (fun _ => none) s.heap.size) b := fun h9 => h9.elim (fun h8 => h8 rfl) (fun h8 => by omega)
  refine lv_aload_n hC.1 hC.2.1 dL_law_2262 rfl (lv_at hl 1 rfl) ?_
  refine lv_aload_n hC.1 hC.2.1 dL_law_2263 rfl (lv_at hl 0 rfl) ?_
  refine lv_iload hC.1 hC.2.1 dL_law_2264 (lv_at hl 4 rfl) ?_
  refine x_const hC dL_law_2266 ?_
  refine x_iadd hC dL_law_2267 ?_
  refine x_sld hC hw hX hbl hbA (by omega) (by omega) (by omega) dL_law_2268 ?_
  obtain ⟨z_1, hz_1⟩ : ∃ z : Int, z = (xs (i + 1).toNat).toInt := ⟨_, rfl⟩
  rw [← hz_1]
  have hrz_1 : -2147483648 ≤ z_1 ∧ z_1 ≤ 2147483647 := by rw [hz_1]; exact iN_rng _
  refine lv_aload_n hC.1 hC.2.1 dL_law_2269 rfl (lv_at hl 0 rfl) ?_
  refine lv_iload hC.1 hC.2.1 dL_law_2270 (lv_at hl 4 rfl) ?_
  refine x_const hC dL_law_2272 ?_
  refine x_iadd hC dL_law_2273 ?_
  refine x_sld hC hw hX hbl hbA (by omega) (by omega) (by omega) dL_law_2274 ?_
  obtain ⟨z_2, hz_2⟩ : ∃ z : Int, z = (xs (i + 2).toNat).toInt := ⟨_, rfl⟩
  rw [← hz_2]
  have hrz_2 : -2147483648 ≤ z_2 ∧ z_2 ≤ 2147483647 := by rw [hz_2]; exact iN_rng _
  refine lv_aload_n hC.1 hC.2.1 dL_law_2275 rfl (lv_at hl 3 rfl) ?_
  refine x_callSW hC hw (lv_size hl) ((c_L_at l G hst hG hN hdA (p0 := z_1) (by omega) (p1 := z_2) (by omega)).frame hdB) gL_law_L_at rfl dv_L_at_s rfl (Nat.le_of_ble_eq_true rfl) (by rw [hRf]; decide) (by rw [hRl]; decide) (by first | (rw [hRc]; decide) | omega) (by first | (rw [hRs]; decide) | omega) dL_law_2276 (fun r9 M1 H locs hq hw => ?_)
  obtain ⟨Ck_3, ⟨zk_3, hrk_3, Ak_3, dk_3, svk_3, hCk_3, hdA, hw9⟩, hMk_3, hdB⟩ := hq
  subst hrk_3
  subst hCk_3
  subst hMk_3
  have hzrk_3 : 0 ≤ zk_3 ∧ zk_3 ≤ 3 := by rcases hw9 with ⟨h1, _⟩ | ⟨h1, h2, _⟩; (· omega); (· omega)
  show W p l e R s m args below meth c H locs _ _ _ (F0 m 2279 ls [.int (iN (zk_3))])
  refine lv_istore (lv' := [(5, .int (iN (zk_3))), (0, .ref b), (1, .ref h0), (2, .ref a), (3, .ref o), (4, .int (iN (i)))]) hC.1 hC.2.1 dL_law_2279 hl (by decide) rfl (fun ls hl => ?_)
  refine lv_aload_n hC.1 hC.2.1 dL_law_2281 rfl (lv_at hl 3 rfl) ?_
  refine lv_aload_n hC.1 hC.2.1 dL_law_2282 rfl (lv_at hl 1 rfl) ?_
  refine lv_iload hC.1 hC.2.1 dL_law_2283 (lv_at hl 5 rfl) ?_
  refine x_const hC dL_law_2285 ?_
  refine x_iadd hC dL_law_2286 ?_
  refine x_sld hC hw hX hbl hbA (by omega) (by omega) (by omega) dL_law_2287 ?_
  rw [← hz_1]
  refine lv_aload_n hC.1 hC.2.1 dL_law_2288 rfl (lv_at hl 1 rfl) ?_
  refine lv_iload hC.1 hC.2.1 dL_law_2289 (lv_at hl 5 rfl) ?_
  refine x_const hC dL_law_2291 ?_
  refine x_iadd hC dL_law_2292 ?_
  refine x_sld hC hw hX hbl hbA (by omega) (by omega) (by omega) dL_law_2293 ?_
  rw [← hz_2]
  rw [xU_comm hdB] at hw
  obtain ⟨va, oa, wa, ya, wk, br, re, la, ha, qv, qw, fa, fb, fy, wt, hR, hK⟩ := hm
  replace hR : MGx G B a va oa wa ya wk th0 rfd br re la ha kp kv qv qw fa fb V O fy Wv wt S := hR
  replace hK : abM O wt br re la ha K := hK
  refine x_callV hC hw (lv_size hl) ((c_X5_at l G hR hK (p0 := z_1) (by omega) (p1 := z_2) (by omega)).frame hdB.symm) gL_law_X5_at rfl dv_X5_at (xU_l hR.1.1) rfl rfl (Nat.le_of_ble_eq_true rfl) (by rw [hRf]; decide) (by rw [hRl]; decide) (by first | (rw [hRc]; decide) | omega) (by first | (rw [hRs]; decide) | omega) dL_law_2294 (fun r9 M1 H locs hq hw => ?_)
  obtain ⟨Bk_4, ⟨zk_4, thk_4, hrk_4, hzk_4, hv9⟩, hMk_4, hdB9⟩ := hq
  subst hrk_4
  subst hMk_4
  have hdB := hdB9.symm
  rw [xU_comm hdB9] at hw
  obtain ⟨s1, hG, hm, hkt, hthr, hans⟩ : ∃ s1 : ST, RG G Ak_3 h0 (N + 1) s1 ∧ MGm G Bk_4 a S thk_4 s1 ∧ zk_3 = thk_4 ∧ (0 ≤ thk_4 ∧ thk_4 ≤ 3) ∧ (zk_3 = 0 → dk_3 = (iN zk_4).toInt64) := by
    rcases hw9 with ⟨h1, h2, ⟨z8, h3, h4, h5⟩, h6⟩ | ⟨h1, h2, h6⟩
    · rcases hv9 with ⟨g1, g2, g4, g5⟩ | ⟨g1, g2, g5⟩
      · exact ⟨_, h6, g5, by omega, by omega, fun _ => (show dk_3 = (iN zk_4).toInt64 by rw [h3, atQ_uniq (h6.ol (show (z_1).toNat < 3 from tn_lt (by omega) (by decide))) h5 g4])⟩
      · exfalso; omega
    · rcases hv9 with ⟨g1, g2, g4, g5⟩ | ⟨g1, g2, g5⟩
      · exfalso; omega
      · exact ⟨_, h6, g5, by omega, by omega, fun q9 => absurd q9 h1⟩
  clear hw9 hv9
  show W p l e R s m args below meth c H locs _ _ _ (F0 m 2297 ls [.int (iN (zk_4))])
  refine lv_istore (lv' := [(6, .int (iN (zk_4))), (5, .int (iN (zk_3))), (0, .ref b), (1, .ref h0), (2, .ref a), (3, .ref o), (4, .int (iN (i)))]) hC.1 hC.2.1 dL_law_2297 hl (by decide) rfl (fun ls hl => ?_)
  refine lv_goto (tgt := 2584) hC.1 hC.2.1 dL_law_2299 (by decide) ?_
  refine W.widen (k := cu + 102) (n := su + (512)) (by omega) (by omega) ?_
  exact kk _ _ _ _ _ S hw ⟨_, _, _, _, _, rfl, hG, hm, hdA, hdB⟩ (lv_sub hl [2, 3, 4, 5, 6] rfl) (Nat.le_refl _)
set_option maxHeartbeats 8000000 in
set_option maxRecDepth 100000 in
theorem k_44 {p : Program} {l : Launch} {e : Env} {R : Room} {s : State} {m : MethodId} {args : Array Value} {below : List Frame} {meth : Method} {c : Code} {Q : State → Prop} {G : xG} {b L : Nat} {xs : Nat → Int32} {nm : String} (hst : l.stackTraces = false) (hRf : R.frames = 2048) {C9 S9 : Nat} (hRc : R.cells = C9) (hRs : R.slots = S9) (hC9 : 513000 ≤ C9) (hS9 : 6932000 ≤ S9) (hRl : R.locals = 84000) (hC : xB p s m args meth c cL_law 7 "RangeledgerLaw" nm wsL_law (some .boolean) G (xA (fun _ => none) s.heap.size)) (hX : va_X b L xs s s.heap) (hbl : b < s.heap.size) (hL : L ≤ 3072) {h0 a o : Nat} {N : Int} (hN : N ≤ 590) {s9 : ST} {S : Nat → Bool} {M : HM} {H : Heap} {locs : List Loc} {ls : Array Slot} {i : Int} {cu su : Nat} (hw : xD G (xA (fun _ => none) s.heap.size) s M H locs) (hS : LwS G M h0 a o N s9 S) (hl : lv_has ls 7 [(0, .ref b), (1, .ref h0), (2, .ref a), (3, .ref o), (4, .int (iN (i)))]) (hi : 0 ≤ i ∧ i + 6 ≤ L) (hcu : cu + 1000 ≤ C9) (hsu : su + 15590 ≤ S9) {Kn Tm : Nat} (hKn : mC S 100 ≤ Kn) (hT : (Kn = 60 ∧ Tm = 1800) ∨ (Kn = 80 ∧ Tm = 3210) ∨ (Kn = 100 ∧ Tm = 3410)) (kk : ∀ (M1 : HM) (H1 : Heap) (locs1 : List Loc) (ls1 : Array Slot) (s1 : ST) (S1 : Nat → Bool), xD G (xA (fun _ => none) s.heap.size) s M1 H1 locs1 → LwS G M1 h0 a o (N + 1) s1 S1 → lv_has ls1 7 [(0, .ref b), (1, .ref h0), (2, .ref a), (3, .ref o), (4, .int (iN (i)))] → mC S1 100 ≤ mC S 100 + 0 → W p l e R s m args below meth c H1 locs1 (cu + 31) (su + (11706 + (Tm + 20))) Q (F0 m 2584 ls1 [])) : W p l e R s m args below meth c H locs cu su Q (F0 m 2302 ls []) := by
  obtain ⟨A, B, d, sv, th0, hM, hG, hm, hdA, hdB⟩ := hS
  subst hM
  obtain ⟨O, V, Wv, K, kp, kv, rfd⟩ := s9
  have hbA : ¬ (xA (fun _ => none) s.heap.size) b := fun h9 => h9.elim (fun h8 => h8 rfl) (fun h8 => by omega)
  refine lv_aload_n hC.1 hC.2.1 dL_law_2302 rfl (lv_at hl 1 rfl) ?_
  refine lv_aload_n hC.1 hC.2.1 dL_law_2303 rfl (lv_at hl 0 rfl) ?_
  refine lv_iload hC.1 hC.2.1 dL_law_2304 (lv_at hl 4 rfl) ?_
  refine x_const hC dL_law_2306 ?_
  refine x_iadd hC dL_law_2307 ?_
  refine x_sld hC hw hX hbl hbA (by omega) (by omega) (by omega) dL_law_2308 ?_
  obtain ⟨z_1, hz_1⟩ : ∃ z : Int, z = (xs (i + 1).toNat).toInt := ⟨_, rfl⟩
  rw [← hz_1]
  have hrz_1 : -2147483648 ≤ z_1 ∧ z_1 ≤ 2147483647 := by rw [hz_1]; exact iN_rng _
  refine lv_aload_n hC.1 hC.2.1 dL_law_2309 rfl (lv_at hl 3 rfl) ?_
  refine x_callSW hC hw (lv_size hl) ((c_L_row l G hst hG hN hdA (p0 := z_1) (by omega)).frame hdB) gL_law_L_row rfl dv_L_row_s rfl (Nat.le_of_ble_eq_true rfl) (by rw [hRf]; decide) (by rw [hRl]; decide) (by first | (rw [hRc]; decide) | omega) (by first | (rw [hRs]; decide) | omega) dL_law_2310 (fun r9 M1 H locs hq hw => ?_)
  obtain ⟨Ck_2, ⟨zk_2, hrk_2, Ak_2, dk_2, svk_2, hCk_2, hdA, hw9⟩, hMk_2, hdB⟩ := hq
  subst hrk_2
  subst hCk_2
  subst hMk_2
  have hzrk_2 : 0 ≤ zk_2 ∧ zk_2 ≤ 3 := by rcases hw9 with ⟨h1, _⟩ | ⟨h1, h2, _⟩; (· omega); (· omega)
  show W p l e R s m args below meth c H locs _ _ _ (F0 m 2313 ls [.int (iN (zk_2))])
  refine lv_istore (lv' := [(5, .int (iN (zk_2))), (0, .ref b), (1, .ref h0), (2, .ref a), (3, .ref o), (4, .int (iN (i)))]) hC.1 hC.2.1 dL_law_2313 hl (by decide) rfl (fun ls hl => ?_)
  refine lv_aload_n hC.1 hC.2.1 dL_law_2315 rfl (lv_at hl 3 rfl) ?_
  refine lv_aload_n hC.1 hC.2.1 dL_law_2316 rfl (lv_at hl 1 rfl) ?_
  refine lv_iload hC.1 hC.2.1 dL_law_2317 (lv_at hl 5 rfl) ?_
  refine x_const hC dL_law_2319 ?_
  refine x_iadd hC dL_law_2320 ?_
  refine x_sld hC hw hX hbl hbA (by omega) (by omega) (by omega) dL_law_2321 ?_
  rw [← hz_1]
  rw [xU_comm hdB] at hw
  obtain ⟨va, oa, wa, ya, wk, br, re, la, ha, qv, qw, fa, fb, fy, wt, hR, hK⟩ := hm
  replace hR : MGx G B a va oa wa ya wk th0 rfd br re la ha kp kv qv qw fa fb V O fy Wv wt S := hR
  replace hK : abM O wt br re la ha K := hK
  refine x_callV hC hw (lv_size hl) ((c_X5_row l G hR hK (Kn := Kn) (Tm := Tm) hKn hT (p0 := z_1) (by omega)).frame hdB.symm) gL_law_X5_row rfl dv_X5_row (xU_l hR.1.1) rfl rfl (Nat.le_of_ble_eq_true rfl) (by rw [hRf]; decide) (by rw [hRl]; decide) (by first | (rw [hRc]; decide) | omega) (by first | (rw [hRs]; decide) | omega) dL_law_2322 (fun r9 M1 H locs hq hw => ?_)
  obtain ⟨Bk_3, ⟨qk_3, thk_3, hrk_3, hv9⟩, hMk_3, hdB9⟩ := hq
  subst hrk_3
  subst hMk_3
  have hdB := hdB9.symm
  rw [xU_comm hdB9] at hw
  obtain ⟨s1, hG, hm, hkt, hthr⟩ : ∃ s1 : ST, RG G Ak_2 h0 (N + 1) s1 ∧ MGm G Bk_3 a S thk_3 s1 ∧ zk_2 = thk_3 ∧ (0 ≤ thk_3 ∧ thk_3 ≤ 3) := by
    rcases hw9 with ⟨h1, h2, _, h6⟩ | ⟨h1, h2, h6⟩
    · rcases hv9 with ⟨g1, g2, g5⟩ | ⟨g1, g2, g5⟩
      · exact ⟨_, h6, g5, by omega, by omega⟩
      · exfalso; omega
    · rcases hv9 with ⟨g1, g2, g5⟩ | ⟨g1, g2, g5⟩
      · exfalso; omega
      · exact ⟨_, h6, g5, by omega, by omega⟩
  clear hw9 hv9
  show W p l e R s m args below meth c H locs _ _ _ (F0 m 2325 ls [.ref qk_3])
  refine lv_astore (lv' := [(6, .ref qk_3), (5, .int (iN (zk_2))), (0, .ref b), (1, .ref h0), (2, .ref a), (3, .ref o), (4, .int (iN (i)))]) hC.1 hC.2.1 dL_law_2325 hl (by decide) rfl (fun ls hl => ?_)
  refine lv_goto (tgt := 2584) hC.1 hC.2.1 dL_law_2327 (by decide) ?_
  refine W.widen (k := cu + 31) (n := su + (11706 + (Tm + 20))) (by omega) (by omega) ?_
  exact kk _ _ _ _ _ S hw ⟨_, _, _, _, _, rfl, hG, hm, hdA, hdB⟩ (lv_sub hl [2, 3, 4, 5, 6] rfl) (Nat.le_refl _)
set_option maxHeartbeats 8000000 in
set_option maxRecDepth 100000 in
theorem k_45 {p : Program} {l : Launch} {e : Env} {R : Room} {s : State} {m : MethodId} {args : Array Value} {below : List Frame} {meth : Method} {c : Code} {Q : State → Prop} {G : xG} {b L : Nat} {xs : Nat → Int32} {nm : String} (hst : l.stackTraces = false) (hRf : R.frames = 2048) {C9 S9 : Nat} (hRc : R.cells = C9) (hRs : R.slots = S9) (hC9 : 513000 ≤ C9) (hS9 : 6932000 ≤ S9) (hRl : R.locals = 84000) (hC : xB p s m args meth c cL_law 7 "RangeledgerLaw" nm wsL_law (some .boolean) G (xA (fun _ => none) s.heap.size)) (hX : va_X b L xs s s.heap) (hbl : b < s.heap.size) (hL : L ≤ 3072) {h0 a o : Nat} {N : Int} (hN : N ≤ 590) {s9 : ST} {S : Nat → Bool} {M : HM} {H : Heap} {locs : List Loc} {ls : Array Slot} {i : Int} {cu su : Nat} (hw : xD G (xA (fun _ => none) s.heap.size) s M H locs) (hS : LwS G M h0 a o N s9 S) (hl : lv_has ls 7 [(0, .ref b), (1, .ref h0), (2, .ref a), (3, .ref o), (4, .int (iN (i)))]) (hi : 0 ≤ i ∧ i + 6 ≤ L) (hcu : cu + 1000 ≤ C9) (hsu : su + 15590 ≤ S9) (kk : ∀ (M1 : HM) (H1 : Heap) (locs1 : List Loc) (ls1 : Array Slot) (s1 : ST) (S1 : Nat → Bool), xD G (xA (fun _ => none) s.heap.size) s M1 H1 locs1 → LwS G M1 h0 a o (N + 1) s1 S1 → lv_has ls1 7 [(0, .ref b), (1, .ref h0), (2, .ref a), (3, .ref o), (4, .int (iN (i)))] → mC S1 100 ≤ mC S 100 + 0 → W p l e R s m args below meth c H1 locs1 (cu + 2) (su + (12)) Q (F0 m 2584 ls1 [])) : W p l e R s m args below meth c H locs cu su Q (F0 m 2330 ls []) := by
  obtain ⟨A, B, d, sv, th0, hM, hG, hm, hdA, hdB⟩ := hS
  subst hM
  obtain ⟨O, V, Wv, K, kp, kv, rfd⟩ := s9
  have hbA : ¬ (xA (fun _ => none) s.heap.size) b := fun h9 => h9.elim (fun h8 => h8 rfl) (fun h8 => by omega)
  refine lv_aload_n hC.1 hC.2.1 dL_law_2330 rfl (lv_at hl 1 rfl) ?_
  refine lv_aload_n hC.1 hC.2.1 dL_law_2331 rfl (lv_at hl 0 rfl) ?_
  refine lv_iload hC.1 hC.2.1 dL_law_2332 (lv_at hl 4 rfl) ?_
  refine x_const hC dL_law_2334 ?_
  refine x_iadd hC dL_law_2335 ?_
  refine x_sld hC hw hX hbl hbA (by omega) (by omega) (by omega) dL_law_2336 ?_
  obtain ⟨z_1, hz_1⟩ : ∃ z : Int, z = (xs (i + 1).toNat).toInt := ⟨_, rfl⟩
  rw [← hz_1]
  have hrz_1 : -2147483648 ≤ z_1 ∧ z_1 ≤ 2147483647 := by rw [hz_1]; exact iN_rng _
  refine lv_aload_n hC.1 hC.2.1 dL_law_2337 rfl (lv_at hl 0 rfl) ?_
  refine lv_iload hC.1 hC.2.1 dL_law_2338 (lv_at hl 4 rfl) ?_
  refine x_const hC dL_law_2340 ?_
  refine x_iadd hC dL_law_2341 ?_
  refine x_sld hC hw hX hbl hbA (by omega) (by omega) (by omega) dL_law_2342 ?_
  obtain ⟨z_2, hz_2⟩ : ∃ z : Int, z = (xs (i + 2).toNat).toInt := ⟨_, rfl⟩
  rw [← hz_2]
  have hrz_2 : -2147483648 ≤ z_2 ∧ z_2 ≤ 2147483647 := by rw [hz_2]; exact iN_rng _
  refine lv_aload_n hC.1 hC.2.1 dL_law_2343 rfl (lv_at hl 3 rfl) ?_
  refine x_callSW hC hw (lv_size hl) ((c_L_same l G hst hG hN hdA (p0 := z_1) (by omega) (p1 := z_2) (by omega)).frame hdB) gL_law_L_same rfl dv_L_same_s rfl (Nat.le_of_ble_eq_true rfl) (by rw [hRf]; decide) (by rw [hRl]; decide) (by first | (rw [hRc]; decide) | omega) (by first | (rw [hRs]; decide) | omega) dL_law_2344 (fun r9 M1 H locs hq hw => ?_)
  obtain ⟨Ck_3, ⟨zk_3, hrk_3, Ak_3, dk_3, svk_3, hCk_3, hdA, hw9⟩, hMk_3, hdB⟩ := hq
  subst hrk_3
  subst hCk_3
  subst hMk_3
  have hzrk_3 : 0 ≤ zk_3 ∧ zk_3 ≤ 3 := by rcases hw9 with ⟨h1, _⟩ | ⟨h1, h2, _⟩; (· omega); (· omega)
  show W p l e R s m args below meth c H locs _ _ _ (F0 m 2347 ls [.int (iN (zk_3))])
  refine lv_istore (lv' := [(5, .int (iN (zk_3))), (0, .ref b), (1, .ref h0), (2, .ref a), (3, .ref o), (4, .int (iN (i)))]) hC.1 hC.2.1 dL_law_2347 hl (by decide) rfl (fun ls hl => ?_)
  refine lv_aload_n hC.1 hC.2.1 dL_law_2349 rfl (lv_at hl 3 rfl) ?_
  refine lv_aload_n hC.1 hC.2.1 dL_law_2350 rfl (lv_at hl 1 rfl) ?_
  refine lv_iload hC.1 hC.2.1 dL_law_2351 (lv_at hl 5 rfl) ?_
  refine x_const hC dL_law_2353 ?_
  refine x_iadd hC dL_law_2354 ?_
  refine x_sld hC hw hX hbl hbA (by omega) (by omega) (by omega) dL_law_2355 ?_
  rw [← hz_1]
  refine lv_aload_n hC.1 hC.2.1 dL_law_2356 rfl (lv_at hl 1 rfl) ?_
  refine lv_iload hC.1 hC.2.1 dL_law_2357 (lv_at hl 5 rfl) ?_
  refine x_const hC dL_law_2359 ?_
  refine x_iadd hC dL_law_2360 ?_
  refine x_sld hC hw hX hbl hbA (by omega) (by omega) (by omega) dL_law_2361 ?_
  rw [← hz_2]
  rw [xU_comm hdB] at hw
  obtain ⟨va, oa, wa, ya, wk, br, re, la, ha, qv, qw, fa, fb, fy, wt, hR, hK⟩ := hm
  replace hR : MGx G B a va oa wa ya wk th0 rfd br re la ha kp kv qv qw fa fb V O fy Wv wt S := hR
  replace hK : abM O wt br re la ha K := hK
  refine x_callV hC hw (lv_size hl) ((c_X5_same l G hR hK (p0 := z_1) (by omega) (p1 := z_2) (by omega)).frame hdB.symm) gL_law_X5_same rfl dv_X5_same (xU_l hR.1.1) rfl rfl (Nat.le_of_ble_eq_true rfl) (by rw [hRf]; decide) (by rw [hRl]; decide) (by first | (rw [hRc]; decide) | omega) (by first | (rw [hRs]; decide) | omega) dL_law_2362 (fun r9 M1 H locs hq hw => ?_)
  obtain ⟨Bk_4, ⟨zk_4, thk_4, hrk_4, hzk_4, hv9⟩, hMk_4, hdB9⟩ := hq
  subst hrk_4
  subst hMk_4
  have hdB := hdB9.symm
  rw [xU_comm hdB9] at hw
  obtain ⟨s1, hG, hm, hkt, hthr, hans, hbo⟩ : ∃ s1 : ST, RG G Ak_3 h0 (N + 1) s1 ∧ MGm G Bk_4 a S thk_4 s1 ∧ zk_3 = thk_4 ∧ (0 ≤ thk_4 ∧ thk_4 ≤ 3) ∧ (zk_3 = 0 → dk_3 = (iN zk_4).toInt64) ∧ (zk_3 = 0 → zk_4 = 0 ∨ zk_4 = 1) := by
    rcases hw9 with ⟨h1, h2, ⟨z8, h3, h4, h5⟩, h6⟩ | ⟨h1, h2, h6⟩
    · rcases hv9 with ⟨g1, g2, g4, g5⟩ | ⟨g1, g2, g5⟩
      · exact ⟨_, h6, g5, by omega, by omega, fun _ => (show dk_3 = (iN zk_4).toInt64 by rw [h3, h5, g4]), fun _ => by rw [g4]; unfold A_same; split <;> simp⟩
      · exfalso; omega
    · rcases hv9 with ⟨g1, g2, g4, g5⟩ | ⟨g1, g2, g5⟩
      · exfalso; omega
      · exact ⟨_, h6, g5, by omega, by omega, fun q9 => absurd q9 h1, fun q9 => absurd q9 h1⟩
  clear hw9 hv9
  show W p l e R s m args below meth c H locs _ _ _ (F0 m 2365 ls [.int (iN (zk_4))])
  refine lv_istore (lv' := [(6, .int (iN (zk_4))), (5, .int (iN (zk_3))), (0, .ref b), (1, .ref h0), (2, .ref a), (3, .ref o), (4, .int (iN (i)))]) hC.1 hC.2.1 dL_law_2365 hl (by decide) rfl (fun ls hl => ?_)
  refine lv_goto (tgt := 2584) hC.1 hC.2.1 dL_law_2367 (by decide) ?_
  refine W.widen (k := cu + 2) (n := su + (12)) (by omega) (by omega) ?_
  exact kk _ _ _ _ _ S hw ⟨_, _, _, _, _, rfl, hG, hm, hdA, hdB⟩ (lv_sub hl [2, 3, 4, 5, 6] rfl) (Nat.le_refl _)
set_option maxHeartbeats 8000000 in
set_option maxRecDepth 100000 in
theorem k_46 {p : Program} {l : Launch} {e : Env} {R : Room} {s : State} {m : MethodId} {args : Array Value} {below : List Frame} {meth : Method} {c : Code} {Q : State → Prop} {G : xG} {b L : Nat} {xs : Nat → Int32} {nm : String} (hst : l.stackTraces = false) (hRf : R.frames = 2048) {C9 S9 : Nat} (hRc : R.cells = C9) (hRs : R.slots = S9) (hC9 : 513000 ≤ C9) (hS9 : 6932000 ≤ S9) (hRl : R.locals = 84000) (hC : xB p s m args meth c cL_law 7 "RangeledgerLaw" nm wsL_law (some .boolean) G (xA (fun _ => none) s.heap.size)) (hX : va_X b L xs s s.heap) (hbl : b < s.heap.size) (hL : L ≤ 3072) {h0 a o : Nat} {N : Int} (hN : N ≤ 590) {s9 : ST} {S : Nat → Bool} {M : HM} {H : Heap} {locs : List Loc} {ls : Array Slot} {i : Int} {cu su : Nat} (hw : xD G (xA (fun _ => none) s.heap.size) s M H locs) (hS : LwS G M h0 a o N s9 S) (hl : lv_has ls 7 [(0, .ref b), (1, .ref h0), (2, .ref a), (3, .ref o), (4, .int (iN (i)))]) (hi : 0 ≤ i ∧ i + 6 ≤ L) (hcu : cu + 1000 ≤ C9) (hsu : su + 15590 ≤ S9) (kk : ∀ (M1 : HM) (H1 : Heap) (locs1 : List Loc) (ls1 : Array Slot) (s1 : ST) (S1 : Nat → Bool), xD G (xA (fun _ => none) s.heap.size) s M1 H1 locs1 → LwS G M1 h0 a o (N + 1) s1 S1 → lv_has ls1 7 [(0, .ref b), (1, .ref h0), (2, .ref a), (3, .ref o), (4, .int (iN (i)))] → mC S1 100 ≤ mC S 100 + 0 → W p l e R s m args below meth c H1 locs1 (cu + 2) (su + (12)) Q (F0 m 2584 ls1 [])) : W p l e R s m args below meth c H locs cu su Q (F0 m 2370 ls []) := by
  obtain ⟨A, B, d, sv, th0, hM, hG, hm, hdA, hdB⟩ := hS
  subst hM
  obtain ⟨O, V, Wv, K, kp, kv, rfd⟩ := s9
  have hbA : ¬ (xA (fun _ => none) s.heap.size) b := fun h9 => h9.elim (fun h8 => h8 rfl) (fun h8 => by omega)
  refine lv_aload_n hC.1 hC.2.1 dL_law_2370 rfl (lv_at hl 1 rfl) ?_
  refine lv_aload_n hC.1 hC.2.1 dL_law_2371 rfl (lv_at hl 0 rfl) ?_
  refine lv_iload hC.1 hC.2.1 dL_law_2372 (lv_at hl 4 rfl) ?_
  refine x_const hC dL_law_2374 ?_
  refine x_iadd hC dL_law_2375 ?_
  refine x_sld hC hw hX hbl hbA (by omega) (by omega) (by omega) dL_law_2376 ?_
  obtain ⟨z_1, hz_1⟩ : ∃ z : Int, z = (xs (i + 1).toNat).toInt := ⟨_, rfl⟩
  rw [← hz_1]
  have hrz_1 : -2147483648 ≤ z_1 ∧ z_1 ≤ 2147483647 := by rw [hz_1]; exact iN_rng _
  refine lv_aload_n hC.1 hC.2.1 dL_law_2377 rfl (lv_at hl 0 rfl) ?_
  refine lv_iload hC.1 hC.2.1 dL_law_2378 (lv_at hl 4 rfl) ?_
  refine x_const hC dL_law_2380 ?_
  refine x_iadd hC dL_law_2381 ?_
  refine x_sld hC hw hX hbl hbA (by omega) (by omega) (by omega) dL_law_2382 ?_
  obtain ⟨z_2, hz_2⟩ : ∃ z : Int, z = (xs (i + 2).toNat).toInt := ⟨_, rfl⟩
  rw [← hz_2]
  have hrz_2 : -2147483648 ≤ z_2 ∧ z_2 ≤ 2147483647 := by rw [hz_2]; exact iN_rng _
  refine lv_aload_n hC.1 hC.2.1 dL_law_2383 rfl (lv_at hl 3 rfl) ?_
  refine x_callSW hC hw (lv_size hl) ((c_L_viewGet l G hst hG hN hdA (p0 := z_1) (by omega) (p1 := z_2) (by omega)).frame hdB) gL_law_L_viewGet rfl dv_L_viewGet_s rfl (Nat.le_of_ble_eq_true rfl) (by rw [hRf]; decide) (by rw [hRl]; decide) (by first | (rw [hRc]; decide) | omega) (by first | (rw [hRs]; decide) | omega) dL_law_2384 (fun r9 M1 H locs hq hw => ?_)
  obtain ⟨Ck_3, ⟨zk_3, hrk_3, Ak_3, dk_3, svk_3, hCk_3, hdA, hw9⟩, hMk_3, hdB⟩ := hq
  subst hrk_3
  subst hCk_3
  subst hMk_3
  have hzrk_3 : 0 ≤ zk_3 ∧ zk_3 ≤ 3 := by rcases hw9 with ⟨h1, _⟩ | ⟨h1, h2, _⟩; (· omega); (· omega)
  show W p l e R s m args below meth c H locs _ _ _ (F0 m 2387 ls [.int (iN (zk_3))])
  refine lv_istore (lv' := [(5, .int (iN (zk_3))), (0, .ref b), (1, .ref h0), (2, .ref a), (3, .ref o), (4, .int (iN (i)))]) hC.1 hC.2.1 dL_law_2387 hl (by decide) rfl (fun ls hl => ?_)
  refine lv_aload_n hC.1 hC.2.1 dL_law_2389 rfl (lv_at hl 3 rfl) ?_
  refine lv_aload_n hC.1 hC.2.1 dL_law_2390 rfl (lv_at hl 1 rfl) ?_
  refine lv_iload hC.1 hC.2.1 dL_law_2391 (lv_at hl 5 rfl) ?_
  refine x_const hC dL_law_2393 ?_
  refine x_iadd hC dL_law_2394 ?_
  refine x_sld hC hw hX hbl hbA (by omega) (by omega) (by omega) dL_law_2395 ?_
  rw [← hz_1]
  refine lv_aload_n hC.1 hC.2.1 dL_law_2396 rfl (lv_at hl 1 rfl) ?_
  refine lv_iload hC.1 hC.2.1 dL_law_2397 (lv_at hl 5 rfl) ?_
  refine x_const hC dL_law_2399 ?_
  refine x_iadd hC dL_law_2400 ?_
  refine x_sld hC hw hX hbl hbA (by omega) (by omega) (by omega) dL_law_2401 ?_
  rw [← hz_2]
  rw [xU_comm hdB] at hw
  obtain ⟨va, oa, wa, ya, wk, br, re, la, ha, qv, qw, fa, fb, fy, wt, hR, hK⟩ := hm
  replace hR : MGx G B a va oa wa ya wk th0 rfd br re la ha kp kv qv qw fa fb V O fy Wv wt S := hR
  replace hK : abM O wt br re la ha K := hK
  refine x_callV hC hw (lv_size hl) ((c_X5_viewGet l G hR hK (p0 := z_1) (by omega) (p1 := z_2) (by omega)).frame hdB.symm) gL_law_X5_viewGet rfl dv_X5_viewGet (xU_l hR.1.1) rfl rfl (Nat.le_of_ble_eq_true rfl) (by rw [hRf]; decide) (by rw [hRl]; decide) (by first | (rw [hRc]; decide) | omega) (by first | (rw [hRs]; decide) | omega) dL_law_2402 (fun r9 M1 H locs hq hw => ?_)
  obtain ⟨Bk_4, ⟨zk_4, thk_4, hrk_4, hzk_4, hv9⟩, hMk_4, hdB9⟩ := hq
  subst hrk_4
  subst hMk_4
  have hdB := hdB9.symm
  rw [xU_comm hdB9] at hw
  obtain ⟨s1, hG, hm, hkt, hthr, hans⟩ : ∃ s1 : ST, RG G Ak_3 h0 (N + 1) s1 ∧ MGm G Bk_4 a S thk_4 s1 ∧ zk_3 = thk_4 ∧ (0 ≤ thk_4 ∧ thk_4 ≤ 3) ∧ (zk_3 = 0 → dk_3 = (iN zk_4).toInt64) := by
    rcases hw9 with ⟨h1, h2, ⟨z8, h3, h4, h5⟩, h6⟩ | ⟨h1, h2, h6⟩
    · rcases hv9 with ⟨g1, g2, g4, g5⟩ | ⟨g1, g2, g5⟩
      · exact ⟨_, h6, g5, by omega, by omega, fun _ => (show dk_3 = (iN zk_4).toInt64 by rw [h3, h5, g4])⟩
      · exfalso; omega
    · rcases hv9 with ⟨g1, g2, g4, g5⟩ | ⟨g1, g2, g5⟩
      · exfalso; omega
      · exact ⟨_, h6, g5, by omega, by omega, fun q9 => absurd q9 h1⟩
  clear hw9 hv9
  show W p l e R s m args below meth c H locs _ _ _ (F0 m 2405 ls [.int (iN (zk_4))])
  refine lv_istore (lv' := [(6, .int (iN (zk_4))), (5, .int (iN (zk_3))), (0, .ref b), (1, .ref h0), (2, .ref a), (3, .ref o), (4, .int (iN (i)))]) hC.1 hC.2.1 dL_law_2405 hl (by decide) rfl (fun ls hl => ?_)
  refine lv_goto (tgt := 2584) hC.1 hC.2.1 dL_law_2407 (by decide) ?_
  refine W.widen (k := cu + 2) (n := su + (12)) (by omega) (by omega) ?_
  exact kk _ _ _ _ _ S hw ⟨_, _, _, _, _, rfl, hG, hm, hdA, hdB⟩ (lv_sub hl [2, 3, 4, 5, 6] rfl) (Nat.le_refl _)
set_option maxHeartbeats 8000000 in
set_option maxRecDepth 100000 in
theorem k_47 {p : Program} {l : Launch} {e : Env} {R : Room} {s : State} {m : MethodId} {args : Array Value} {below : List Frame} {meth : Method} {c : Code} {Q : State → Prop} {G : xG} {b L : Nat} {xs : Nat → Int32} {nm : String} (hst : l.stackTraces = false) (hRf : R.frames = 2048) {C9 S9 : Nat} (hRc : R.cells = C9) (hRs : R.slots = S9) (hC9 : 513000 ≤ C9) (hS9 : 6932000 ≤ S9) (hRl : R.locals = 84000) (hC : xB p s m args meth c cL_law 7 "RangeledgerLaw" nm wsL_law (some .boolean) G (xA (fun _ => none) s.heap.size)) (hX : va_X b L xs s s.heap) (hbl : b < s.heap.size) (hL : L ≤ 3072) {h0 a o : Nat} {N : Int} (hN : N ≤ 590) {s9 : ST} {S : Nat → Bool} {M : HM} {H : Heap} {locs : List Loc} {ls : Array Slot} {i : Int} {cu su : Nat} (hw : xD G (xA (fun _ => none) s.heap.size) s M H locs) (hS : LwS G M h0 a o N s9 S) (hl : lv_has ls 7 [(0, .ref b), (1, .ref h0), (2, .ref a), (3, .ref o), (4, .int (iN (i)))]) (hi : 0 ≤ i ∧ i + 6 ≤ L) (hcu : cu + 1000 ≤ C9) (hsu : su + 15590 ≤ S9) (kk : ∀ (M1 : HM) (H1 : Heap) (locs1 : List Loc) (ls1 : Array Slot) (s1 : ST) (S1 : Nat → Bool), xD G (xA (fun _ => none) s.heap.size) s M1 H1 locs1 → LwS G M1 h0 a o (N + 1) s1 S1 → lv_has ls1 7 [(0, .ref b), (1, .ref h0), (2, .ref a), (3, .ref o), (4, .int (iN (i)))] → mC S1 100 ≤ mC S 100 + 0 → W p l e R s m args below meth c H1 locs1 (cu + 2) (su + (12)) Q (F0 m 2584 ls1 [])) : W p l e R s m args below meth c H locs cu su Q (F0 m 2410 ls []) := by
  obtain ⟨A, B, d, sv, th0, hM, hG, hm, hdA, hdB⟩ := hS
  subst hM
  obtain ⟨O, V, Wv, K, kp, kv, rfd⟩ := s9
  have hbA : ¬ (xA (fun _ => none) s.heap.size) b := fun h9 => h9.elim (fun h8 => h8 rfl) (fun h8 => by omega)
  refine lv_aload_n hC.1 hC.2.1 dL_law_2410 rfl (lv_at hl 1 rfl) ?_
  refine lv_aload_n hC.1 hC.2.1 dL_law_2411 rfl (lv_at hl 0 rfl) ?_
  refine lv_iload hC.1 hC.2.1 dL_law_2412 (lv_at hl 4 rfl) ?_
  refine x_const hC dL_law_2414 ?_
  refine x_iadd hC dL_law_2415 ?_
  refine x_sld hC hw hX hbl hbA (by omega) (by omega) (by omega) dL_law_2416 ?_
  obtain ⟨z_1, hz_1⟩ : ∃ z : Int, z = (xs (i + 1).toNat).toInt := ⟨_, rfl⟩
  rw [← hz_1]
  have hrz_1 : -2147483648 ≤ z_1 ∧ z_1 ≤ 2147483647 := by rw [hz_1]; exact iN_rng _
  refine lv_aload_n hC.1 hC.2.1 dL_law_2417 rfl (lv_at hl 0 rfl) ?_
  refine lv_iload hC.1 hC.2.1 dL_law_2418 (lv_at hl 4 rfl) ?_
  refine x_const hC dL_law_2420 ?_
  refine x_iadd hC dL_law_2421 ?_
  refine x_sld hC hw hX hbl hbA (by omega) (by omega) (by omega) dL_law_2422 ?_
  obtain ⟨z_2, hz_2⟩ : ∃ z : Int, z = (xs (i + 2).toNat).toInt := ⟨_, rfl⟩
  rw [← hz_2]
  have hrz_2 : -2147483648 ≤ z_2 ∧ z_2 ≤ 2147483647 := by rw [hz_2]; exact iN_rng _
  refine lv_aload_n hC.1 hC.2.1 dL_law_2423 rfl (lv_at hl 3 rfl) ?_
  refine x_callSW hC hw (lv_size hl) ((c_L_ofView l G hst hG hN hdA (p0 := z_1) (by omega) (p1 := z_2) (by omega)).frame hdB) gL_law_L_ofView rfl dv_L_ofView_s rfl (Nat.le_of_ble_eq_true rfl) (by rw [hRf]; decide) (by rw [hRl]; decide) (by first | (rw [hRc]; decide) | omega) (by first | (rw [hRs]; decide) | omega) dL_law_2424 (fun r9 M1 H locs hq hw => ?_)
  obtain ⟨Ck_3, ⟨zk_3, hrk_3, Ak_3, dk_3, svk_3, hCk_3, hdA, hw9⟩, hMk_3, hdB⟩ := hq
  subst hrk_3
  subst hCk_3
  subst hMk_3
  have hzrk_3 : 0 ≤ zk_3 ∧ zk_3 ≤ 3 := by rcases hw9 with ⟨h1, _⟩ | ⟨h1, h2, _⟩; (· omega); (· omega)
  show W p l e R s m args below meth c H locs _ _ _ (F0 m 2427 ls [.int (iN (zk_3))])
  refine lv_istore (lv' := [(5, .int (iN (zk_3))), (0, .ref b), (1, .ref h0), (2, .ref a), (3, .ref o), (4, .int (iN (i)))]) hC.1 hC.2.1 dL_law_2427 hl (by decide) rfl (fun ls hl => ?_)
  refine lv_aload_n hC.1 hC.2.1 dL_law_2429 rfl (lv_at hl 3 rfl) ?_
  refine lv_aload_n hC.1 hC.2.1 dL_law_2430 rfl (lv_at hl 1 rfl) ?_
  refine lv_iload hC.1 hC.2.1 dL_law_2431 (lv_at hl 5 rfl) ?_
  refine x_const hC dL_law_2433 ?_
  refine x_iadd hC dL_law_2434 ?_
  refine x_sld hC hw hX hbl hbA (by omega) (by omega) (by omega) dL_law_2435 ?_
  rw [← hz_1]
  refine lv_aload_n hC.1 hC.2.1 dL_law_2436 rfl (lv_at hl 1 rfl) ?_
  refine lv_iload hC.1 hC.2.1 dL_law_2437 (lv_at hl 5 rfl) ?_
  refine x_const hC dL_law_2439 ?_
  refine x_iadd hC dL_law_2440 ?_
  refine x_sld hC hw hX hbl hbA (by omega) (by omega) (by omega) dL_law_2441 ?_
  rw [← hz_2]
  rw [xU_comm hdB] at hw
  obtain ⟨va, oa, wa, ya, wk, br, re, la, ha, qv, qw, fa, fb, fy, wt, hR, hK⟩ := hm
  replace hR : MGx G B a va oa wa ya wk th0 rfd br re la ha kp kv qv qw fa fb V O fy Wv wt S := hR
  replace hK : abM O wt br re la ha K := hK
  refine x_callV hC hw (lv_size hl) ((c_X5_ofView l G hR hK (p0 := z_1) (by omega) (p1 := z_2) (by omega)).frame hdB.symm) gL_law_X5_ofView rfl dv_X5_ofView (xU_l hR.1.1) rfl rfl (Nat.le_of_ble_eq_true rfl) (by rw [hRf]; decide) (by rw [hRl]; decide) (by first | (rw [hRc]; decide) | omega) (by first | (rw [hRs]; decide) | omega) dL_law_2442 (fun r9 M1 H locs hq hw => ?_)
  obtain ⟨Bk_4, ⟨zk_4, thk_4, hrk_4, hzk_4, hv9⟩, hMk_4, hdB9⟩ := hq
  subst hrk_4
  subst hMk_4
  have hdB := hdB9.symm
  rw [xU_comm hdB9] at hw
  obtain ⟨s1, hG, hm, hkt, hthr, hans⟩ : ∃ s1 : ST, RG G Ak_3 h0 (N + 1) s1 ∧ MGm G Bk_4 a S thk_4 s1 ∧ zk_3 = thk_4 ∧ (0 ≤ thk_4 ∧ thk_4 ≤ 3) ∧ (zk_3 = 0 → dk_3 = (iN zk_4).toInt64) := by
    rcases hw9 with ⟨h1, h2, ⟨z8, h3, h4, h5⟩, h6⟩ | ⟨h1, h2, h6⟩
    · rcases hv9 with ⟨g1, g2, g4, g5⟩ | ⟨g1, g2, g5⟩
      · exact ⟨_, h6, g5, by omega, by omega, fun _ => (show dk_3 = (iN zk_4).toInt64 by rw [h3, h5, g4])⟩
      · exfalso; omega
    · rcases hv9 with ⟨g1, g2, g4, g5⟩ | ⟨g1, g2, g5⟩
      · exfalso; omega
      · exact ⟨_, h6, g5, by omega, by omega, fun q9 => absurd q9 h1⟩
  clear hw9 hv9
  show W p l e R s m args below meth c H locs _ _ _ (F0 m 2445 ls [.int (iN (zk_4))])
  refine lv_istore (lv' := [(6, .int (iN (zk_4))), (5, .int (iN (zk_3))), (0, .ref b), (1, .ref h0), (2, .ref a), (3, .ref o), (4, .int (iN (i)))]) hC.1 hC.2.1 dL_law_2445 hl (by decide) rfl (fun ls hl => ?_)
  refine lv_goto (tgt := 2584) hC.1 hC.2.1 dL_law_2447 (by decide) ?_
  refine W.widen (k := cu + 2) (n := su + (12)) (by omega) (by omega) ?_
  exact kk _ _ _ _ _ S hw ⟨_, _, _, _, _, rfl, hG, hm, hdA, hdB⟩ (lv_sub hl [2, 3, 4, 5, 6] rfl) (Nat.le_refl _)
set_option maxHeartbeats 8000000 in
set_option maxRecDepth 100000 in
theorem k_48 {p : Program} {l : Launch} {e : Env} {R : Room} {s : State} {m : MethodId} {args : Array Value} {below : List Frame} {meth : Method} {c : Code} {Q : State → Prop} {G : xG} {b L : Nat} {xs : Nat → Int32} {nm : String} (hst : l.stackTraces = false) (hRf : R.frames = 2048) {C9 S9 : Nat} (hRc : R.cells = C9) (hRs : R.slots = S9) (hC9 : 513000 ≤ C9) (hS9 : 6932000 ≤ S9) (hRl : R.locals = 84000) (hC : xB p s m args meth c cL_law 7 "RangeledgerLaw" nm wsL_law (some .boolean) G (xA (fun _ => none) s.heap.size)) (hX : va_X b L xs s s.heap) (hbl : b < s.heap.size) (hL : L ≤ 3072) {h0 a o : Nat} {N : Int} (hN : N ≤ 590) {s9 : ST} {S : Nat → Bool} {M : HM} {H : Heap} {locs : List Loc} {ls : Array Slot} {i : Int} {cu su : Nat} (hw : xD G (xA (fun _ => none) s.heap.size) s M H locs) (hS : LwS G M h0 a o N s9 S) (hl : lv_has ls 7 [(0, .ref b), (1, .ref h0), (2, .ref a), (3, .ref o), (4, .int (iN (i)))]) (hi : 0 ≤ i ∧ i + 6 ≤ L) (hcu : cu + 1000 ≤ C9) (hsu : su + 15590 ≤ S9) (kk : ∀ (M1 : HM) (H1 : Heap) (locs1 : List Loc) (ls1 : Array Slot) (s1 : ST) (S1 : Nat → Bool), xD G (xA (fun _ => none) s.heap.size) s M1 H1 locs1 → LwS G M1 h0 a o (N + 1) s1 S1 → lv_has ls1 7 [(0, .ref b), (1, .ref h0), (2, .ref a), (3, .ref o), (4, .int (iN (i)))] → mC S1 100 ≤ mC S 100 + 0 → W p l e R s m args below meth c H1 locs1 (cu + 3) (su + (18)) Q (F0 m 2584 ls1 [])) : W p l e R s m args below meth c H locs cu su Q (F0 m 2450 ls []) := by
  obtain ⟨A, B, d, sv, th0, hM, hG, hm, hdA, hdB⟩ := hS
  subst hM
  obtain ⟨O, V, Wv, K, kp, kv, rfd⟩ := s9
  have hbA : ¬ (xA (fun _ => none) s.heap.size) b := fun h9 => h9.elim (fun h8 => h8 rfl) (fun h8 => by omega)
  refine lv_aload_n hC.1 hC.2.1 dL_law_2450 rfl (lv_at hl 1 rfl) ?_
  refine lv_aload_n hC.1 hC.2.1 dL_law_2451 rfl (lv_at hl 0 rfl) ?_
  refine lv_iload hC.1 hC.2.1 dL_law_2452 (lv_at hl 4 rfl) ?_
  refine x_const hC dL_law_2454 ?_
  refine x_iadd hC dL_law_2455 ?_
  refine x_sld hC hw hX hbl hbA (by omega) (by omega) (by omega) dL_law_2456 ?_
  obtain ⟨z_1, hz_1⟩ : ∃ z : Int, z = (xs (i + 1).toNat).toInt := ⟨_, rfl⟩
  rw [← hz_1]
  have hrz_1 : -2147483648 ≤ z_1 ∧ z_1 ≤ 2147483647 := by rw [hz_1]; exact iN_rng _
  refine lv_aload_n hC.1 hC.2.1 dL_law_2457 rfl (lv_at hl 0 rfl) ?_
  refine lv_iload hC.1 hC.2.1 dL_law_2458 (lv_at hl 4 rfl) ?_
  refine x_const hC dL_law_2460 ?_
  refine x_iadd hC dL_law_2461 ?_
  refine x_sld hC hw hX hbl hbA (by omega) (by omega) (by omega) dL_law_2462 ?_
  obtain ⟨z_2, hz_2⟩ : ∃ z : Int, z = (xs (i + 2).toNat).toInt := ⟨_, rfl⟩
  rw [← hz_2]
  have hrz_2 : -2147483648 ≤ z_2 ∧ z_2 ≤ 2147483647 := by rw [hz_2]; exact iN_rng _
  refine lv_aload_n hC.1 hC.2.1 dL_law_2463 rfl (lv_at hl 0 rfl) ?_
  refine lv_iload hC.1 hC.2.1 dL_law_2464 (lv_at hl 4 rfl) ?_
  refine x_const hC dL_law_2466 ?_
  refine x_iadd hC dL_law_2467 ?_
  refine x_sld hC hw hX hbl hbA (by omega) (by omega) (by omega) dL_law_2468 ?_
  obtain ⟨z_3, hz_3⟩ : ∃ z : Int, z = (xs (i + 3).toNat).toInt := ⟨_, rfl⟩
  rw [← hz_3]
  have hrz_3 : -2147483648 ≤ z_3 ∧ z_3 ≤ 2147483647 := by rw [hz_3]; exact iN_rng _
  refine lv_aload_n hC.1 hC.2.1 dL_law_2469 rfl (lv_at hl 3 rfl) ?_
  refine x_callSW hC hw (lv_size hl) ((c_L_viewNear l G hst hG hN hdA (p0 := z_1) (by omega) (p1 := z_2) (by omega) (p2 := z_3) (by omega)).frame hdB) gL_law_L_viewNear rfl dv_L_viewNear_s rfl (Nat.le_of_ble_eq_true rfl) (by rw [hRf]; decide) (by rw [hRl]; decide) (by first | (rw [hRc]; decide) | omega) (by first | (rw [hRs]; decide) | omega) dL_law_2470 (fun r9 M1 H locs hq hw => ?_)
  obtain ⟨Ck_4, ⟨zk_4, hrk_4, Ak_4, dk_4, svk_4, hCk_4, hdA, hw9⟩, hMk_4, hdB⟩ := hq
  subst hrk_4
  subst hCk_4
  subst hMk_4
  have hzrk_4 : 0 ≤ zk_4 ∧ zk_4 ≤ 3 := by rcases hw9 with ⟨h1, _⟩ | ⟨h1, h2, _⟩; (· omega); (· omega)
  show W p l e R s m args below meth c H locs _ _ _ (F0 m 2473 ls [.int (iN (zk_4))])
  refine lv_istore (lv' := [(5, .int (iN (zk_4))), (0, .ref b), (1, .ref h0), (2, .ref a), (3, .ref o), (4, .int (iN (i)))]) hC.1 hC.2.1 dL_law_2473 hl (by decide) rfl (fun ls hl => ?_)
  refine lv_aload_n hC.1 hC.2.1 dL_law_2475 rfl (lv_at hl 3 rfl) ?_
  refine lv_aload_n hC.1 hC.2.1 dL_law_2476 rfl (lv_at hl 1 rfl) ?_
  refine lv_iload hC.1 hC.2.1 dL_law_2477 (lv_at hl 5 rfl) ?_
  refine x_const hC dL_law_2479 ?_
  refine x_iadd hC dL_law_2480 ?_
  refine x_sld hC hw hX hbl hbA (by omega) (by omega) (by omega) dL_law_2481 ?_
  rw [← hz_1]
  refine lv_aload_n hC.1 hC.2.1 dL_law_2482 rfl (lv_at hl 1 rfl) ?_
  refine lv_iload hC.1 hC.2.1 dL_law_2483 (lv_at hl 5 rfl) ?_
  refine x_const hC dL_law_2485 ?_
  refine x_iadd hC dL_law_2486 ?_
  refine x_sld hC hw hX hbl hbA (by omega) (by omega) (by omega) dL_law_2487 ?_
  rw [← hz_2]
  refine lv_aload_n hC.1 hC.2.1 dL_law_2488 rfl (lv_at hl 1 rfl) ?_
  refine lv_iload hC.1 hC.2.1 dL_law_2489 (lv_at hl 5 rfl) ?_
  refine x_const hC dL_law_2491 ?_
  refine x_iadd hC dL_law_2492 ?_
  refine x_sld hC hw hX hbl hbA (by omega) (by omega) (by omega) dL_law_2493 ?_
  rw [← hz_3]
  rw [xU_comm hdB] at hw
  obtain ⟨va, oa, wa, ya, wk, br, re, la, ha, qv, qw, fa, fb, fy, wt, hR, hK⟩ := hm
  replace hR : MGx G B a va oa wa ya wk th0 rfd br re la ha kp kv qv qw fa fb V O fy Wv wt S := hR
  replace hK : abM O wt br re la ha K := hK
  refine x_callV hC hw (lv_size hl) ((c_X5_viewNear l G hR hK (p0 := z_1) (by omega) (p1 := z_2) (by omega) (p2 := z_3) (by omega)).frame hdB.symm) gL_law_X5_viewNear rfl dv_X5_viewNear (xU_l hR.1.1) rfl rfl (Nat.le_of_ble_eq_true rfl) (by rw [hRf]; decide) (by rw [hRl]; decide) (by first | (rw [hRc]; decide) | omega) (by first | (rw [hRs]; decide) | omega) dL_law_2494 (fun r9 M1 H locs hq hw => ?_)
  obtain ⟨Bk_5, ⟨zk_5, thk_5, hrk_5, hzk_5, hv9⟩, hMk_5, hdB9⟩ := hq
  subst hrk_5
  subst hMk_5
  have hdB := hdB9.symm
  rw [xU_comm hdB9] at hw
  obtain ⟨s1, hG, hm, hkt, hthr, hans⟩ : ∃ s1 : ST, RG G Ak_4 h0 (N + 1) s1 ∧ MGm G Bk_5 a S thk_5 s1 ∧ zk_4 = thk_5 ∧ (0 ≤ thk_5 ∧ thk_5 ≤ 3) ∧ (zk_4 = 0 → dk_4 = (iN zk_5).toInt64) := by
    rcases hw9 with ⟨h1, h2, ⟨z8, h3, h4, h5⟩, h6⟩ | ⟨h1, h2, h6⟩
    · rcases hv9 with ⟨g1, g2, g4, g5⟩ | ⟨g1, g2, g5⟩
      · exact ⟨_, h6, g5, by omega, by omega, fun _ => (show dk_4 = (iN zk_5).toInt64 by rw [h3, h5, g4])⟩
      · exfalso; omega
    · rcases hv9 with ⟨g1, g2, g4, g5⟩ | ⟨g1, g2, g5⟩
      · exfalso; omega
      · exact ⟨_, h6, g5, by omega, by omega, fun q9 => absurd q9 h1⟩
  clear hw9 hv9
  show W p l e R s m args below meth c H locs _ _ _ (F0 m 2497 ls [.int (iN (zk_5))])
  refine lv_istore (lv' := [(6, .int (iN (zk_5))), (5, .int (iN (zk_4))), (0, .ref b), (1, .ref h0), (2, .ref a), (3, .ref o), (4, .int (iN (i)))]) hC.1 hC.2.1 dL_law_2497 hl (by decide) rfl (fun ls hl => ?_)
  refine lv_goto (tgt := 2584) hC.1 hC.2.1 dL_law_2499 (by decide) ?_
  refine W.widen (k := cu + 3) (n := su + (18)) (by omega) (by omega) ?_
  exact kk _ _ _ _ _ S hw ⟨_, _, _, _, _, rfl, hG, hm, hdA, hdB⟩ (lv_sub hl [2, 3, 4, 5, 6] rfl) (Nat.le_refl _)
set_option maxHeartbeats 8000000 in
set_option maxRecDepth 100000 in
theorem k_49 {p : Program} {l : Launch} {e : Env} {R : Room} {s : State} {m : MethodId} {args : Array Value} {below : List Frame} {meth : Method} {c : Code} {Q : State → Prop} {G : xG} {b L : Nat} {xs : Nat → Int32} {nm : String} (hst : l.stackTraces = false) (hRf : R.frames = 2048) {C9 S9 : Nat} (hRc : R.cells = C9) (hRs : R.slots = S9) (hC9 : 513000 ≤ C9) (hS9 : 6932000 ≤ S9) (hRl : R.locals = 84000) (hC : xB p s m args meth c cL_law 7 "RangeledgerLaw" nm wsL_law (some .boolean) G (xA (fun _ => none) s.heap.size)) (hX : va_X b L xs s s.heap) (hbl : b < s.heap.size) (hL : L ≤ 3072) {h0 a o : Nat} {N : Int} (hN : N ≤ 590) {s9 : ST} {S : Nat → Bool} {M : HM} {H : Heap} {locs : List Loc} {ls : Array Slot} {i : Int} {cu su : Nat} (hw : xD G (xA (fun _ => none) s.heap.size) s M H locs) (hS : LwS G M h0 a o N s9 S) (hl : lv_has ls 7 [(0, .ref b), (1, .ref h0), (2, .ref a), (3, .ref o), (4, .int (iN (i)))]) (hi : 0 ≤ i ∧ i + 6 ≤ L) (hcu : cu + 1000 ≤ C9) (hsu : su + 15590 ≤ S9) {Kn Tm : Nat} (hKn : mC S 100 ≤ Kn) (hT : (Kn = 60 ∧ Tm = 1800) ∨ (Kn = 80 ∧ Tm = 3210) ∨ (Kn = 100 ∧ Tm = 3410)) (kk : ∀ (M1 : HM) (H1 : Heap) (locs1 : List Loc) (ls1 : Array Slot) (s1 : ST) (S1 : Nat → Bool), xD G (xA (fun _ => none) s.heap.size) s M1 H1 locs1 → LwS G M1 h0 a o (N + 1) s1 S1 → lv_has ls1 7 [(0, .ref b), (1, .ref h0), (2, .ref a), (3, .ref o), (4, .int (iN (i)))] → mC S1 100 ≤ mC S 100 + 0 → W p l e R s m args below meth c H1 locs1 (cu + 31) (su + (11706 + (Tm + 20))) Q (F0 m 2584 ls1 [])) : W p l e R s m args below meth c H locs cu su Q (F0 m 2502 ls []) := by
  obtain ⟨A, B, d, sv, th0, hM, hG, hm, hdA, hdB⟩ := hS
  subst hM
  obtain ⟨O, V, Wv, K, kp, kv, rfd⟩ := s9
  have hbA : ¬ (xA (fun _ => none) s.heap.size) b := fun h9 => h9.elim (fun h8 => h8 rfl) (fun h8 => by omega)
  refine lv_aload_n hC.1 hC.2.1 dL_law_2502 rfl (lv_at hl 1 rfl) ?_
  refine lv_aload_n hC.1 hC.2.1 dL_law_2503 rfl (lv_at hl 0 rfl) ?_
  refine lv_iload hC.1 hC.2.1 dL_law_2504 (lv_at hl 4 rfl) ?_
  refine x_const hC dL_law_2506 ?_
  refine x_iadd hC dL_law_2507 ?_
  refine x_sld hC hw hX hbl hbA (by omega) (by omega) (by omega) dL_law_2508 ?_
  obtain ⟨z_1, hz_1⟩ : ∃ z : Int, z = (xs (i + 1).toNat).toInt := ⟨_, rfl⟩
  rw [← hz_1]
  have hrz_1 : -2147483648 ≤ z_1 ∧ z_1 ≤ 2147483647 := by rw [hz_1]; exact iN_rng _
  refine lv_aload_n hC.1 hC.2.1 dL_law_2509 rfl (lv_at hl 3 rfl) ?_
  refine x_callSW hC hw (lv_size hl) ((c_L_viewRow l G hst hG hN hdA (p0 := z_1) (by omega)).frame hdB) gL_law_L_viewRow rfl dv_L_viewRow_s rfl (Nat.le_of_ble_eq_true rfl) (by rw [hRf]; decide) (by rw [hRl]; decide) (by first | (rw [hRc]; decide) | omega) (by first | (rw [hRs]; decide) | omega) dL_law_2510 (fun r9 M1 H locs hq hw => ?_)
  obtain ⟨Ck_2, ⟨zk_2, hrk_2, Ak_2, dk_2, svk_2, hCk_2, hdA, hw9⟩, hMk_2, hdB⟩ := hq
  subst hrk_2
  subst hCk_2
  subst hMk_2
  have hzrk_2 : 0 ≤ zk_2 ∧ zk_2 ≤ 3 := by rcases hw9 with ⟨h1, _⟩ | ⟨h1, h2, _⟩; (· omega); (· omega)
  show W p l e R s m args below meth c H locs _ _ _ (F0 m 2513 ls [.int (iN (zk_2))])
  refine lv_istore (lv' := [(5, .int (iN (zk_2))), (0, .ref b), (1, .ref h0), (2, .ref a), (3, .ref o), (4, .int (iN (i)))]) hC.1 hC.2.1 dL_law_2513 hl (by decide) rfl (fun ls hl => ?_)
  refine lv_aload_n hC.1 hC.2.1 dL_law_2515 rfl (lv_at hl 3 rfl) ?_
  refine lv_aload_n hC.1 hC.2.1 dL_law_2516 rfl (lv_at hl 1 rfl) ?_
  refine lv_iload hC.1 hC.2.1 dL_law_2517 (lv_at hl 5 rfl) ?_
  refine x_const hC dL_law_2519 ?_
  refine x_iadd hC dL_law_2520 ?_
  refine x_sld hC hw hX hbl hbA (by omega) (by omega) (by omega) dL_law_2521 ?_
  rw [← hz_1]
  rw [xU_comm hdB] at hw
  obtain ⟨va, oa, wa, ya, wk, br, re, la, ha, qv, qw, fa, fb, fy, wt, hR, hK⟩ := hm
  replace hR : MGx G B a va oa wa ya wk th0 rfd br re la ha kp kv qv qw fa fb V O fy Wv wt S := hR
  replace hK : abM O wt br re la ha K := hK
  refine x_callV hC hw (lv_size hl) ((c_X5_viewRow l G hR hK (Kn := Kn) (Tm := Tm) hKn hT (p0 := z_1) (by omega)).frame hdB.symm) gL_law_X5_viewRow rfl dv_X5_viewRow (xU_l hR.1.1) rfl rfl (Nat.le_of_ble_eq_true rfl) (by rw [hRf]; decide) (by rw [hRl]; decide) (by first | (rw [hRc]; decide) | omega) (by first | (rw [hRs]; decide) | omega) dL_law_2522 (fun r9 M1 H locs hq hw => ?_)
  obtain ⟨Bk_3, ⟨qk_3, thk_3, hrk_3, hv9⟩, hMk_3, hdB9⟩ := hq
  subst hrk_3
  subst hMk_3
  have hdB := hdB9.symm
  rw [xU_comm hdB9] at hw
  obtain ⟨s1, hG, hm, hkt, hthr⟩ : ∃ s1 : ST, RG G Ak_2 h0 (N + 1) s1 ∧ MGm G Bk_3 a S thk_3 s1 ∧ zk_2 = thk_3 ∧ (0 ≤ thk_3 ∧ thk_3 ≤ 3) := by
    rcases hw9 with ⟨h1, h2, _, h6⟩ | ⟨h1, h2, h6⟩
    · rcases hv9 with ⟨g1, g2, g5⟩ | ⟨g1, g2, g5⟩
      · exact ⟨_, h6, g5, by omega, by omega⟩
      · exfalso; omega
    · rcases hv9 with ⟨g1, g2, g5⟩ | ⟨g1, g2, g5⟩
      · exfalso; omega
      · exact ⟨_, h6, g5, by omega, by omega⟩
  clear hw9 hv9
  show W p l e R s m args below meth c H locs _ _ _ (F0 m 2525 ls [.ref qk_3])
  refine lv_astore (lv' := [(6, .ref qk_3), (5, .int (iN (zk_2))), (0, .ref b), (1, .ref h0), (2, .ref a), (3, .ref o), (4, .int (iN (i)))]) hC.1 hC.2.1 dL_law_2525 hl (by decide) rfl (fun ls hl => ?_)
  refine lv_goto (tgt := 2584) hC.1 hC.2.1 dL_law_2527 (by decide) ?_
  refine W.widen (k := cu + 31) (n := su + (11706 + (Tm + 20))) (by omega) (by omega) ?_
  exact kk _ _ _ _ _ S hw ⟨_, _, _, _, _, rfl, hG, hm, hdA, hdB⟩ (lv_sub hl [2, 3, 4, 5, 6] rfl) (Nat.le_refl _)
set_option maxHeartbeats 8000000 in
set_option maxRecDepth 100000 in
theorem k_50 {p : Program} {l : Launch} {e : Env} {R : Room} {s : State} {m : MethodId} {args : Array Value} {below : List Frame} {meth : Method} {c : Code} {Q : State → Prop} {G : xG} {b L : Nat} {xs : Nat → Int32} {nm : String} (hst : l.stackTraces = false) (hRf : R.frames = 2048) {C9 S9 : Nat} (hRc : R.cells = C9) (hRs : R.slots = S9) (hC9 : 513000 ≤ C9) (hS9 : 6932000 ≤ S9) (hRl : R.locals = 84000) (hC : xB p s m args meth c cL_law 7 "RangeledgerLaw" nm wsL_law (some .boolean) G (xA (fun _ => none) s.heap.size)) (hX : va_X b L xs s s.heap) (hbl : b < s.heap.size) (hL : L ≤ 3072) {h0 a o : Nat} {N : Int} (hN : N ≤ 590) {s9 : ST} {S : Nat → Bool} {M : HM} {H : Heap} {locs : List Loc} {ls : Array Slot} {i : Int} {cu su : Nat} (hw : xD G (xA (fun _ => none) s.heap.size) s M H locs) (hS : LwS G M h0 a o N s9 S) (hl : lv_has ls 7 [(0, .ref b), (1, .ref h0), (2, .ref a), (3, .ref o), (4, .int (iN (i)))]) (hi : 0 ≤ i ∧ i + 6 ≤ L) (hcu : cu + 1000 ≤ C9) (hsu : su + 15590 ≤ S9) (kk : ∀ (M1 : HM) (H1 : Heap) (locs1 : List Loc) (ls1 : Array Slot) (s1 : ST) (S1 : Nat → Bool), xD G (xA (fun _ => none) s.heap.size) s M1 H1 locs1 → LwS G M1 h0 a o (N + 1) s1 S1 → lv_has ls1 7 [(0, .ref b), (1, .ref h0), (2, .ref a), (3, .ref o), (4, .int (iN (i)))] → mC S1 100 ≤ mC S 100 + 0 → W p l e R s m args below meth c H1 locs1 (cu + 2) (su + (13)) Q (F0 m 2584 ls1 [])) : W p l e R s m args below meth c H locs cu su Q (F0 m 2530 ls []) := by
  obtain ⟨A, B, d, sv, th0, hM, hG, hm, hdA, hdB⟩ := hS
  subst hM
  obtain ⟨O, V, Wv, K, kp, kv, rfd⟩ := s9
  have hbA : ¬ (xA (fun _ => none) s.heap.size) b := fun h9 => h9.elim (fun h8 => h8 rfl) (fun h8 => by omega)
  refine lv_aload_n hC.1 hC.2.1 dL_law_2530 rfl (lv_at hl 1 rfl) ?_
  refine lv_aload_n hC.1 hC.2.1 dL_law_2531 rfl (lv_at hl 0 rfl) ?_
  refine lv_iload hC.1 hC.2.1 dL_law_2532 (lv_at hl 4 rfl) ?_
  refine x_const hC dL_law_2534 ?_
  refine x_iadd hC dL_law_2535 ?_
  refine x_sld hC hw hX hbl hbA (by omega) (by omega) (by omega) dL_law_2536 ?_
  obtain ⟨z_1, hz_1⟩ : ∃ z : Int, z = (xs (i + 1).toNat).toInt := ⟨_, rfl⟩
  rw [← hz_1]
  have hrz_1 : -2147483648 ≤ z_1 ∧ z_1 ≤ 2147483647 := by rw [hz_1]; exact iN_rng _
  refine lv_aload_n hC.1 hC.2.1 dL_law_2537 rfl (lv_at hl 3 rfl) ?_
  refine x_callSW hC hw (lv_size hl) ((c_L_ledger l G hst hG hN hdA (p0 := z_1) (by omega)).frame hdB) gL_law_L_ledger rfl dv_L_ledger_s rfl (Nat.le_of_ble_eq_true rfl) (by rw [hRf]; decide) (by rw [hRl]; decide) (by first | (rw [hRc]; decide) | omega) (by first | (rw [hRs]; decide) | omega) dL_law_2538 (fun r9 M1 H locs hq hw => ?_)
  obtain ⟨Ck_2, ⟨zk_2, hrk_2, Ak_2, dk_2, svk_2, hCk_2, hdA, hw9⟩, hMk_2, hdB⟩ := hq
  subst hrk_2
  subst hCk_2
  subst hMk_2
  have hzrk_2 : 0 ≤ zk_2 ∧ zk_2 ≤ 3 := by rcases hw9 with ⟨h1, _⟩ | ⟨h1, h2, _⟩; (· omega); (· omega)
  show W p l e R s m args below meth c H locs _ _ _ (F0 m 2541 ls [.int (iN (zk_2))])
  refine lv_istore (lv' := [(5, .int (iN (zk_2))), (0, .ref b), (1, .ref h0), (2, .ref a), (3, .ref o), (4, .int (iN (i)))]) hC.1 hC.2.1 dL_law_2541 hl (by decide) rfl (fun ls hl => ?_)
  refine lv_aload_n hC.1 hC.2.1 dL_law_2543 rfl (lv_at hl 3 rfl) ?_
  refine lv_aload_n hC.1 hC.2.1 dL_law_2544 rfl (lv_at hl 1 rfl) ?_
  refine lv_iload hC.1 hC.2.1 dL_law_2545 (lv_at hl 5 rfl) ?_
  refine x_const hC dL_law_2547 ?_
  refine x_iadd hC dL_law_2548 ?_
  refine x_sld hC hw hX hbl hbA (by omega) (by omega) (by omega) dL_law_2549 ?_
  rw [← hz_1]
  rw [xU_comm hdB] at hw
  obtain ⟨va, oa, wa, ya, wk, br, re, la, ha, qv, qw, fa, fb, fy, wt, hR, hK⟩ := hm
  replace hR : MGx G B a va oa wa ya wk th0 rfd br re la ha kp kv qv qw fa fb V O fy Wv wt S := hR
  replace hK : abM O wt br re la ha K := hK
  refine x_callV hC hw (lv_size hl) ((c_X5_ledger l G hR hK (p0 := z_1) (by omega)).frame hdB.symm) gL_law_X5_ledger rfl dv_X5_ledger (xU_l hR.1.1) rfl rfl (Nat.le_of_ble_eq_true rfl) (by rw [hRf]; decide) (by rw [hRl]; decide) (by first | (rw [hRc]; decide) | omega) (by first | (rw [hRs]; decide) | omega) dL_law_2550 (fun r9 M1 H locs hq hw => ?_)
  obtain ⟨Bk_3, ⟨zk_3, thk_3, hrk_3, hzk_3, hv9⟩, hMk_3, hdB9⟩ := hq
  subst hrk_3
  subst hMk_3
  have hdB := hdB9.symm
  rw [xU_comm hdB9] at hw
  obtain ⟨s1, hG, hm, hkt, hthr, hans⟩ : ∃ s1 : ST, RG G Ak_2 h0 (N + 1) s1 ∧ MGm G Bk_3 a S thk_3 s1 ∧ zk_2 = thk_3 ∧ (0 ≤ thk_3 ∧ thk_3 ≤ 3) ∧ (zk_2 = 0 → dk_2 = (iN zk_3).toInt64) := by
    rcases hw9 with ⟨h1, h2, ⟨z8, h3, h4, h5⟩, h6⟩ | ⟨h1, h2, h6⟩
    · rcases hv9 with ⟨g1, g2, g4, g5⟩ | ⟨g1, g2, g5⟩
      · exact ⟨_, h6, g5, by omega, by omega, fun _ => (show dk_2 = (iN zk_3).toInt64 by rw [h3, h5, g4])⟩
      · exfalso; omega
    · rcases hv9 with ⟨g1, g2, g4, g5⟩ | ⟨g1, g2, g5⟩
      · exfalso; omega
      · exact ⟨_, h6, g5, by omega, by omega, fun q9 => absurd q9 h1⟩
  clear hw9 hv9
  show W p l e R s m args below meth c H locs _ _ _ (F0 m 2553 ls [.int (iN (zk_3))])
  refine lv_istore (lv' := [(6, .int (iN (zk_3))), (5, .int (iN (zk_2))), (0, .ref b), (1, .ref h0), (2, .ref a), (3, .ref o), (4, .int (iN (i)))]) hC.1 hC.2.1 dL_law_2553 hl (by decide) rfl (fun ls hl => ?_)
  refine lv_goto (tgt := 2584) hC.1 hC.2.1 dL_law_2555 (by decide) ?_
  refine W.widen (k := cu + 2) (n := su + (13)) (by omega) (by omega) ?_
  exact kk _ _ _ _ _ S hw ⟨_, _, _, _, _, rfl, hG, hm, hdA, hdB⟩ (lv_sub hl [2, 3, 4, 5, 6] rfl) (Nat.le_refl _)
set_option maxHeartbeats 8000000 in
set_option maxRecDepth 100000 in
theorem k_51 {p : Program} {l : Launch} {e : Env} {R : Room} {s : State} {m : MethodId} {args : Array Value} {below : List Frame} {meth : Method} {c : Code} {Q : State → Prop} {G : xG} {b L : Nat} {xs : Nat → Int32} {nm : String} (hst : l.stackTraces = false) (hRf : R.frames = 2048) {C9 S9 : Nat} (hRc : R.cells = C9) (hRs : R.slots = S9) (hC9 : 513000 ≤ C9) (hS9 : 6932000 ≤ S9) (hRl : R.locals = 84000) (hC : xB p s m args meth c cL_law 7 "RangeledgerLaw" nm wsL_law (some .boolean) G (xA (fun _ => none) s.heap.size)) (hX : va_X b L xs s s.heap) (hbl : b < s.heap.size) (hL : L ≤ 3072) {h0 a o : Nat} {N : Int} (hN : N ≤ 590) {s9 : ST} {S : Nat → Bool} {M : HM} {H : Heap} {locs : List Loc} {ls : Array Slot} {i : Int} {cu su : Nat} (hw : xD G (xA (fun _ => none) s.heap.size) s M H locs) (hS : LwS G M h0 a o N s9 S) (hl : lv_has ls 7 [(0, .ref b), (1, .ref h0), (2, .ref a), (3, .ref o), (4, .int (iN (i)))]) (hi : 0 ≤ i ∧ i + 6 ≤ L) (hcu : cu + 1000 ≤ C9) (hsu : su + 15590 ≤ S9) (kk : ∀ (M1 : HM) (H1 : Heap) (locs1 : List Loc) (ls1 : Array Slot) (s1 : ST) (S1 : Nat → Bool), xD G (xA (fun _ => none) s.heap.size) s M1 H1 locs1 → LwS G M1 h0 a o (N + 1) s1 S1 → lv_has ls1 7 [(0, .ref b), (1, .ref h0), (2, .ref a), (3, .ref o), (4, .int (iN (i)))] → mC S1 100 ≤ mC S 100 + 0 → W p l e R s m args below meth c H1 locs1 (cu + 325) (su + (1625)) Q (F0 m 2584 ls1 [])) : W p l e R s m args below meth c H locs cu su Q (F0 m 2558 ls []) := by
  obtain ⟨A, B, d, sv, th0, hM, hG, hm, hdA, hdB⟩ := hS
  subst hM
  obtain ⟨O, V, Wv, K, kp, kv, rfd⟩ := s9
  have hbA : ¬ (xA (fun _ => none) s.heap.size) b := fun h9 => h9.elim (fun h8 => h8 rfl) (fun h8 => by omega)
  refine lv_aload_n hC.1 hC.2.1 dL_law_2558 rfl (lv_at hl 1 rfl) ?_
  obtain ⟨bs, vs, og, qb, qk, qv9, fb9, fv, T, C, K0, hR, hK, hcb⟩ := id hG
  replace hK : K = abK T C K0 := hK
  subst hK
  replace hR : RGx G A h0 bs vs og kp kv rfd qb qk qv9 fb9 fv O O Wv V T C K0 := hR
  refine x_callV hC hw (lv_size hl) (((c_X3_isSound l G hR hcb hN).frame hdA).frame hdB) gL_law_X3_isSound rfl dv_X3_isSound (xU_l (xU_l hR.1)) rfl rfl (Nat.le_of_ble_eq_true rfl) (by rw [hRf]; decide) (by rw [hRl]; decide) (by first | (rw [hRc]; decide) | omega) (by first | (rw [hRs]; decide) | omega) dL_law_2559 (fun r9 M1 H locs hq hw => ?_)
  obtain ⟨Ck_1, ⟨Ak_1, ⟨zk_1, hrk_1, hEk_1, hzk_1⟩, hAk_1, hdA⟩, hMk_1, hdB⟩ := hq
  subst hrk_1
  subst hAk_1
  subst hMk_1
  replace hEk_1 := hEk_1.symm
  subst hEk_1
  replace hG := hG.le (N2 := N + 1) (by omega) (by omega)
  show W p l e R s m args below meth c H locs _ _ _ (F0 m 2562 ls [.int (iN (zk_1))])
  refine lv_pop hC.1 hC.2.1 dL_law_2562 rfl ?_
  refine lv_aload_n hC.1 hC.2.1 dL_law_2563 rfl (lv_at hl 2 rfl) ?_
  rw [xU_comm hdB] at hw
  obtain ⟨va, oa, wa, ya, wk, br, re, la, ha, qv, qw, fa, fb, fy, wt, hR, hK⟩ := hm
  replace hR : MGx G B a va oa wa ya wk th0 rfd br re la ha kp kv qv qw fa fb V O fy Wv wt S := hR
  replace hK : abM O wt br re la ha (abK T C K0) := hK
  refine x_callV hC hw (lv_size hl) ((c_X5_isSound l G hR hK).frame hdB.symm) gL_law_X5_isSound rfl dv_X5_isSound (xU_l hR.1.1) rfl rfl (Nat.le_of_ble_eq_true rfl) (by rw [hRf]; decide) (by rw [hRl]; decide) (by first | (rw [hRc]; decide) | omega) (by first | (rw [hRs]; decide) | omega) dL_law_2564 (fun r9 M1 H locs hq hw => ?_)
  obtain ⟨Bk_2, ⟨zk_2, hrk_2, hzk_2, hm⟩, hMk_2, hdB9⟩ := hq
  subst hrk_2
  subst hMk_2
  have hdB := hdB9.symm
  rw [xU_comm hdB9] at hw
  show W p l e R s m args below meth c H locs _ _ _ (F0 m 2567 ls [.int (iN (zk_2))])
  refine lv_pop hC.1 hC.2.1 dL_law_2567 rfl ?_
  refine lv_goto (tgt := 2584) hC.1 hC.2.1 dL_law_2568 (by decide) ?_
  refine W.widen (k := cu + 325) (n := su + (1625)) (by omega) (by omega) ?_
  exact kk _ _ _ _ _ S hw ⟨_, _, _, _, _, rfl, hG, hm, hdA, hdB⟩ (lv_sub hl [0, 1, 2, 3, 4] rfl) (Nat.le_refl _)
set_option maxHeartbeats 8000000 in
set_option maxRecDepth 100000 in
theorem k_52 {p : Program} {l : Launch} {e : Env} {R : Room} {s : State} {m : MethodId} {args : Array Value} {below : List Frame} {meth : Method} {c : Code} {Q : State → Prop} {G : xG} {b L : Nat} {xs : Nat → Int32} {nm : String} (hst : l.stackTraces = false) (hRf : R.frames = 2048) {C9 S9 : Nat} (hRc : R.cells = C9) (hRs : R.slots = S9) (hC9 : 513000 ≤ C9) (hS9 : 6932000 ≤ S9) (hRl : R.locals = 84000) (hC : xB p s m args meth c cL_law 7 "RangeledgerLaw" nm wsL_law (some .boolean) G (xA (fun _ => none) s.heap.size)) (hX : va_X b L xs s s.heap) (hbl : b < s.heap.size) (hL : L ≤ 3072) {h0 a o : Nat} {N : Int} (hN : N ≤ 590) {s9 : ST} {S : Nat → Bool} {M : HM} {H : Heap} {locs : List Loc} {ls : Array Slot} {i : Int} {cu su : Nat} (hw : xD G (xA (fun _ => none) s.heap.size) s M H locs) (hS : LwS G M h0 a o N s9 S) (hl : lv_has ls 7 [(0, .ref b), (1, .ref h0), (2, .ref a), (3, .ref o), (4, .int (iN (i)))]) (hi : 0 ≤ i ∧ i + 6 ≤ L) (hcu : cu + 1000 ≤ C9) (hsu : su + 15590 ≤ S9) {Kn Tm : Nat} (hKn : mC S 100 ≤ Kn) (hT : (Kn = 60 ∧ Tm = 1800) ∨ (Kn = 80 ∧ Tm = 3210) ∨ (Kn = 100 ∧ Tm = 3410)) (kk : ∀ (M1 : HM) (H1 : Heap) (locs1 : List Loc) (ls1 : Array Slot) (s1 : ST) (S1 : Nat → Bool), xD G (xA (fun _ => none) s.heap.size) s M1 H1 locs1 → LwS G M1 h0 a o (N + 1) s1 S1 → lv_has ls1 7 [(0, .ref b), (1, .ref h0), (2, .ref a), (3, .ref o), (4, .int (iN (i)))] → mC S1 100 ≤ mC S 100 + 0 → W p l e R s m args below meth c H1 locs1 (cu + 700) (su + (0 + (4 * Tm + 1949))) Q (F0 m 2584 ls1 [])) : W p l e R s m args below meth c H locs cu su Q (F0 m 2571 ls []) := by
  obtain ⟨A, B, d, sv, th0, hM, hG, hm, hdA, hdB⟩ := hS
  subst hM
  obtain ⟨O, V, Wv, K, kp, kv, rfd⟩ := s9
  have hbA : ¬ (xA (fun _ => none) s.heap.size) b := fun h9 => h9.elim (fun h8 => h8 rfl) (fun h8 => by omega)
  refine lv_aload_n hC.1 hC.2.1 dL_law_2571 rfl (lv_at hl 1 rfl) ?_
  obtain ⟨bs, vs, og, qb, qk, qv9, fb9, fv, T, C, K0, hR, hK, hcb⟩ := id hG
  replace hK : K = abK T C K0 := hK
  subst hK
  replace hR : RGx G A h0 bs vs og kp kv rfd qb qk qv9 fb9 fv O O Wv V T C K0 := hR
  refine x_callV hC hw (lv_size hl) (((c_X3_digest l G hR hcb hN).frame hdA).frame hdB) gL_law_X3_digest rfl dv_X3_digest (xU_l (xU_l hR.1)) rfl rfl (Nat.le_of_ble_eq_true rfl) (by rw [hRf]; decide) (by rw [hRl]; decide) (by first | (rw [hRc]; decide) | omega) (by first | (rw [hRs]; decide) | omega) dL_law_2572 (fun r9 M1 H locs hq hw => ?_)
  obtain ⟨Ck_1, ⟨Ak_1, ⟨dk_1, hrk_1, hEk_1⟩, hAk_1, hdA⟩, hMk_1, hdB⟩ := hq
  subst hrk_1
  subst hAk_1
  subst hMk_1
  replace hEk_1 := hEk_1.symm
  subst hEk_1
  replace hG := hG.le (N2 := N + 1) (by omega) (by omega)
  show W p l e R s m args below meth c H locs _ _ _ (F0 m 2575 ls [.long (dk_1)])
  refine lv_pop2_2 hC.1 hC.2.1 dL_law_2575 rfl ?_
  refine lv_aload_n hC.1 hC.2.1 dL_law_2576 rfl (lv_at hl 2 rfl) ?_
  rw [xU_comm hdB] at hw
  obtain ⟨va, oa, wa, ya, wk, br, re, la, ha, qv, qw, fa, fb, fy, wt, hR, hK⟩ := hm
  replace hR : MGx G B a va oa wa ya wk th0 rfd br re la ha kp kv qv qw fa fb V O fy Wv wt S := hR
  replace hK : abM O wt br re la ha (abK T C K0) := hK
  refine x_callV hC hw (lv_size hl) ((c_X5_digest l G hR hK (Kn := Kn) (Tm := Tm) hKn hT).frame hdB.symm) gL_law_X5_digest rfl dv_X5_digest (xU_l hR.1.1) rfl rfl (Nat.le_of_ble_eq_true rfl) (by rw [hRf]; decide) (by rw [hRl]; decide) (by first | (rw [hRc]; decide) | omega) (by first | (rw [hRs]; decide) | omega) dL_law_2577 (fun r9 M1 H locs hq hw => ?_)
  obtain ⟨Bk_2, ⟨dk_2, hrk_2, hm⟩, hMk_2, hdB9⟩ := hq
  subst hrk_2
  subst hMk_2
  have hdB := hdB9.symm
  rw [xU_comm hdB9] at hw
  show W p l e R s m args below meth c H locs _ _ _ (F0 m 2580 ls [.long (dk_2)])
  refine lv_pop2_2 hC.1 hC.2.1 dL_law_2580 rfl ?_
  refine lv_goto (tgt := 2584) hC.1 hC.2.1 dL_law_2581 (by decide) ?_
  refine W.widen (k := cu + 700) (n := su + (0 + (4 * Tm + 1949))) (by omega) (by omega) ?_
  exact kk _ _ _ _ _ S hw ⟨_, _, _, _, _, rfl, hG, hm, hdA, hdB⟩ (lv_sub hl [0, 1, 2, 3, 4] rfl) (Nat.le_refl _)
