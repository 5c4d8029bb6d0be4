noncomputable def xwd796 : Cond := Cond.classLink RL 19 "java/lang/IndexOutOfBoundsException"
noncomputable def xwd797 : Cond := Cond.classLink RL 21 "java/lang/IllegalArgumentException"
noncomputable def xwd798 : Cond := Cond.methodLink RL 7 yX3_put
noncomputable def xwd799 : Cond := Cond.instanceMethod yX3_put
noncomputable def xwd800 : Cond := Cond.selects RX3 yX3_put yX3_put
noncomputable def xwd801 : Cond := Cond.code yX3_put cX3_put 4 (some .int)
noncomputable def wsL_put_r1 : List Cond := [xwd796, xwd797, xwd798, xwd799, xwd800, xwd401, xwd801, xwd398, xwd399, xwd400, xwd402, xwd403, xwd404, xwd405, xwd406, xwd407, xwd408, xwd409, xwd410, xwd411, xwd412, xwd413, xwd414, xwd415]
noncomputable def wsL_put_r2 : List Cond := [xwd416, xwd417, xwd418, xwd419, xwd420, xwd3, xwd421, xwd391, xwd422, xwd62, xwd63, xwd64, xwd15, xwd28, xwd0, xwd1, xwd2, xwd4, xwd5, xwd6, xwd7, xwd8, xwd9, xwd10]
noncomputable def wsL_put_r3 : List Cond := [xwd11, xwd12, xwd13, xwd14, xwd20, xwd21, xwd22, xwd23, xwd44, xwd45, xwd46, xwd47, xwd48, xwd49, xwd50, xwd51, xwd52]
noncomputable def wsL_put : List Cond := .codeWith yL_put cL_put 6 (some .int) [(0, 13, 16, 19), (0, 13, 20, 21)] :: ((wsL_put_r1 ++ (wsL_put_r2 ++ wsL_put_r3)) ++ wsX40 ++ wsX30 ++ wsX00 ++ (vx_atS RX3 313 "java/lang/IndexOutOfBoundsException" ["java/lang/RuntimeException", "java/lang/Exception"]).filter goodWord ++ (vx_atS RX3 90 "java/lang/IllegalArgumentException" ["java/lang/RuntimeException", "java/lang/Exception"]).filter goodWord)
noncomputable def xwd802 : Cond := Cond.methodLink RL 23 yX3_putAbsent
noncomputable def xwd803 : Cond := Cond.instanceMethod yX3_putAbsent
noncomputable def xwd804 : Cond := Cond.selects RX3 yX3_putAbsent yX3_putAbsent
noncomputable def xwd805 : Cond := Cond.code yX3_putAbsent cX3_putAbsent 5 (some .int)
noncomputable def wsL_putAbsent_r1 : List Cond := [xwd796, xwd797, xwd802, xwd803, xwd804, xwd401, xwd805, xwd398, xwd399, xwd400, xwd402, xwd403, xwd404, xwd405, xwd406, xwd407, xwd408, xwd409, xwd410, xwd411, xwd412, xwd413, xwd414, xwd415]
noncomputable def wsL_putAbsent_r2 : List Cond := [xwd416, xwd417, xwd418, xwd419, xwd420, xwd3, xwd421, xwd391, xwd423, xwd66, xwd67, xwd68, xwd29, xwd30, xwd31, xwd32, xwd0, xwd1, xwd2, xwd4, xwd5, xwd6, xwd7, xwd8]
noncomputable def wsL_putAbsent_r3 : List Cond := [xwd9, xwd10, xwd11, xwd12, xwd13, xwd14, xwd15, xwd16, xwd17, xwd18, xwd19, xwd20, xwd21, xwd22, xwd23, xwd24, xwd25, xwd26, xwd27, xwd28, xwd424, xwd422, xwd62, xwd63]
noncomputable def wsL_putAbsent_r4 : List Cond := [xwd64, xwd44, xwd45, xwd46, xwd47, xwd48, xwd49, xwd50, xwd51, xwd52]
noncomputable def wsL_putAbsent : List Cond := .codeWith yL_putAbsent cL_putAbsent 6 (some .int) [(0, 13, 16, 19), (0, 13, 20, 21)] :: ((wsL_putAbsent_r1 ++ (wsL_putAbsent_r2 ++ (wsL_putAbsent_r3 ++ wsL_putAbsent_r4))) ++ wsX40 ++ wsX30 ++ wsX00 ++ (vx_atS RX3 313 "java/lang/IndexOutOfBoundsException" ["java/lang/RuntimeException", "java/lang/Exception"]).filter goodWord ++ (vx_atS RX3 90 "java/lang/IllegalArgumentException" ["java/lang/RuntimeException", "java/lang/Exception"]).filter goodWord)
noncomputable def xwd806 : Cond := Cond.methodLink RL 26 yX3_replace
noncomputable def xwd807 : Cond := Cond.instanceMethod yX3_replace
noncomputable def xwd808 : Cond := Cond.selects RX3 yX3_replace yX3_replace
noncomputable def xwd809 : Cond := Cond.code yX3_replace cX3_replace 5 (some .int)
noncomputable def wsL_replace_r1 : List Cond := [xwd796, xwd797, xwd806, xwd807, xwd808, xwd401, xwd809, xwd398, xwd399, xwd400, xwd402, xwd403, xwd404, xwd405, xwd406, xwd407, xwd408, xwd409, xwd410, xwd411, xwd412, xwd413, xwd414, xwd415]
noncomputable def wsL_replace_r2 : List Cond := [xwd416, xwd417, xwd418, xwd419, xwd420, xwd3, xwd421, xwd391, xwd423, xwd66, xwd67, xwd68, xwd29, xwd30, xwd31, xwd32, xwd0, xwd1, xwd2, xwd4, xwd5, xwd6, xwd7, xwd8]
noncomputable def wsL_replace_r3 : List Cond := [xwd9, xwd10, xwd11, xwd12, xwd13, xwd14, xwd15, xwd16, xwd17, xwd18, xwd19, xwd20, xwd21, xwd22, xwd23, xwd24, xwd25, xwd26, xwd27, xwd28, xwd422, xwd62, xwd63, xwd64]
noncomputable def wsL_replace_r4 : List Cond := [xwd44, xwd45, xwd46, xwd47, xwd48, xwd49, xwd50, xwd51, xwd52]
noncomputable def wsL_replace : List Cond := .codeWith yL_replace cL_replace 6 (some .int) [(0, 13, 16, 19), (0, 13, 20, 21)] :: ((wsL_replace_r1 ++ (wsL_replace_r2 ++ (wsL_replace_r3 ++ wsL_replace_r4))) ++ wsX40 ++ wsX30 ++ wsX00 ++ (vx_atS RX3 313 "java/lang/IndexOutOfBoundsException" ["java/lang/RuntimeException", "java/lang/Exception"]).filter goodWord ++ (vx_atS RX3 90 "java/lang/IllegalArgumentException" ["java/lang/RuntimeException", "java/lang/Exception"]).filter goodWord)
noncomputable def xwd810 : Cond := Cond.methodLink RL 29 yX3_swap
noncomputable def xwd811 : Cond := Cond.instanceMethod yX3_swap
noncomputable def xwd812 : Cond := Cond.selects RX3 yX3_swap yX3_swap
noncomputable def xwd813 : Cond := Cond.code yX3_swap cX3_swap 6 (some .boolean)
noncomputable def wsL_swap_r1 : List Cond := [xwd796, xwd797, xwd810, xwd811, xwd812, xwd401, xwd813, xwd403, xwd404, xwd405, xwd406, xwd407, xwd408, xwd409, xwd410, xwd411, xwd412, xwd413, xwd414, xwd415, xwd416, xwd417, xwd418, xwd419]
noncomputable def wsL_swap_r2 : List Cond := [xwd420, xwd3, xwd421, xwd391, xwd424, xwd30, xwd31, xwd32, xwd0, xwd1, xwd2, xwd4, xwd5, xwd6, xwd7, xwd8, xwd9, xwd10, xwd11, xwd12, xwd13, xwd14, xwd15, xwd16]
noncomputable def wsL_swap_r3 : List Cond := [xwd17, xwd18, xwd19, xwd20, xwd21, xwd22, xwd23, xwd24, xwd25, xwd26, xwd27, xwd28, xwd422, xwd62, xwd63, xwd64, xwd44, xwd45, xwd46, xwd47, xwd48, xwd49, xwd50, xwd51]
noncomputable def wsL_swap_r4 : List Cond := [xwd52]
noncomputable def wsL_swap : List Cond := .codeWith yL_swap cL_swap 7 (some .int) [(0, 22, 25, 19), (0, 22, 29, 21)] :: ((wsL_swap_r1 ++ (wsL_swap_r2 ++ (wsL_swap_r3 ++ wsL_swap_r4))) ++ wsX40 ++ wsX30 ++ wsX00 ++ (vx_atS RX3 313 "java/lang/IndexOutOfBoundsException" ["java/lang/RuntimeException", "java/lang/Exception"]).filter goodWord ++ (vx_atS RX3 90 "java/lang/IllegalArgumentException" ["java/lang/RuntimeException", "java/lang/Exception"]).filter goodWord)
noncomputable def xwd814 : Cond := Cond.methodLink RL 33 yX3_strike
noncomputable def xwd815 : Cond := Cond.instanceMethod yX3_strike
noncomputable def xwd816 : Cond := Cond.selects RX3 yX3_strike yX3_strike
noncomputable def xwd817 : Cond := Cond.code yX3_strike cX3_strike 3 (some .int)
noncomputable def wsL_strike_r1 : List Cond := [xwd796, xwd797, xwd814, xwd815, xwd816, xwd401, xwd817, xwd425, xwd426, xwd427, xwd428, xwd403, xwd404, xwd405, xwd406, xwd407, xwd408, xwd409, xwd410, xwd411, xwd412, xwd413, xwd414, xwd418]
noncomputable def wsL_strike_r2 : List Cond := [xwd419, xwd420, xwd3, xwd421, xwd391, xwd429, xwd58, xwd59, xwd60, xwd0, xwd1, xwd2, xwd4, xwd5, xwd6, xwd7, xwd8, xwd9, xwd10, xwd11, xwd12, xwd13, xwd14, xwd15]
noncomputable def wsL_strike_r3 : List Cond := [xwd16, xwd17, xwd18, xwd19, xwd20, xwd21, xwd22, xwd23, xwd24, xwd25, xwd26, xwd27, xwd28, xwd53, xwd54, xwd55, xwd56, xwd48, xwd49, xwd50, xwd51, xwd52]
noncomputable def wsL_strike : List Cond := .codeWith yL_strike cL_strike 5 (some .int) [(0, 11, 14, 19), (0, 11, 18, 21)] :: ((wsL_strike_r1 ++ (wsL_strike_r2 ++ wsL_strike_r3)) ++ wsX40 ++ wsX30 ++ wsX00 ++ (vx_atS RX3 313 "java/lang/IndexOutOfBoundsException" ["java/lang/RuntimeException", "java/lang/Exception"]).filter goodWord ++ (vx_atS RX3 90 "java/lang/IllegalArgumentException" ["java/lang/RuntimeException", "java/lang/Exception"]).filter goodWord)
noncomputable def xwd818 : Cond := Cond.methodLink RL 37 yX3_strikePair
noncomputable def xwd819 : Cond := Cond.instanceMethod yX3_strikePair
noncomputable def xwd820 : Cond := Cond.selects RX3 yX3_strikePair yX3_strikePair
noncomputable def xwd821 : Cond := Cond.code yX3_strikePair cX3_strikePair 5 (some .boolean)
noncomputable def wsL_strikePair_r1 : List Cond := [xwd796, xwd797, xwd818, xwd819, xwd820, xwd401, xwd821, xwd398, xwd399, xwd400, xwd402, xwd403, xwd404, xwd405, xwd406, xwd407, xwd408, xwd409, xwd410, xwd411, xwd412, xwd413, xwd414, xwd415]
noncomputable def wsL_strikePair_r2 : List Cond := [xwd416, xwd417, xwd418, xwd419, xwd420, xwd3, xwd421, xwd391, xwd424, xwd30, xwd31, xwd32, xwd0, xwd1, xwd2, xwd4, xwd5, xwd6, xwd7, xwd8, xwd9, xwd10, xwd11, xwd12]
noncomputable def wsL_strikePair_r3 : List Cond := [xwd13, xwd14, xwd15, xwd16, xwd17, xwd18, xwd19, xwd20, xwd21, xwd22, xwd23, xwd24, xwd25, xwd26, xwd27, xwd28, xwd429, xwd58, xwd59, xwd60, xwd53, xwd54, xwd55, xwd56]
noncomputable def wsL_strikePair_r4 : List Cond := [xwd48, xwd49, xwd50, xwd51, xwd52]
noncomputable def wsL_strikePair : List Cond := .codeWith yL_strikePair cL_strikePair 6 (some .int) [(0, 20, 23, 19), (0, 20, 27, 21)] :: ((wsL_strikePair_r1 ++ (wsL_strikePair_r2 ++ (wsL_strikePair_r3 ++ wsL_strikePair_r4))) ++ wsX40 ++ wsX30 ++ wsX00 ++ (vx_atS RX3 313 "java/lang/IndexOutOfBoundsException" ["java/lang/RuntimeException", "java/lang/Exception"]).filter goodWord ++ (vx_atS RX3 90 "java/lang/IllegalArgumentException" ["java/lang/RuntimeException", "java/lang/Exception"]).filter goodWord)
noncomputable def xwd822 : Cond := Cond.methodLink RL 41 yX3_merge
noncomputable def xwd823 : Cond := Cond.instanceMethod yX3_merge
noncomputable def xwd824 : Cond := Cond.selects RX3 yX3_merge yX3_merge
noncomputable def xwd825 : Cond := Cond.code yX3_merge cX3_merge 4 (some .int)
noncomputable def wsL_merge_r1 : List Cond := [xwd796, xwd797, xwd822, xwd823, xwd824, xwd401, xwd825, xwd398, xwd399, xwd400, xwd402, xwd403, xwd404, xwd405, xwd406, xwd407, xwd408, xwd409, xwd410, xwd411, xwd412, xwd413, xwd414, xwd415]
noncomputable def wsL_merge_r2 : List Cond := [xwd416, xwd417, xwd418, xwd419, xwd420, xwd3, xwd421, xwd391, xwd430, xwd431, xwd432, xwd433, xwd65, xwd66, xwd67, xwd68, xwd29, xwd30, xwd31, xwd32, xwd0, xwd1, xwd2, xwd4]
noncomputable def wsL_merge_r3 : List Cond := [xwd5, xwd6, xwd7, xwd8, xwd9, xwd10, xwd11, xwd12, xwd13, xwd14, xwd15, xwd16, xwd17, xwd18, xwd19, xwd20, xwd21, xwd22, xwd23, xwd24, xwd25, xwd26, xwd27, xwd28]
noncomputable def wsL_merge_r4 : List Cond := [xwd61, xwd62, xwd63, xwd64, xwd44, xwd45, xwd46, xwd47, xwd48, xwd49, xwd50, xwd51, xwd52, xwd69, xwd70, xwd71, xwd33, xwd34, xwd35, xwd36, xwd37, xwd38, xwd39, xwd72]
noncomputable def wsL_merge_r5 : List Cond := [xwd73, xwd74, xwd75, xwd57, xwd58, xwd59, xwd60, xwd53, xwd54, xwd55, xwd56]
noncomputable def wsL_merge : List Cond := .codeWith yL_merge cL_merge 6 (some .int) [(0, 13, 16, 19), (0, 13, 20, 21)] :: ((wsL_merge_r1 ++ (wsL_merge_r2 ++ (wsL_merge_r3 ++ (wsL_merge_r4 ++ wsL_merge_r5)))) ++ wsX40 ++ wsX30 ++ wsX00 ++ (vx_atS RX3 313 "java/lang/IndexOutOfBoundsException" ["java/lang/RuntimeException", "java/lang/Exception"]).filter goodWord ++ (vx_atS RX3 90 "java/lang/IllegalArgumentException" ["java/lang/RuntimeException", "java/lang/Exception"]).filter goodWord)
noncomputable def xwd826 : Cond := Cond.methodLink RL 44 yX3_grow
noncomputable def xwd827 : Cond := Cond.instanceMethod yX3_grow
noncomputable def xwd828 : Cond := Cond.selects RX3 yX3_grow yX3_grow
noncomputable def xwd829 : Cond := Cond.code yX3_grow cX3_grow 3 (some .int)
noncomputable def wsL_grow_r1 : List Cond := [xwd796, xwd797, xwd826, xwd827, xwd828, xwd401, xwd829, xwd425, xwd426, xwd427, xwd428, xwd403, xwd404, xwd405, xwd406, xwd407, xwd408, xwd409, xwd410, xwd411, xwd412, xwd413, xwd414, xwd418]
noncomputable def xwd830 : Cond := Cond.methodLink RX3 70 yX0_growKey
noncomputable def xwd831 : Cond := Cond.instanceMethod yX0_growKey
noncomputable def xwd832 : Cond := Cond.selects RX0 yX0_growKey yX0_growKey
noncomputable def xwd833 : Cond := Cond.code yX0_growKey cX0_growKey 2 (some .int)
noncomputable def wsL_grow_r2 : List Cond := [xwd419, xwd420, xwd3, xwd421, xwd391, xwd830, xwd831, xwd832, xwd833, xwd65, xwd66, xwd67, xwd68, xwd29, xwd30, xwd31, xwd32, xwd0, xwd1, xwd2, xwd4, xwd5, xwd6, xwd7]
noncomputable def wsL_grow_r3 : List Cond := [xwd8, xwd9, xwd10, xwd11, xwd12, xwd13, xwd14, xwd15, xwd16, xwd17, xwd18, xwd19, xwd20, xwd21, xwd22, xwd23, xwd24, xwd25, xwd26, xwd27, xwd28, xwd61, xwd62, xwd63]
noncomputable def wsL_grow_r4 : List Cond := [xwd64, xwd44, xwd45, xwd46, xwd47, xwd48, xwd49, xwd50, xwd51, xwd52]
noncomputable def wsL_grow : List Cond := .codeWith yL_grow cL_grow 5 (some .int) [(0, 11, 14, 19), (0, 11, 18, 21)] :: ((wsL_grow_r1 ++ (wsL_grow_r2 ++ (wsL_grow_r3 ++ wsL_grow_r4))) ++ wsX40 ++ wsX30 ++ wsX00 ++ (vx_atS RX3 313 "java/lang/IndexOutOfBoundsException" ["java/lang/RuntimeException", "java/lang/Exception"]).filter goodWord ++ (vx_atS RX3 90 "java/lang/IllegalArgumentException" ["java/lang/RuntimeException", "java/lang/Exception"]).filter goodWord)
noncomputable def xwd834 : Cond := Cond.methodLink RL 47 yX3_halve
noncomputable def xwd835 : Cond := Cond.instanceMethod yX3_halve
noncomputable def xwd836 : Cond := Cond.selects RX3 yX3_halve yX3_halve
noncomputable def xwd837 : Cond := Cond.code yX3_halve cX3_halve 3 (some .int)
noncomputable def wsL_halve_r1 : List Cond := [xwd796, xwd797, xwd834, xwd835, xwd836, xwd401, xwd837, xwd425, xwd426, xwd427, xwd428, xwd403, xwd404, xwd405, xwd406, xwd407, xwd408, xwd409, xwd410, xwd411, xwd412, xwd413, xwd414, xwd418]
noncomputable def xwd838 : Cond := Cond.methodLink RX3 73 yX0_halveKey
noncomputable def xwd839 : Cond := Cond.instanceMethod yX0_halveKey
noncomputable def xwd840 : Cond := Cond.selects RX0 yX0_halveKey yX0_halveKey
noncomputable def xwd841 : Cond := Cond.code yX0_halveKey cX0_halveKey 2 (some .int)
noncomputable def wsL_halve_r2 : List Cond := [xwd419, xwd420, xwd3, xwd421, xwd391, xwd838, xwd839, xwd840, xwd841, xwd65, xwd66, xwd67, xwd68, xwd29, xwd30, xwd31, xwd32, xwd0, xwd1, xwd2, xwd4, xwd5, xwd6, xwd7]
noncomputable def wsL_halve_r3 : List Cond := [xwd8, xwd9, xwd10, xwd11, xwd12, xwd13, xwd14, xwd15, xwd16, xwd17, xwd18, xwd19, xwd20, xwd21, xwd22, xwd23, xwd24, xwd25, xwd26, xwd27, xwd28, xwd72, xwd73, xwd74]
noncomputable def wsL_halve_r4 : List Cond := [xwd75, xwd57, xwd58, xwd59, xwd60, xwd53, xwd54, xwd55, xwd56, xwd48, xwd49, xwd50, xwd51, xwd52, xwd61, xwd62, xwd63, xwd64, xwd44, xwd45, xwd46, xwd47]
noncomputable def wsL_halve : List Cond := .codeWith yL_halve cL_halve 5 (some .int) [(0, 11, 14, 19), (0, 11, 18, 21)] :: ((wsL_halve_r1 ++ (wsL_halve_r2 ++ (wsL_halve_r3 ++ wsL_halve_r4))) ++ wsX40 ++ wsX30 ++ wsX00 ++ (vx_atS RX3 313 "java/lang/IndexOutOfBoundsException" ["java/lang/RuntimeException", "java/lang/Exception"]).filter goodWord ++ (vx_atS RX3 90 "java/lang/IllegalArgumentException" ["java/lang/RuntimeException", "java/lang/Exception"]).filter goodWord)
noncomputable def xwd842 : Cond := Cond.methodLink RL 50 yX3_twice
noncomputable def xwd843 : Cond := Cond.instanceMethod yX3_twice
noncomputable def xwd844 : Cond := Cond.selects RX3 yX3_twice yX3_twice
noncomputable def xwd845 : Cond := Cond.code yX3_twice cX3_twice 3 (some .int)
noncomputable def wsL_twice_r1 : List Cond := [xwd796, xwd797, xwd842, xwd843, xwd844, xwd401, xwd845, xwd425, xwd426, xwd427, xwd428, xwd403, xwd404, xwd405, xwd406, xwd407, xwd408, xwd409, xwd410, xwd411, xwd412, xwd413, xwd414, xwd418]
noncomputable def xwd846 : Cond := Cond.methodLink RX3 76 yX0_doubleKey
noncomputable def xwd847 : Cond := Cond.instanceMethod yX0_doubleKey
noncomputable def xwd848 : Cond := Cond.selects RX0 yX0_doubleKey yX0_doubleKey
noncomputable def xwd849 : Cond := Cond.code yX0_doubleKey cX0_doubleKey 3 (some .int)
noncomputable def wsL_twice_r2 : List Cond := [xwd419, xwd420, xwd3, xwd421, xwd391, xwd846, xwd847, xwd848, xwd849, xwd29, xwd30, xwd31, xwd32, xwd0, xwd1, xwd2, xwd4, xwd5, xwd6, xwd7, xwd8, xwd9, xwd10, xwd11]
noncomputable def wsL_twice_r3 : List Cond := [xwd12, xwd13, xwd14, xwd15, xwd16, xwd17, xwd18, xwd19, xwd20, xwd21, xwd22, xwd23, xwd24, xwd25, xwd26, xwd27, xwd28, xwd61, xwd62, xwd63, xwd64, xwd44, xwd45, xwd46]
noncomputable def wsL_twice_r4 : List Cond := [xwd47, xwd48, xwd49, xwd50, xwd51, xwd52, xwd57, xwd58, xwd59, xwd60, xwd53, xwd54, xwd55, xwd56]
noncomputable def wsL_twice : List Cond := .codeWith yL_twice cL_twice 5 (some .int) [(0, 11, 14, 19), (0, 11, 18, 21)] :: ((wsL_twice_r1 ++ (wsL_twice_r2 ++ (wsL_twice_r3 ++ wsL_twice_r4))) ++ wsX40 ++ wsX30 ++ wsX00 ++ (vx_atS RX3 313 "java/lang/IndexOutOfBoundsException" ["java/lang/RuntimeException", "java/lang/Exception"]).filter goodWord ++ (vx_atS RX3 90 "java/lang/IllegalArgumentException" ["java/lang/RuntimeException", "java/lang/Exception"]).filter goodWord)
noncomputable def xwd850 : Cond := Cond.methodLink RL 53 yX3_poll
noncomputable def xwd851 : Cond := Cond.instanceMethod yX3_poll
noncomputable def xwd852 : Cond := Cond.selects RX3 yX3_poll yX3_poll
noncomputable def xwd853 : Cond := Cond.code yX3_poll cX3_poll 4 (some .int)
noncomputable def wsL_poll_r1 : List Cond := [xwd796, xwd850, xwd851, xwd852, xwd401, xwd853, xwd403, xwd404, xwd405, xwd406, xwd407, xwd408, xwd409, xwd418, xwd419, xwd420, xwd3, xwd421, xwd391, xwd434, xwd81, xwd82, xwd83, xwd14]
noncomputable def wsL_poll_r2 : List Cond := [xwd435, xwd77, xwd78, xwd79, xwd16, xwd17, xwd18, xwd19, xwd15, xwd20, xwd21, xwd22, xwd23, xwd53, xwd54, xwd55, xwd56, xwd48, xwd49, xwd50, xwd51, xwd28, xwd52]
noncomputable def wsL_poll : List Cond := .codeWith yL_poll cL_poll 5 (some .int) [(0, 11, 14, 19)] :: ((wsL_poll_r1 ++ wsL_poll_r2) ++ wsX40 ++ wsX30 ++ wsX00 ++ (vx_atS RX3 313 "java/lang/IndexOutOfBoundsException" ["java/lang/RuntimeException", "java/lang/Exception"]).filter goodWord)
noncomputable def xwd854 : Cond := Cond.methodLink RL 57 yX3_raise
noncomputable def xwd855 : Cond := Cond.instanceMethod yX3_raise
noncomputable def xwd856 : Cond := Cond.selects RX3 yX3_raise yX3_raise
noncomputable def xwd857 : Cond := Cond.code yX3_raise cX3_raise 4 (some .int)
noncomputable def xwd858 : Cond := Cond.methodLink RX3 93 yX0_raiseAll
noncomputable def xwd859 : Cond := Cond.instanceMethod yX0_raiseAll
noncomputable def wsL_raise_r1 : List Cond := [xwd796, xwd797, xwd854, xwd855, xwd856, xwd401, xwd857, xwd413, xwd414, xwd403, xwd404, xwd405, xwd406, xwd407, xwd408, xwd409, xwd418, xwd419, xwd420, xwd3, xwd421, xwd391, xwd858, xwd859]
noncomputable def xwd860 : Cond := Cond.selects RX0 yX0_raiseAll yX0_raiseAll
noncomputable def xwd861 : Cond := Cond.code yX0_raiseAll cX0_raiseAll 5 (some .int)
noncomputable def wsL_raise_r2 : List Cond := [xwd860, xwd861, xwd14, xwd28, xwd69, xwd70, xwd71, xwd33, xwd34, xwd35, xwd36, xwd37, xwd38, xwd39]
noncomputable def wsL_raise : List Cond := .codeWith yL_raise cL_raise 5 (some .int) [(0, 11, 14, 19), (0, 11, 18, 21)] :: ((wsL_raise_r1 ++ wsL_raise_r2) ++ wsX40 ++ wsX30 ++ wsX00 ++ (vx_atS RX3 90 "java/lang/IllegalArgumentException" ["java/lang/RuntimeException", "java/lang/Exception"]).filter goodWord ++ (vx_atS RX3 313 "java/lang/IndexOutOfBoundsException" ["java/lang/RuntimeException", "java/lang/Exception"]).filter goodWord)
noncomputable def xwd862 : Cond := Cond.methodLink RL 60 yX3_sift
noncomputable def xwd863 : Cond := Cond.instanceMethod yX3_sift
noncomputable def xwd864 : Cond := Cond.selects RX3 yX3_sift yX3_sift
noncomputable def xwd865 : Cond := Cond.code yX3_sift cX3_sift 4 (some .int)
noncomputable def xwd866 : Cond := Cond.methodLink RX3 98 yX0_removeMultiples
noncomputable def xwd867 : Cond := Cond.instanceMethod yX0_removeMultiples
noncomputable def wsL_sift_r1 : List Cond := [xwd796, xwd797, xwd862, xwd863, xwd864, xwd401, xwd865, xwd413, xwd414, xwd403, xwd404, xwd405, xwd406, xwd407, xwd408, xwd409, xwd418, xwd419, xwd420, xwd3, xwd421, xwd391, xwd866, xwd867]
noncomputable def xwd868 : Cond := Cond.selects RX0 yX0_removeMultiples yX0_removeMultiples
noncomputable def xwd869 : Cond := Cond.code yX0_removeMultiples cX0_removeMultiples 4 (some .int)
noncomputable def wsL_sift_r2 : List Cond := [xwd868, xwd869, xwd14, xwd24, xwd25, xwd26, xwd27, xwd28, xwd20, xwd21, xwd22, xwd23, xwd76, xwd77, xwd78, xwd79, xwd16, xwd17, xwd18, xwd19, xwd15, xwd53, xwd54, xwd55]
noncomputable def wsL_sift_r3 : List Cond := [xwd56, xwd48, xwd49, xwd50, xwd51, xwd52]
noncomputable def wsL_sift : List Cond := .codeWith yL_sift cL_sift 5 (some .int) [(0, 11, 14, 19), (0, 11, 18, 21)] :: ((wsL_sift_r1 ++ (wsL_sift_r2 ++ wsL_sift_r3)) ++ wsX40 ++ wsX30 ++ wsX00 ++ (vx_atS RX3 90 "java/lang/IllegalArgumentException" ["java/lang/RuntimeException", "java/lang/Exception"]).filter goodWord ++ (vx_atS RX3 313 "java/lang/IndexOutOfBoundsException" ["java/lang/RuntimeException", "java/lang/Exception"]).filter goodWord)
noncomputable def xwd870 : Cond := Cond.classLink RL 67 "java/lang/IllegalStateException"
noncomputable def xwd871 : Cond := Cond.methodLink RL 63 yX3_strikeValue
noncomputable def xwd872 : Cond := Cond.instanceMethod yX3_strikeValue
noncomputable def xwd873 : Cond := Cond.selects RX3 yX3_strikeValue yX3_strikeValue
noncomputable def xwd874 : Cond := Cond.code yX3_strikeValue cX3_strikeValue 5 (some .boolean)
noncomputable def xwd875 : Cond := Cond.methodLink RX3 101 yX0_countOfValue
noncomputable def xwd876 : Cond := Cond.instanceMethod yX0_countOfValue
noncomputable def wsL_strikeValue_r1 : List Cond := [xwd796, xwd797, xwd870, xwd871, xwd872, xwd873, xwd401, xwd874, xwd436, xwd437, xwd403, xwd404, xwd405, xwd406, xwd407, xwd408, xwd409, xwd415, xwd416, xwd417, xwd413, xwd414, xwd875, xwd876]
noncomputable def xwd877 : Cond := Cond.selects RX0 yX0_countOfValue yX0_countOfValue
noncomputable def xwd878 : Cond := Cond.code yX0_countOfValue cX0_countOfValue 4 (some .int)
noncomputable def xwd879 : Cond := Cond.methodLink RX3 109 yX0_firstPlaceOfValue
noncomputable def wsL_strikeValue_r2 : List Cond := [xwd877, xwd3, xwd878, xwd14, xwd28, xwd418, xwd419, xwd420, xwd421, xwd391, xwd879, xwd438, xwd439, xwd440, xwd435, xwd77, xwd78, xwd79, xwd16, xwd17, xwd18, xwd19, xwd15, xwd20]
noncomputable def wsL_strikeValue_r3 : List Cond := [xwd21, xwd22, xwd23, xwd53, xwd54, xwd55, xwd56, xwd48, xwd49, xwd50, xwd51, xwd52]
noncomputable def wsL_strikeValue : List Cond := .codeWith yL_strikeValue cL_strikeValue 5 (some .int) [(0, 18, 21, 19), (0, 18, 25, 21), (0, 18, 29, 67)] :: ((wsL_strikeValue_r1 ++ (wsL_strikeValue_r2 ++ wsL_strikeValue_r3)) ++ wsX40 ++ wsX30 ++ wsX00 ++ (vx_atS RX3 108 "java/lang/IllegalStateException" ["java/lang/RuntimeException", "java/lang/Exception"]).filter goodWord ++ (vx_atS RX3 313 "java/lang/IndexOutOfBoundsException" ["java/lang/RuntimeException", "java/lang/Exception"]).filter goodWord ++ (vx_atS RX3 90 "java/lang/IllegalArgumentException" ["java/lang/RuntimeException", "java/lang/Exception"]).filter goodWord)
noncomputable def xwd880 : Cond := Cond.methodLink RL 69 yX3_clear
noncomputable def xwd881 : Cond := Cond.instanceMethod yX3_clear
noncomputable def xwd882 : Cond := Cond.selects RX3 yX3_clear yX3_clear
noncomputable def xwd883 : Cond := Cond.code yX3_clear cX3_clear 3 (some .int)
noncomputable def wsL_clear_r1 : List Cond := [xwd796, xwd880, xwd881, xwd882, xwd401, xwd883, xwd403, xwd404, xwd405, xwd406, xwd407, xwd408, xwd409, xwd418, xwd419, xwd420, xwd3, xwd421, xwd391, xwd434, xwd81, xwd82, xwd83, xwd14]
noncomputable def wsL_clear_r2 : List Cond := [xwd441, xwd54, xwd55, xwd56, xwd15, xwd48, xwd49, xwd50, xwd51, xwd28, xwd52]
noncomputable def wsL_clear : List Cond := .codeWith yL_clear cL_clear 4 (some .int) [(0, 10, 13, 19)] :: ((wsL_clear_r1 ++ wsL_clear_r2) ++ wsX40 ++ wsX30 ++ wsX00 ++ (vx_atS RX3 313 "java/lang/IndexOutOfBoundsException" ["java/lang/RuntimeException", "java/lang/Exception"]).filter goodWord)
noncomputable def xwd884 : Cond := Cond.methodLink RL 73 yX3_pour
noncomputable def xwd885 : Cond := Cond.instanceMethod yX3_pour
noncomputable def xwd886 : Cond := Cond.selects RX3 yX3_pour yX3_pour
noncomputable def xwd887 : Cond := Cond.code yX3_pour cX3_pour 5 (some .int)
noncomputable def wsL_pour_r1 : List Cond := [xwd796, xwd797, xwd884, xwd885, xwd886, xwd401, xwd887, xwd403, xwd404, xwd405, xwd406, xwd407, xwd408, xwd409, xwd442, xwd443, xwd444, xwd413, xwd414, xwd418, xwd419, xwd420, xwd3, xwd421]
noncomputable def xwd888 : Cond := Cond.methodLink RX3 119 yX0_enterAll
noncomputable def wsL_pour_r2 : List Cond := [xwd391, xwd888, xwd89, xwd90, xwd91, xwd80, xwd81, xwd82, xwd83, xwd14, xwd16, xwd17, xwd18, xwd19, xwd15, xwd20, xwd21, xwd22, xwd23, xwd24, xwd25, xwd26, xwd27, xwd28]
noncomputable def wsL_pour_r3 : List Cond := [xwd61, xwd62, xwd63, xwd64, xwd0, xwd1, xwd2, xwd4, xwd5, xwd6, xwd7, xwd8, xwd9, xwd10, xwd11, xwd12, xwd13, xwd44, xwd45, xwd46, xwd47, xwd48, xwd49, xwd50]
noncomputable def wsL_pour_r4 : List Cond := [xwd51, xwd52, xwd434]
noncomputable def wsL_pour : List Cond := .codeWith yL_pour cL_pour 5 (some .int) [(0, 11, 14, 19), (0, 11, 18, 21)] :: ((wsL_pour_r1 ++ (wsL_pour_r2 ++ (wsL_pour_r3 ++ wsL_pour_r4))) ++ wsX40 ++ wsX30 ++ wsX00 ++ (vx_atS RX3 313 "java/lang/IndexOutOfBoundsException" ["java/lang/RuntimeException", "java/lang/Exception"]).filter goodWord ++ (vx_atS RX3 90 "java/lang/IllegalArgumentException" ["java/lang/RuntimeException", "java/lang/Exception"]).filter goodWord)
noncomputable def xwd889 : Cond := Cond.methodLink RL 76 yX3_copy
noncomputable def xwd890 : Cond := Cond.instanceMethod yX3_copy
noncomputable def xwd891 : Cond := Cond.selects RX3 yX3_copy yX3_copy
noncomputable def xwd892 : Cond := Cond.code yX3_copy cX3_copy 5 (some .int)
noncomputable def xwd893 : Cond := Cond.methodLink RX3 123 yX0_becomeLike
noncomputable def xwd894 : Cond := Cond.instanceMethod yX0_becomeLike
noncomputable def xwd895 : Cond := Cond.selects RX0 yX0_becomeLike yX0_becomeLike
noncomputable def wsL_copy_r1 : List Cond := [xwd796, xwd797, xwd889, xwd890, xwd891, xwd401, xwd892, xwd445, xwd403, xwd404, xwd405, xwd406, xwd407, xwd408, xwd409, xwd442, xwd443, xwd444, xwd413, xwd414, xwd893, xwd894, xwd895, xwd3]
noncomputable def xwd896 : Cond := Cond.code yX0_becomeLike cX0_becomeLike 2 none
noncomputable def wsL_copy_r2 : List Cond := [xwd896, xwd14, xwd9, xwd53, xwd54, xwd55, xwd56, xwd15, xwd48, xwd49, xwd50, xwd51, xwd28, xwd52, xwd84, xwd85, xwd86, xwd87, xwd88, xwd89, xwd90, xwd91, xwd80, xwd81]
noncomputable def wsL_copy_r3 : List Cond := [xwd82, xwd83, xwd16, xwd17, xwd18, xwd19, xwd20, xwd21, xwd22, xwd23, xwd24, xwd25, xwd26, xwd27, xwd61, xwd62, xwd63, xwd64, xwd0, xwd1, xwd2, xwd4, xwd5, xwd6]
noncomputable def xwd897 : Cond := Cond.methodLink RX3 136 yX3_shutViewsOnto
noncomputable def xwd898 : Cond := Cond.instanceMethod yX3_shutViewsOnto
noncomputable def wsL_copy_r4 : List Cond := [xwd7, xwd8, xwd10, xwd11, xwd12, xwd13, xwd44, xwd45, xwd46, xwd47, xwd446, xwd376, xwd377, xwd378, xwd379, xwd371, xwd380, xwd381, xwd382, xwd354, xwd383, xwd350, xwd897, xwd898]
noncomputable def xwd899 : Cond := Cond.selects RX3 yX3_shutViewsOnto yX3_shutViewsOnto
noncomputable def xwd900 : Cond := Cond.code yX3_shutViewsOnto cX3_shutViewsOnto 4 (some .int)
noncomputable def wsL_copy_r5 : List Cond := [xwd899, xwd900, xwd447, xwd448, xwd449, xwd450, xwd451, xwd452]
noncomputable def wsL_copy : List Cond := .codeWith yL_copy cL_copy 5 (some .int) [(0, 11, 14, 19), (0, 11, 18, 21)] :: ((wsL_copy_r1 ++ (wsL_copy_r2 ++ (wsL_copy_r3 ++ (wsL_copy_r4 ++ wsL_copy_r5)))) ++ wsX40 ++ wsX30 ++ wsX00 ++ wsX20 ++ wsX10 ++ (vx_atS RX3 313 "java/lang/IndexOutOfBoundsException" ["java/lang/RuntimeException", "java/lang/Exception"]).filter goodWord ++ (vx_atS RX3 90 "java/lang/IllegalArgumentException" ["java/lang/RuntimeException", "java/lang/Exception"]).filter goodWord)
noncomputable def xwd901 : Cond := Cond.methodLink RL 79 yX3_thin
noncomputable def xwd902 : Cond := Cond.instanceMethod yX3_thin
noncomputable def xwd903 : Cond := Cond.selects RX3 yX3_thin yX3_thin
noncomputable def xwd904 : Cond := Cond.code yX3_thin cX3_thin 6 (some .int)
noncomputable def wsL_thin_r1 : List Cond := [xwd796, xwd797, xwd901, xwd902, xwd903, xwd401, xwd904, xwd403, xwd404, xwd405, xwd406, xwd407, xwd408, xwd409, xwd442, xwd443, xwd444, xwd413, xwd414, xwd418, xwd419, xwd420, xwd3, xwd421]
noncomputable def xwd905 : Cond := Cond.methodLink RX3 140 yX0_removeByOther
noncomputable def xwd906 : Cond := Cond.instanceMethod yX0_removeByOther
noncomputable def xwd907 : Cond := Cond.selects RX0 yX0_removeByOther yX0_removeByOther
noncomputable def xwd908 : Cond := Cond.code yX0_removeByOther cX0_removeByOther 5 (some .int)
noncomputable def wsL_thin_r2 : List Cond := [xwd391, xwd905, xwd906, xwd907, xwd908, xwd14, xwd16, xwd17, xwd18, xwd19, xwd15, xwd20, xwd21, xwd22, xwd23, xwd65, xwd66, xwd67, xwd68, xwd29, xwd30, xwd31, xwd32, xwd0]
noncomputable def wsL_thin_r3 : List Cond := [xwd1, xwd2, xwd4, xwd5, xwd6, xwd7, xwd8, xwd9, xwd10, xwd11, xwd12, xwd13, xwd24, xwd25, xwd26, xwd27, xwd28, xwd76, xwd77, xwd78, xwd79, xwd53, xwd54, xwd55]
noncomputable def wsL_thin_r4 : List Cond := [xwd56, xwd48, xwd49, xwd50, xwd51, xwd52]
noncomputable def wsL_thin : List Cond := .codeWith yL_thin cL_thin 6 (some .int) [(0, 13, 16, 19), (0, 13, 20, 21)] :: ((wsL_thin_r1 ++ (wsL_thin_r2 ++ (wsL_thin_r3 ++ wsL_thin_r4))) ++ wsX40 ++ wsX30 ++ wsX00 ++ (vx_atS RX3 313 "java/lang/IndexOutOfBoundsException" ["java/lang/RuntimeException", "java/lang/Exception"]).filter goodWord ++ (vx_atS RX3 90 "java/lang/IllegalArgumentException" ["java/lang/RuntimeException", "java/lang/Exception"]).filter goodWord)
noncomputable def xwd909 : Cond := Cond.methodLink RL 83 yX3_head
noncomputable def xwd910 : Cond := Cond.instanceMethod yX3_head
noncomputable def xwd911 : Cond := Cond.selects RX3 yX3_head yX3_head
noncomputable def xwd912 : Cond := Cond.code yX3_head cX3_head 5 (some .int)
noncomputable def wsL_head_r1 : List Cond := [xwd796, xwd797, xwd870, xwd909, xwd910, xwd911, xwd401, xwd912, xwd453, xwd454, xwd354, xwd403, xwd404, xwd405, xwd406, xwd407, xwd408, xwd409, xwd410, xwd411, xwd412, xwd413, xwd414, xwd455]
noncomputable def wsL_head_r2 : List Cond := [xwd456, xwd457, xwd458, xwd293, xwd294, xwd350, xwd459, xwd460, xwd461, xwd462, xwd356, xwd463, xwd38, xwd35, xwd39, xwd362, xwd369, xwd6, xwd7, xwd3, xwd8, xwd9, xwd464, xwd465]
noncomputable def wsL_head_r3 : List Cond := [xwd466, xwd467, xwd436, xwd437, xwd447]
noncomputable def wsL_head : List Cond := .codeWith yL_head cL_head 6 (some .int) [(0, 13, 16, 19), (0, 13, 20, 21), (0, 13, 24, 67)] :: ((wsL_head_r1 ++ (wsL_head_r2 ++ wsL_head_r3)) ++ wsX40 ++ wsX10 ++ wsX30 ++ wsX00 ++ (vx_atS RX3 313 "java/lang/IndexOutOfBoundsException" ["java/lang/RuntimeException", "java/lang/Exception"]).filter goodWord ++ (vx_atS RX3 90 "java/lang/IllegalArgumentException" ["java/lang/RuntimeException", "java/lang/Exception"]).filter goodWord ++ (vx_atS RX3 108 "java/lang/IllegalStateException" ["java/lang/RuntimeException", "java/lang/Exception"]).filter goodWord)
noncomputable def xwd913 : Cond := Cond.methodLink RL 86 yX3_tail
noncomputable def xwd914 : Cond := Cond.instanceMethod yX3_tail
noncomputable def xwd915 : Cond := Cond.selects RX3 yX3_tail yX3_tail
noncomputable def xwd916 : Cond := Cond.code yX3_tail cX3_tail 5 (some .int)
noncomputable def wsL_tail_r1 : List Cond := [xwd796, xwd797, xwd870, xwd913, xwd914, xwd915, xwd401, xwd916, xwd453, xwd454, xwd354, xwd403, xwd404, xwd405, xwd406, xwd407, xwd408, xwd409, xwd410, xwd411, xwd412, xwd413, xwd414, xwd455]
noncomputable def wsL_tail_r2 : List Cond := [xwd456, xwd457, xwd458, xwd293, xwd294, xwd350, xwd459, xwd460, xwd461, xwd462, xwd356, xwd463, xwd38, xwd35, xwd39, xwd362, xwd369, xwd6, xwd7, xwd3, xwd8, xwd9, xwd464, xwd465]
noncomputable def wsL_tail_r3 : List Cond := [xwd466, xwd467, xwd436, xwd437, xwd447]
noncomputable def wsL_tail : List Cond := .codeWith yL_tail cL_tail 6 (some .int) [(0, 13, 16, 19), (0, 13, 20, 21), (0, 13, 24, 67)] :: ((wsL_tail_r1 ++ (wsL_tail_r2 ++ wsL_tail_r3)) ++ wsX40 ++ wsX10 ++ wsX30 ++ wsX00 ++ (vx_atS RX3 313 "java/lang/IndexOutOfBoundsException" ["java/lang/RuntimeException", "java/lang/Exception"]).filter goodWord ++ (vx_atS RX3 90 "java/lang/IllegalArgumentException" ["java/lang/RuntimeException", "java/lang/Exception"]).filter goodWord ++ (vx_atS RX3 108 "java/lang/IllegalStateException" ["java/lang/RuntimeException", "java/lang/Exception"]).filter goodWord)
noncomputable def xwd917 : Cond := Cond.methodLink RL 89 yX3_sub
noncomputable def xwd918 : Cond := Cond.instanceMethod yX3_sub
noncomputable def xwd919 : Cond := Cond.selects RX3 yX3_sub yX3_sub
noncomputable def xwd920 : Cond := Cond.code yX3_sub cX3_sub 7 (some .int)
noncomputable def wsL_sub_r1 : List Cond := [xwd796, xwd797, xwd870, xwd917, xwd918, xwd919, xwd401, xwd920, xwd453, xwd454, xwd354, xwd403, xwd404, xwd405, xwd406, xwd407, xwd408, xwd409, xwd410, xwd411, xwd412, xwd413, xwd414, xwd468]
noncomputable def wsL_sub_r2 : List Cond := [xwd469, xwd470, xwd471, xwd436, xwd437, xwd447, xwd472, xwd473, xwd474, xwd475, xwd476, xwd93, xwd94, xwd3, xwd95, xwd5, xwd6, xwd7, xwd8, xwd9, xwd455, xwd456, xwd457, xwd458]
noncomputable def wsL_sub_r3 : List Cond := [xwd293, xwd294, xwd350, xwd459, xwd460, xwd461, xwd462, xwd356, xwd463, xwd38, xwd35, xwd39, xwd362, xwd369, xwd464, xwd465, xwd466, xwd467]
noncomputable def wsL_sub : List Cond := .codeWith yL_sub cL_sub 8 (some .int) [(0, 17, 20, 19), (0, 17, 24, 21), (0, 17, 28, 67)] :: ((wsL_sub_r1 ++ (wsL_sub_r2 ++ wsL_sub_r3)) ++ wsX40 ++ wsX10 ++ wsX30 ++ wsX00 ++ (vx_atS RX3 313 "java/lang/IndexOutOfBoundsException" ["java/lang/RuntimeException", "java/lang/Exception"]).filter goodWord ++ (vx_atS RX3 90 "java/lang/IllegalArgumentException" ["java/lang/RuntimeException", "java/lang/Exception"]).filter goodWord ++ (vx_atS RX3 108 "java/lang/IllegalStateException" ["java/lang/RuntimeException", "java/lang/Exception"]).filter goodWord)
noncomputable def xwd921 : Cond := Cond.methodLink RL 93 yX3_part
noncomputable def xwd922 : Cond := Cond.instanceMethod yX3_part
noncomputable def xwd923 : Cond := Cond.selects RX3 yX3_part yX3_part
noncomputable def xwd924 : Cond := Cond.code yX3_part cX3_part 7 (some .int)
noncomputable def wsL_part_r1 : List Cond := [xwd796, xwd797, xwd870, xwd921, xwd922, xwd923, xwd401, xwd924, xwd453, xwd454, xwd354, xwd477, xwd478, xwd479, xwd480, xwd407, xwd408, xwd447, xwd410, xwd411, xwd412, xwd413, xwd414, xwd468]
noncomputable def wsL_part_r2 : List Cond := [xwd469, xwd470, xwd471, xwd436, xwd437, xwd472, xwd473, xwd474, xwd475, xwd481, xwd366, xwd367, xwd368, xwd350, xwd356, xwd362, xwd369, xwd6, xwd7, xwd3, xwd8, xwd9, xwd452, xwd381]
noncomputable def wsL_part_r3 : List Cond := [xwd382, xwd383, xwd476, xwd93, xwd94, xwd95, xwd5, xwd455, xwd456, xwd457, xwd458, xwd293, xwd294, xwd459, xwd460, xwd461, xwd462, xwd463, xwd38, xwd35, xwd39, xwd464, xwd465, xwd466]
noncomputable def wsL_part_r4 : List Cond := [xwd467]
noncomputable def wsL_part : List Cond := .codeWith yL_part cL_part 8 (some .int) [(0, 17, 20, 19), (0, 17, 24, 21), (0, 17, 28, 67)] :: ((wsL_part_r1 ++ (wsL_part_r2 ++ (wsL_part_r3 ++ wsL_part_r4))) ++ wsX40 ++ wsX10 ++ wsX30 ++ wsX00 ++ (vx_atS RX3 313 "java/lang/IndexOutOfBoundsException" ["java/lang/RuntimeException", "java/lang/Exception"]).filter goodWord ++ (vx_atS RX3 90 "java/lang/IllegalArgumentException" ["java/lang/RuntimeException", "java/lang/Exception"]).filter goodWord ++ (vx_atS RX3 108 "java/lang/IllegalStateException" ["java/lang/RuntimeException", "java/lang/Exception"]).filter goodWord)
noncomputable def xwd925 : Cond := Cond.methodLink RL 96 yX3_shut
noncomputable def xwd926 : Cond := Cond.instanceMethod yX3_shut
noncomputable def xwd927 : Cond := Cond.selects RX3 yX3_shut yX3_shut
noncomputable def xwd928 : Cond := Cond.code yX3_shut cX3_shut 3 (some .int)
noncomputable def wsL_shut_r1 : List Cond := [xwd796, xwd925, xwd926, xwd927, xwd401, xwd928, xwd447, xwd477, xwd478, xwd479, xwd480, xwd407, xwd408, xwd482, xwd483, xwd484, xwd354, xwd485, xwd358, xwd359, xwd360, xwd361, xwd350, xwd362]
noncomputable def wsL_shut_r2 : List Cond := [xwd357, xwd11, xwd12, xwd3, xwd13, xwd14, xwd15, xwd5, xwd6, xwd7, xwd8, xwd9, xwd351, xwd352, xwd353, xwd355, xwd356]
noncomputable def wsL_shut : List Cond := .codeWith yL_shut cL_shut 4 (some .int) [(0, 10, 13, 19)] :: ((wsL_shut_r1 ++ wsL_shut_r2) ++ wsX40 ++ wsX30 ++ wsX10 ++ wsX00 ++ (vx_atS RX3 313 "java/lang/IndexOutOfBoundsException" ["java/lang/RuntimeException", "java/lang/Exception"]).filter goodWord)
noncomputable def xwd929 : Cond := Cond.methodLink RL 99 yX3_viewPut
noncomputable def xwd930 : Cond := Cond.instanceMethod yX3_viewPut
noncomputable def xwd931 : Cond := Cond.selects RX3 yX3_viewPut yX3_viewPut
noncomputable def xwd932 : Cond := Cond.code yX3_viewPut cX3_viewPut 5 (some .int)
noncomputable def wsL_viewPut_r1 : List Cond := [xwd796, xwd797, xwd929, xwd930, xwd931, xwd401, xwd932, xwd486, xwd487, xwd488, xwd489, xwd477, xwd478, xwd479, xwd480, xwd407, xwd408, xwd447, xwd410, xwd411, xwd412, xwd413, xwd414, xwd415]
noncomputable def wsL_viewPut_r2 : List Cond := [xwd416, xwd417, xwd452, xwd381, xwd382, xwd354, xwd383, xwd350, xwd418, xwd419, xwd420, xwd3, xwd421, xwd391, xwd481, xwd366, xwd367, xwd368, xwd356, xwd362, xwd369, xwd6, xwd7, xwd8]
noncomputable def wsL_viewPut_r3 : List Cond := [xwd9, xwd422, xwd62, xwd63, xwd64, xwd15, xwd28, xwd0, xwd1, xwd2, xwd4, xwd5, xwd10, xwd11, xwd12, xwd13, xwd14, xwd20, xwd21, xwd22, xwd23, xwd44, xwd45, xwd46]
noncomputable def wsL_viewPut_r4 : List Cond := [xwd47, xwd48, xwd49, xwd50, xwd51, xwd52]
noncomputable def wsL_viewPut : List Cond := .codeWith yL_viewPut cL_viewPut 6 (some .int) [(0, 13, 16, 19), (0, 13, 20, 21)] :: ((wsL_viewPut_r1 ++ (wsL_viewPut_r2 ++ (wsL_viewPut_r3 ++ wsL_viewPut_r4))) ++ wsX40 ++ wsX30 ++ wsX10 ++ wsX00 ++ (vx_atS RX3 313 "java/lang/IndexOutOfBoundsException" ["java/lang/RuntimeException", "java/lang/Exception"]).filter goodWord ++ (vx_atS RX3 90 "java/lang/IllegalArgumentException" ["java/lang/RuntimeException", "java/lang/Exception"]).filter goodWord)
noncomputable def xwd933 : Cond := Cond.methodLink RL 102 yX3_viewStrike
noncomputable def xwd934 : Cond := Cond.instanceMethod yX3_viewStrike
noncomputable def xwd935 : Cond := Cond.selects RX3 yX3_viewStrike yX3_viewStrike
noncomputable def xwd936 : Cond := Cond.code yX3_viewStrike cX3_viewStrike 4 (some .int)
noncomputable def wsL_viewStrike_r1 : List Cond := [xwd796, xwd797, xwd933, xwd934, xwd935, xwd401, xwd936, xwd477, xwd478, xwd479, xwd480, xwd407, xwd408, xwd447, xwd410, xwd411, xwd412, xwd413, xwd414, xwd452, xwd381, xwd382, xwd354, xwd383]
noncomputable def wsL_viewStrike_r2 : List Cond := [xwd350, xwd418, xwd419, xwd420, xwd3, xwd421, xwd391, xwd481, xwd366, xwd367, xwd368, xwd356, xwd362, xwd369, xwd6, xwd7, xwd8, xwd9, xwd429, xwd58, xwd59, xwd60, xwd0, xwd1]
noncomputable def wsL_viewStrike_r3 : List Cond := [xwd2, xwd4, xwd5, xwd10, xwd11, xwd12, xwd13, xwd14, xwd15, xwd16, xwd17, xwd18, xwd19, xwd20, xwd21, xwd22, xwd23, xwd24, xwd25, xwd26, xwd27, xwd28, xwd53, xwd54]
noncomputable def wsL_viewStrike_r4 : List Cond := [xwd55, xwd56, xwd48, xwd49, xwd50, xwd51, xwd52]
noncomputable def wsL_viewStrike : List Cond := .codeWith yL_viewStrike cL_viewStrike 5 (some .int) [(0, 11, 14, 19), (0, 11, 18, 21)] :: ((wsL_viewStrike_r1 ++ (wsL_viewStrike_r2 ++ (wsL_viewStrike_r3 ++ wsL_viewStrike_r4))) ++ wsX40 ++ wsX30 ++ wsX10 ++ wsX00 ++ (vx_atS RX3 313 "java/lang/IndexOutOfBoundsException" ["java/lang/RuntimeException", "java/lang/Exception"]).filter goodWord ++ (vx_atS RX3 90 "java/lang/IllegalArgumentException" ["java/lang/RuntimeException", "java/lang/Exception"]).filter goodWord)
noncomputable def xwd937 : Cond := Cond.methodLink RL 105 yX3_viewMerge
noncomputable def xwd938 : Cond := Cond.instanceMethod yX3_viewMerge
noncomputable def xwd939 : Cond := Cond.selects RX3 yX3_viewMerge yX3_viewMerge
noncomputable def xwd940 : Cond := Cond.code yX3_viewMerge cX3_viewMerge 5 (some .int)
noncomputable def wsL_viewMerge_r1 : List Cond := [xwd796, xwd797, xwd937, xwd938, xwd939, xwd401, xwd940, xwd486, xwd487, xwd488, xwd489, xwd477, xwd478, xwd479, xwd480, xwd407, xwd408, xwd447, xwd410, xwd411, xwd412, xwd413, xwd414, xwd415]
noncomputable def wsL_viewMerge_r2 : List Cond := [xwd416, xwd417, xwd452, xwd381, xwd382, xwd354, xwd383, xwd350, xwd418, xwd419, xwd420, xwd3, xwd421, xwd391, xwd481, xwd366, xwd367, xwd368, xwd356, xwd362, xwd369, xwd6, xwd7, xwd8]
noncomputable def wsL_viewMerge_r3 : List Cond := [xwd9, xwd430, xwd431, xwd432, xwd433, xwd65, xwd66, xwd67, xwd68, xwd29, xwd30, xwd31, xwd32, xwd0, xwd1, xwd2, xwd4, xwd5, xwd10, xwd11, xwd12, xwd13, xwd14, xwd15]
noncomputable def wsL_viewMerge_r4 : List Cond := [xwd16, xwd17, xwd18, xwd19, xwd20, xwd21, xwd22, xwd23, xwd24, xwd25, xwd26, xwd27, xwd28, xwd61, xwd62, xwd63, xwd64, xwd44, xwd45, xwd46, xwd47, xwd48, xwd49, xwd50]
noncomputable def wsL_viewMerge_r5 : List Cond := [xwd51, xwd52, xwd69, xwd70, xwd71, xwd33, xwd34, xwd35, xwd36, xwd37, xwd38, xwd39, xwd72, xwd73, xwd74, xwd75, xwd57, xwd58, xwd59, xwd60, xwd53, xwd54, xwd55, xwd56]
noncomputable def wsL_viewMerge : List Cond := .codeWith yL_viewMerge cL_viewMerge 6 (some .int) [(0, 13, 16, 19), (0, 13, 20, 21)] :: ((wsL_viewMerge_r1 ++ (wsL_viewMerge_r2 ++ (wsL_viewMerge_r3 ++ (wsL_viewMerge_r4 ++ wsL_viewMerge_r5)))) ++ wsX40 ++ wsX30 ++ wsX10 ++ wsX00 ++ (vx_atS RX3 313 "java/lang/IndexOutOfBoundsException" ["java/lang/RuntimeException", "java/lang/Exception"]).filter goodWord ++ (vx_atS RX3 90 "java/lang/IllegalArgumentException" ["java/lang/RuntimeException", "java/lang/Exception"]).filter goodWord)
noncomputable def xwd941 : Cond := Cond.methodLink RL 108 yX3_viewPoll
noncomputable def xwd942 : Cond := Cond.instanceMethod yX3_viewPoll
noncomputable def xwd943 : Cond := Cond.selects RX3 yX3_viewPoll yX3_viewPoll
noncomputable def xwd944 : Cond := Cond.code yX3_viewPoll cX3_viewPoll 4 (some .int)
noncomputable def wsL_viewPoll_r1 : List Cond := [xwd796, xwd941, xwd942, xwd943, xwd401, xwd944, xwd477, xwd478, xwd479, xwd480, xwd407, xwd408, xwd447, xwd452, xwd381, xwd382, xwd354, xwd383, xwd350, xwd418, xwd419, xwd420, xwd3, xwd421]
noncomputable def wsL_viewPoll_r2 : List Cond := [xwd391, xwd482, xwd483, xwd484, xwd485, xwd358, xwd359, xwd360, xwd361, xwd362, xwd357, xwd11, xwd12, xwd13, xwd14, xwd15, xwd5, xwd6, xwd7, xwd8, xwd9, xwd351, xwd352, xwd353]
noncomputable def wsL_viewPoll_r3 : List Cond := [xwd355, xwd356, xwd490, xwd491, xwd435, xwd77, xwd78, xwd79, xwd16, xwd17, xwd18, xwd19, xwd20, xwd21, xwd22, xwd23, xwd53, xwd54, xwd55, xwd56, xwd48, xwd49, xwd50, xwd51]
noncomputable def wsL_viewPoll_r4 : List Cond := [xwd28, xwd52]
noncomputable def wsL_viewPoll : List Cond := .codeWith yL_viewPoll cL_viewPoll 5 (some .int) [(0, 11, 14, 19)] :: ((wsL_viewPoll_r1 ++ (wsL_viewPoll_r2 ++ (wsL_viewPoll_r3 ++ wsL_viewPoll_r4))) ++ wsX40 ++ wsX30 ++ wsX10 ++ wsX00 ++ (vx_atS RX3 313 "java/lang/IndexOutOfBoundsException" ["java/lang/RuntimeException", "java/lang/Exception"]).filter goodWord)
noncomputable def xwd945 : Cond := Cond.methodLink RL 111 yX3_viewClear
noncomputable def xwd946 : Cond := Cond.instanceMethod yX3_viewClear
noncomputable def xwd947 : Cond := Cond.selects RX3 yX3_viewClear yX3_viewClear
noncomputable def xwd948 : Cond := Cond.code yX3_viewClear cX3_viewClear 3 (some .int)
noncomputable def wsL_viewClear_r1 : List Cond := [xwd796, xwd945, xwd946, xwd947, xwd401, xwd948, xwd477, xwd478, xwd479, xwd480, xwd407, xwd408, xwd447, xwd452, xwd381, xwd382, xwd354, xwd383, xwd350, xwd418, xwd419, xwd420, xwd3, xwd421]
noncomputable def wsL_viewClear_r2 : List Cond := [xwd391, xwd491, xwd352, xwd353, xwd355, xwd356, xwd357, xwd11, xwd12, xwd13, xwd14, xwd15, xwd5, xwd6, xwd7, xwd8, xwd9, xwd490, xwd359, xwd360, xwd361, xwd362, xwd441, xwd54]
noncomputable def wsL_viewClear_r3 : List Cond := [xwd55, xwd56, xwd48, xwd49, xwd50, xwd51, xwd28, xwd52]
noncomputable def wsL_viewClear : List Cond := .codeWith yL_viewClear cL_viewClear 4 (some .int) [(0, 10, 13, 19)] :: ((wsL_viewClear_r1 ++ (wsL_viewClear_r2 ++ wsL_viewClear_r3)) ++ wsX40 ++ wsX30 ++ wsX10 ++ wsX00 ++ (vx_atS RX3 313 "java/lang/IndexOutOfBoundsException" ["java/lang/RuntimeException", "java/lang/Exception"]).filter goodWord)
noncomputable def xwd949 : Cond := Cond.methodLink RL 114 yX3_walk
noncomputable def xwd950 : Cond := Cond.instanceMethod yX3_walk
noncomputable def xwd951 : Cond := Cond.selects RX3 yX3_walk yX3_walk
noncomputable def xwd952 : Cond := Cond.code yX3_walk cX3_walk 2 (some .int)
noncomputable def wsL_walk_r1 : List Cond := [xwd796, xwd949, xwd950, xwd951, xwd401, xwd952, xwd453, xwd454, xwd354, xwd403, xwd404, xwd405, xwd406, xwd407, xwd408, xwd409, xwd455, xwd456, xwd457, xwd458, xwd293, xwd294, xwd350, xwd459]
noncomputable def wsL_walk_r2 : List Cond := [xwd460, xwd461, xwd462, xwd356, xwd463, xwd38, xwd35, xwd39, xwd362, xwd369, xwd6, xwd7, xwd3, xwd8, xwd9, xwd498, xwd499, xwd500, xwd501, xwd492, xwd493, xwd378, xwd445, xwd494]
noncomputable def wsL_walk_r3 : List Cond := [xwd495, xwd496, xwd497, xwd371, xwd370, xwd392, xwd380, xwd381, xwd382, xwd383, xwd394, xwd395, xwd396, xwd397, xwd52, xwd482, xwd483, xwd484, xwd485, xwd358, xwd359, xwd360, xwd361, xwd357]
noncomputable def wsL_walk_r4 : List Cond := [xwd11, xwd12, xwd13, xwd14, xwd15, xwd5, xwd351, xwd352, xwd353, xwd355]
noncomputable def wsL_walk : List Cond := .codeWith yL_walk cL_walk 4 (some .int) [(0, 10, 13, 19)] :: ((wsL_walk_r1 ++ (wsL_walk_r2 ++ (wsL_walk_r3 ++ wsL_walk_r4))) ++ wsX40 ++ wsX10 ++ wsX30 ++ wsX00 ++ wsX20 ++ (vx_atS RX3 313 "java/lang/IndexOutOfBoundsException" ["java/lang/RuntimeException", "java/lang/Exception"]).filter goodWord)
noncomputable def xwd953 : Cond := Cond.methodLink RL 117 yX3_viewWalk
noncomputable def xwd954 : Cond := Cond.instanceMethod yX3_viewWalk
noncomputable def xwd955 : Cond := Cond.selects RX3 yX3_viewWalk yX3_viewWalk
noncomputable def xwd956 : Cond := Cond.code yX3_viewWalk cX3_viewWalk 2 (some .int)
noncomputable def wsL_viewWalk_r1 : List Cond := [xwd796, xwd953, xwd954, xwd955, xwd401, xwd956, xwd477, xwd478, xwd479, xwd480, xwd407, xwd408, xwd447, xwd498, xwd499, xwd500, xwd501, xwd492, xwd493, xwd378, xwd445, xwd494, xwd495, xwd496]
noncomputable def wsL_viewWalk_r2 : List Cond := [xwd497, xwd293, xwd294, xwd371, xwd370, xwd392, xwd380, xwd381, xwd382, xwd354, xwd383, xwd350, xwd394, xwd395, xwd396, xwd3, xwd397, xwd52, xwd482, xwd483, xwd484, xwd485, xwd358, xwd359]
noncomputable def wsL_viewWalk_r3 : List Cond := [xwd360, xwd361, xwd362, xwd357, xwd11, xwd12, xwd13, xwd14, xwd15, xwd5, xwd6, xwd7, xwd8, xwd9, xwd351, xwd352, xwd353, xwd355, xwd356]
noncomputable def wsL_viewWalk : List Cond := .codeWith yL_viewWalk cL_viewWalk 4 (some .int) [(0, 10, 13, 19)] :: ((wsL_viewWalk_r1 ++ (wsL_viewWalk_r2 ++ wsL_viewWalk_r3)) ++ wsX40 ++ wsX30 ++ wsX20 ++ wsX10 ++ wsX00 ++ (vx_atS RX3 313 "java/lang/IndexOutOfBoundsException" ["java/lang/RuntimeException", "java/lang/Exception"]).filter goodWord)
noncomputable def xwd957 : Cond := Cond.methodLink RL 120 yX3_step
noncomputable def xwd958 : Cond := Cond.instanceMethod yX3_step
noncomputable def xwd959 : Cond := Cond.selects RX3 yX3_step yX3_step
noncomputable def xwd960 : Cond := Cond.code yX3_step cX3_step 1 (some .int)
noncomputable def wsL_step_r1 : List Cond := [xwd870, xwd957, xwd958, xwd959, xwd401, xwd960, xwd506, xwd507, xwd508, xwd509, xwd436, xwd437, xwd445, xwd502, xwd503, xwd504, xwd378, xwd505, xwd392, xwd375, xwd376, xwd377, xwd379, xwd371]
noncomputable def xwd961 : Cond := Cond.methodLink RX3 184 yX2_advance
noncomputable def xwd962 : Cond := Cond.instanceMethod yX2_advance
noncomputable def xwd963 : Cond := Cond.selects RX2 yX2_advance yX2_advance
noncomputable def xwd964 : Cond := Cond.code yX2_advance cX2_advance 2 (some .int)
noncomputable def wsL_step_r2 : List Cond := [xwd380, xwd381, xwd382, xwd354, xwd383, xwd350, xwd394, xwd395, xwd396, xwd3, xwd397, xwd52, xwd961, xwd962, xwd963, xwd964, xwd370, xwd372, xwd373, xwd374, xwd352, xwd353, xwd355, xwd356]
noncomputable def wsL_step_r3 : List Cond := [xwd357, xwd11, xwd12, xwd13, xwd14, xwd15, xwd5, xwd6, xwd7, xwd8, xwd9, xwd384, xwd41, xwd42, xwd43, xwd10, xwd385, xwd359, xwd360, xwd361, xwd362, xwd386, xwd17, xwd18]
noncomputable def wsL_step_r4 : List Cond := [xwd19, xwd20, xwd21, xwd22, xwd23, xwd387, xwd388, xwd389, xwd390, xwd391]
noncomputable def wsL_step : List Cond := .codeWith yL_step cL_step 3 (some .int) [(0, 9, 12, 67)] :: ((wsL_step_r1 ++ (wsL_step_r2 ++ (wsL_step_r3 ++ wsL_step_r4))) ++ wsX40 ++ wsX30 ++ wsX20 ++ wsX10 ++ wsX00 ++ (vx_atS RX3 108 "java/lang/IllegalStateException" ["java/lang/RuntimeException", "java/lang/Exception"]).filter goodWord)
noncomputable def xwd965 : Cond := Cond.methodLink RL 124 yX3_write
noncomputable def xwd966 : Cond := Cond.instanceMethod yX3_write
noncomputable def xwd967 : Cond := Cond.selects RX3 yX3_write yX3_write
noncomputable def xwd968 : Cond := Cond.code yX3_write cX3_write 4 (some .int)
noncomputable def wsL_write_r1 : List Cond := [xwd797, xwd870, xwd965, xwd966, xwd967, xwd401, xwd968, xwd436, xwd437, xwd415, xwd416, xwd417, xwd413, xwd414, xwd506, xwd507, xwd508, xwd509, xwd445, xwd502, xwd503, xwd504, xwd378, xwd505]
noncomputable def wsL_write_r2 : List Cond := [xwd392, xwd375, xwd376, xwd377, xwd379, xwd371, xwd380, xwd381, xwd382, xwd354, xwd383, xwd350, xwd394, xwd395, xwd396, xwd3, xwd397, xwd52, xwd510, xwd511, xwd512, xwd513, xwd372, xwd373]
noncomputable def wsL_write_r3 : List Cond := [xwd370, xwd387, xwd388, xwd389, xwd390, xwd391, xwd446, xwd422, xwd62, xwd63, xwd64, xwd15, xwd28, xwd0, xwd1, xwd2, xwd4, xwd5, xwd6, xwd7, xwd8, xwd9, xwd10, xwd11]
noncomputable def wsL_write_r4 : List Cond := [xwd12, xwd13, xwd14, xwd20, xwd21, xwd22, xwd23, xwd44, xwd45, xwd46, xwd47, xwd48, xwd49, xwd50, xwd51]
noncomputable def wsL_write : List Cond := .codeWith yL_write cL_write 4 (some .int) [(0, 10, 13, 21), (0, 10, 16, 67)] :: ((wsL_write_r1 ++ (wsL_write_r2 ++ (wsL_write_r3 ++ wsL_write_r4))) ++ wsX40 ++ wsX30 ++ wsX20 ++ wsX10 ++ wsX00 ++ (vx_atS RX3 108 "java/lang/IllegalStateException" ["java/lang/RuntimeException", "java/lang/Exception"]).filter goodWord ++ (vx_atS RX3 90 "java/lang/IllegalArgumentException" ["java/lang/RuntimeException", "java/lang/Exception"]).filter goodWord)
noncomputable def xwd969 : Cond := Cond.methodLink RL 127 yX3_drop
noncomputable def xwd970 : Cond := Cond.instanceMethod yX3_drop
noncomputable def xwd971 : Cond := Cond.selects RX3 yX3_drop yX3_drop
noncomputable def xwd972 : Cond := Cond.code yX3_drop cX3_drop 2 (some .int)
noncomputable def wsL_drop_r1 : List Cond := [xwd870, xwd969, xwd970, xwd971, xwd401, xwd972, xwd436, xwd437, xwd506, xwd507, xwd508, xwd509, xwd445, xwd502, xwd503, xwd504, xwd378, xwd505, xwd392, xwd375, xwd376, xwd377, xwd379, xwd371]
noncomputable def xwd973 : Cond := Cond.methodLink RX3 192 yX2_canDrop
noncomputable def xwd974 : Cond := Cond.instanceMethod yX2_canDrop
noncomputable def xwd975 : Cond := Cond.selects RX2 yX2_canDrop yX2_canDrop
noncomputable def xwd976 : Cond := Cond.code yX2_canDrop cX2_canDrop 1 (some .boolean)
noncomputable def xwd977 : Cond := Cond.methodLink RX3 198 yX2_dropLastStep
noncomputable def xwd978 : Cond := Cond.instanceMethod yX2_dropLastStep
noncomputable def xwd979 : Cond := Cond.selects RX2 yX2_dropLastStep yX2_dropLastStep
noncomputable def xwd980 : Cond := Cond.code yX2_dropLastStep cX2_dropLastStep 1 none
noncomputable def wsL_drop_r2 : List Cond := [xwd380, xwd381, xwd382, xwd354, xwd383, xwd350, xwd394, xwd395, xwd396, xwd3, xwd397, xwd52, xwd973, xwd974, xwd975, xwd976, xwd372, xwd977, xwd978, xwd979, xwd980, xwd370, xwd393, xwd58]
noncomputable def wsL_drop_r3 : List Cond := [xwd59, xwd60, xwd0, xwd1, xwd2, xwd4, xwd5, xwd6, xwd7, xwd8, xwd9, xwd10, xwd11, xwd12, xwd13, xwd14, xwd15, xwd16, xwd17, xwd18, xwd19, xwd20, xwd21, xwd22]
noncomputable def wsL_drop_r4 : List Cond := [xwd23, xwd24, xwd25, xwd26, xwd27, xwd28, xwd53, xwd54, xwd55, xwd56, xwd48, xwd49, xwd50, xwd51, xwd446, xwd434, xwd81, xwd82, xwd83]
noncomputable def wsL_drop : List Cond := .codeWith yL_drop cL_drop 3 (some .int) [(0, 9, 12, 67)] :: ((wsL_drop_r1 ++ (wsL_drop_r2 ++ (wsL_drop_r3 ++ wsL_drop_r4))) ++ wsX40 ++ wsX30 ++ wsX20 ++ wsX10 ++ wsX00 ++ (vx_atS RX3 108 "java/lang/IllegalStateException" ["java/lang/RuntimeException", "java/lang/Exception"]).filter goodWord)
noncomputable def xwd981 : Cond := Cond.methodLink RL 130 yX3_keep
noncomputable def xwd982 : Cond := Cond.instanceMethod yX3_keep
noncomputable def xwd983 : Cond := Cond.selects RX3 yX3_keep yX3_keep
noncomputable def xwd984 : Cond := Cond.code yX3_keep cX3_keep 5 (some .int)
noncomputable def wsL_keep_r1 : List Cond := [xwd796, xwd981, xwd982, xwd983, xwd401, xwd984, xwd514, xwd515, xwd403, xwd404, xwd405, xwd406, xwd407, xwd408, xwd409, xwd434, xwd81, xwd82, xwd3, xwd83, xwd14, xwd516, xwd17, xwd18]
noncomputable def wsL_keep_r2 : List Cond := [xwd19, xwd15, xwd20, xwd21, xwd22, xwd23, xwd517, xwd25, xwd26, xwd27, xwd28]
noncomputable def wsL_keep : List Cond := .codeWith yL_keep cL_keep 5 (some .int) [(0, 11, 14, 19)] :: ((wsL_keep_r1 ++ wsL_keep_r2) ++ wsX40 ++ wsX30 ++ wsX00 ++ (vx_atS RX3 313 "java/lang/IndexOutOfBoundsException" ["java/lang/RuntimeException", "java/lang/Exception"]).filter goodWord)
noncomputable def wsL_brand : List Cond := .codeWith yL_brand cL_brand 4 (some .int) [(0, 10, 13, 21)] :: ([.classLink RL 21 "java/lang/IllegalArgumentException", .methodLink RL 133 yX3_brand, .instanceMethod yX3_brand, .selects RX3 yX3_brand yX3_brand, .initialized RX3, .code yX3_brand cX3_brand 2 (some .int), .fieldLink RX3 24 "Rangeledger" "keptKey" "I", .methodLink RX3 54 yX3_checkValue, .static yX3_checkValue, .code yX3_checkValue cX3_checkValue 1 none, .classLink RX3 86 "java/lang/IllegalArgumentException", .initialized "java/lang/IllegalArgumentException"] ++ wsX40 ++ wsX30 ++ (vx_atS RX3 90 "java/lang/IllegalArgumentException" ["java/lang/RuntimeException", "java/lang/Exception"]).filter goodWord)
noncomputable def xwd985 : Cond := Cond.methodLink RL 136 yX3_get
noncomputable def xwd986 : Cond := Cond.instanceMethod yX3_get
noncomputable def xwd987 : Cond := Cond.selects RX3 yX3_get yX3_get
noncomputable def xwd988 : Cond := Cond.code yX3_get cX3_get 4 (some .int)
noncomputable def wsL_get_r1 : List Cond := [xwd796, xwd797, xwd985, xwd986, xwd987, xwd401, xwd988, xwd403, xwd404, xwd405, xwd406, xwd407, xwd408, xwd409, xwd410, xwd411, xwd412, xwd413, xwd414, xwd424, xwd30, xwd31, xwd3, xwd32]
noncomputable def wsL_get_r2 : List Cond := [xwd0, xwd1, xwd2, xwd4, xwd5, xwd6, xwd7, xwd8, xwd9, xwd10, xwd11, xwd12, xwd13, xwd14, xwd15, xwd16, xwd17, xwd18, xwd19, xwd20, xwd21, xwd22, xwd23, xwd24]
noncomputable def wsL_get_r3 : List Cond := [xwd25, xwd26, xwd27, xwd28]
noncomputable def wsL_get : List Cond := .codeWith yL_get cL_get 5 (some .int) [(0, 11, 14, 19), (0, 11, 18, 21)] :: ((wsL_get_r1 ++ (wsL_get_r2 ++ wsL_get_r3)) ++ wsX40 ++ wsX30 ++ wsX00 ++ (vx_atS RX3 313 "java/lang/IndexOutOfBoundsException" ["java/lang/RuntimeException", "java/lang/Exception"]).filter goodWord ++ (vx_atS RX3 90 "java/lang/IllegalArgumentException" ["java/lang/RuntimeException", "java/lang/Exception"]).filter goodWord)
noncomputable def xwd989 : Cond := Cond.methodLink RL 139 yX3_getOr
noncomputable def xwd990 : Cond := Cond.instanceMethod yX3_getOr
noncomputable def xwd991 : Cond := Cond.selects RX3 yX3_getOr yX3_getOr
noncomputable def xwd992 : Cond := Cond.code yX3_getOr cX3_getOr 5 (some .int)
noncomputable def wsL_getOr_r1 : List Cond := [xwd796, xwd797, xwd989, xwd990, xwd991, xwd401, xwd992, xwd403, xwd404, xwd405, xwd406, xwd407, xwd408, xwd409, xwd410, xwd411, xwd412, xwd413, xwd414, xwd415, xwd416, xwd417, xwd423, xwd66]
noncomputable def wsL_getOr_r2 : List Cond := [xwd67, xwd3, xwd68, xwd29, xwd30, xwd31, xwd32, xwd0, xwd1, xwd2, xwd4, xwd5, xwd6, xwd7, xwd8, xwd9, xwd10, xwd11, xwd12, xwd13, xwd14, xwd15, xwd16, xwd17]
noncomputable def wsL_getOr_r3 : List Cond := [xwd18, xwd19, xwd20, xwd21, xwd22, xwd23, xwd24, xwd25, xwd26, xwd27, xwd28, xwd424]
noncomputable def wsL_getOr : List Cond := .codeWith yL_getOr cL_getOr 6 (some .int) [(0, 13, 16, 19), (0, 13, 20, 21)] :: ((wsL_getOr_r1 ++ (wsL_getOr_r2 ++ wsL_getOr_r3)) ++ wsX40 ++ wsX30 ++ wsX00 ++ (vx_atS RX3 313 "java/lang/IndexOutOfBoundsException" ["java/lang/RuntimeException", "java/lang/Exception"]).filter goodWord ++ (vx_atS RX3 90 "java/lang/IllegalArgumentException" ["java/lang/RuntimeException", "java/lang/Exception"]).filter goodWord)
noncomputable def xwd993 : Cond := Cond.methodLink RL 142 yX3_has
noncomputable def xwd994 : Cond := Cond.instanceMethod yX3_has
noncomputable def xwd995 : Cond := Cond.selects RX3 yX3_has yX3_has
noncomputable def xwd996 : Cond := Cond.code yX3_has cX3_has 4 (some .boolean)
noncomputable def wsL_has_r1 : List Cond := [xwd796, xwd797, xwd993, xwd994, xwd995, xwd401, xwd996, xwd403, xwd404, xwd405, xwd406, xwd407, xwd408, xwd409, xwd410, xwd411, xwd412, xwd413, xwd414, xwd423, xwd66, xwd67, xwd3, xwd68]
noncomputable def wsL_has_r2 : List Cond := [xwd29, xwd30, xwd31, xwd32, xwd0, xwd1, xwd2, xwd4, xwd5, xwd6, xwd7, xwd8, xwd9, xwd10, xwd11, xwd12, xwd13, xwd14, xwd15, xwd16, xwd17, xwd18, xwd19, xwd20]
noncomputable def wsL_has_r3 : List Cond := [xwd21, xwd22, xwd23, xwd24, xwd25, xwd26, xwd27, xwd28]
noncomputable def wsL_has : List Cond := .codeWith yL_has cL_has 5 (some .int) [(0, 18, 21, 19), (0, 18, 25, 21)] :: ((wsL_has_r1 ++ (wsL_has_r2 ++ wsL_has_r3)) ++ wsX40 ++ wsX30 ++ wsX00 ++ (vx_atS RX3 313 "java/lang/IndexOutOfBoundsException" ["java/lang/RuntimeException", "java/lang/Exception"]).filter goodWord ++ (vx_atS RX3 90 "java/lang/IllegalArgumentException" ["java/lang/RuntimeException", "java/lang/Exception"]).filter goodWord)
noncomputable def xwd997 : Cond := Cond.methodLink RL 145 yX3_hasValue
noncomputable def xwd998 : Cond := Cond.instanceMethod yX3_hasValue
noncomputable def xwd999 : Cond := Cond.selects RX3 yX3_hasValue yX3_hasValue
noncomputable def xwd1000 : Cond := Cond.code yX3_hasValue cX3_hasValue 4 (some .boolean)
noncomputable def wsL_hasValue_r1 : List Cond := [xwd796, xwd797, xwd997, xwd998, xwd999, xwd401, xwd1000, xwd403, xwd404, xwd405, xwd406, xwd407, xwd408, xwd409, xwd415, xwd416, xwd417, xwd413, xwd414, xwd879, xwd438, xwd439, xwd3, xwd440]
noncomputable def wsL_hasValue_r2 : List Cond := [xwd14, xwd28]
noncomputable def wsL_hasValue : List Cond := .codeWith yL_hasValue cL_hasValue 5 (some .int) [(0, 18, 21, 19), (0, 18, 25, 21)] :: ((wsL_hasValue_r1 ++ wsL_hasValue_r2) ++ wsX40 ++ wsX30 ++ wsX00 ++ (vx_atS RX3 313 "java/lang/IndexOutOfBoundsException" ["java/lang/RuntimeException", "java/lang/Exception"]).filter goodWord ++ (vx_atS RX3 90 "java/lang/IllegalArgumentException" ["java/lang/RuntimeException", "java/lang/Exception"]).filter goodWord)
noncomputable def xwd1001 : Cond := Cond.methodLink RL 148 yX3_ofBook
noncomputable def wsL_ofBook_r1 : List Cond := [xwd796, xwd797, xwd1001, xwd576, xwd577, xwd401, xwd578, xwd403, xwd404, xwd405, xwd406, xwd407, xwd408, xwd409, xwd518, xwd519, xwd520, xwd413, xwd414, xwd434, xwd81, xwd82, xwd3, xwd83]
noncomputable def wsL_ofBook_r2 : List Cond := [xwd14, xwd521, xwd85, xwd86, xwd87, xwd9, xwd516, xwd17, xwd18, xwd19, xwd15, xwd20, xwd21, xwd22, xwd23, xwd517, xwd25, xwd26, xwd27, xwd28, xwd522, xwd523, xwd524, xwd525]
noncomputable def wsL_ofBook_r3 : List Cond := [xwd526, xwd527, xwd528, xwd529, xwd530, xwd438, xwd439, xwd440, xwd448, xwd449, xwd450, xwd451, xwd447, xwd452, xwd381, xwd382, xwd354, xwd383, xwd350]
noncomputable def wsL_ofBook : List Cond := .codeWith yL_ofBook cL_ofBook 5 (some .int) [(0, 11, 14, 19), (0, 11, 18, 21)] :: ((wsL_ofBook_r1 ++ (wsL_ofBook_r2 ++ wsL_ofBook_r3)) ++ wsX40 ++ wsX30 ++ wsX00 ++ wsX10 ++ (vx_atS RX3 313 "java/lang/IndexOutOfBoundsException" ["java/lang/RuntimeException", "java/lang/Exception"]).filter goodWord ++ (vx_atS RX3 90 "java/lang/IllegalArgumentException" ["java/lang/RuntimeException", "java/lang/Exception"]).filter goodWord)
noncomputable def xwd1002 : Cond := Cond.methodLink RL 151 yX3_near
noncomputable def wsL_near_r1 : List Cond := [xwd796, xwd797, xwd1002, xwd584, xwd585, xwd401, xwd586, xwd403, xwd404, xwd405, xwd406, xwd407, xwd408, xwd409, xwd410, xwd411, xwd412, xwd413, xwd414, xwd518, xwd519, xwd520, xwd434, xwd81]
noncomputable def wsL_near_r2 : List Cond := [xwd82, xwd3, xwd83, xwd14, xwd531, xwd97, xwd98, xwd99, xwd33, xwd34, xwd35, xwd36, xwd37, xwd38, xwd39, xwd0, xwd1, xwd2, xwd4, xwd5, xwd6, xwd7, xwd8, xwd9]
noncomputable def wsL_near_r3 : List Cond := [xwd10, xwd11, xwd12, xwd13, xwd15, xwd16, xwd17, xwd18, xwd19, xwd20, xwd21, xwd22, xwd23, xwd40, xwd41, xwd42, xwd43, xwd424, xwd30, xwd31, xwd32, xwd24, xwd25, xwd26]
noncomputable def wsL_near_r4 : List Cond := [xwd27, xwd28]
noncomputable def wsL_near : List Cond := .codeWith yL_near cL_near 6 (some .int) [(0, 13, 16, 19), (0, 13, 20, 21)] :: ((wsL_near_r1 ++ (wsL_near_r2 ++ (wsL_near_r3 ++ wsL_near_r4))) ++ wsX40 ++ wsX30 ++ wsX00 ++ (vx_atS RX3 313 "java/lang/IndexOutOfBoundsException" ["java/lang/RuntimeException", "java/lang/Exception"]).filter goodWord ++ (vx_atS RX3 90 "java/lang/IllegalArgumentException" ["java/lang/RuntimeException", "java/lang/Exception"]).filter goodWord)
noncomputable def xwd1003 : Cond := Cond.methodLink RL 154 yX3_place
noncomputable def xwd1004 : Cond := Cond.instanceMethod yX3_place
noncomputable def xwd1005 : Cond := Cond.selects RX3 yX3_place yX3_place
noncomputable def xwd1006 : Cond := Cond.code yX3_place cX3_place 4 (some .int)
noncomputable def xwd1007 : Cond := Cond.methodLink RX3 229 yX0_placeOf
noncomputable def wsL_place_r1 : List Cond := [xwd796, xwd797, xwd1003, xwd1004, xwd1005, xwd401, xwd1006, xwd403, xwd404, xwd405, xwd406, xwd407, xwd408, xwd409, xwd410, xwd411, xwd412, xwd413, xwd414, xwd1007, xwd1, xwd2, xwd3, xwd4]
noncomputable def wsL_place_r2 : List Cond := [xwd5, xwd6, xwd7, xwd8, xwd9, xwd10, xwd11, xwd12, xwd13, xwd14, xwd15]
noncomputable def wsL_place : List Cond := .codeWith yL_place cL_place 5 (some .int) [(0, 11, 14, 19), (0, 11, 18, 21)] :: ((wsL_place_r1 ++ wsL_place_r2) ++ wsX40 ++ wsX30 ++ wsX00 ++ (vx_atS RX3 313 "java/lang/IndexOutOfBoundsException" ["java/lang/RuntimeException", "java/lang/Exception"]).filter goodWord ++ (vx_atS RX3 90 "java/lang/IllegalArgumentException" ["java/lang/RuntimeException", "java/lang/Exception"]).filter goodWord)
noncomputable def xwd1008 : Cond := Cond.methodLink RL 157 yX3_at
noncomputable def xwd1009 : Cond := Cond.instanceMethod yX3_at
noncomputable def xwd1010 : Cond := Cond.selects RX3 yX3_at yX3_at
noncomputable def xwd1011 : Cond := Cond.code yX3_at cX3_at 4 (some .int)
noncomputable def wsL_at_r1 : List Cond := [xwd796, xwd797, xwd1008, xwd1009, xwd1010, xwd401, xwd1011, xwd413, xwd414, xwd403, xwd404, xwd405, xwd406, xwd407, xwd408, xwd409, xwd516, xwd17, xwd18, xwd3, xwd19, xwd15, xwd20, xwd21]
noncomputable def wsL_at_r2 : List Cond := [xwd22, xwd23, xwd14]
noncomputable def wsL_at : List Cond := .codeWith yL_at cL_at 5 (some .int) [(0, 11, 14, 19), (0, 11, 18, 21)] :: ((wsL_at_r1 ++ wsL_at_r2) ++ wsX40 ++ wsX30 ++ wsX00 ++ (vx_atS RX3 90 "java/lang/IllegalArgumentException" ["java/lang/RuntimeException", "java/lang/Exception"]).filter goodWord ++ (vx_atS RX3 313 "java/lang/IndexOutOfBoundsException" ["java/lang/RuntimeException", "java/lang/Exception"]).filter goodWord)
noncomputable def xwd1012 : Cond := Cond.methodLink RL 160 yX3_row
noncomputable def xwd1013 : Cond := Cond.instanceMethod yX3_row
noncomputable def xwd1014 : Cond := Cond.selects RX3 yX3_row yX3_row
noncomputable def xwd1015 : Cond := Cond.code yX3_row cX3_row 3 (some (.object "java/lang/String"))
noncomputable def wsL_row_r1 : List Cond := [xwd796, xwd1012, xwd1013, xwd1014, xwd401, xwd1015, xwd403, xwd404, xwd405, xwd406, xwd407, xwd408, xwd409, xwd434, xwd81, xwd82, xwd3, xwd83, xwd14, xwd532, xwd533, xwd534, xwd535, xwd326]
noncomputable def wsL_row_r2 : List Cond := [xwd281, xwd282, xwd327, xwd328, xwd329, xwd330, xwd331, xwd106, xwd332, xwd333, xwd293, xwd294, xwd162, xwd128, xwd100, xwd101, xwd163, xwd164, xwd133, xwd165, xwd166, xwd167, xwd168, xwd169]
noncomputable def wsL_row_r3 : List Cond := [xwd334, xwd335, xwd336, xwd337, xwd199, xwd200, xwd201, xwd202, xwd203, xwd156, xwd174, xwd175, xwd176, xwd177, xwd178, xwd102, xwd103, xwd104, xwd105, xwd107, xwd108, xwd109, xwd110, xwd111]
noncomputable def wsL_row_r4 : List Cond := [xwd112, xwd113, xwd38, xwd35, xwd39, xwd114, xwd115, xwd116, xwd117, xwd118, xwd119, xwd120, xwd121, xwd122, xwd123, xwd124, xwd125, xwd126, xwd127, xwd129, xwd34, xwd36, xwd130, xwd49]
noncomputable def wsL_row_r5 : List Cond := [xwd50, xwd51, xwd157, xwd158, xwd159, xwd160, xwd161, xwd179, xwd180, xwd172, xwd181, xwd182, xwd183, xwd184, xwd185, xwd186, xwd170, xwd171, xwd173, xwd131, xwd132, xwd134, xwd135, xwd136]
noncomputable def wsL_row_r6 : List Cond := [xwd137, xwd138, xwd139, xwd140, xwd141, xwd142, xwd143, xwd144, xwd145, xwd146, xwd147, xwd148, xwd149, xwd150, xwd151, xwd152, xwd153, xwd154, xwd155, xwd187, xwd188, xwd189, xwd190, xwd191]
noncomputable def wsL_row_r7 : List Cond := [xwd192, xwd193, xwd194, xwd195, xwd196, xwd197, xwd198, xwd338, xwd339, xwd340, xwd341, xwd249, xwd250, xwd251, xwd252, xwd235, xwd236, xwd237, xwd238, xwd239, xwd204, xwd205, xwd206, xwd207]
noncomputable def wsL_row_r8 : List Cond := [xwd208, xwd209, xwd210, xwd211, xwd212, xwd213, xwd214, xwd215, xwd240, xwd241, xwd242, xwd243, xwd222, xwd224, xwd217, xwd218, xwd219, xwd220, xwd221, xwd244, xwd245, xwd246, xwd247, xwd248]
noncomputable def wsL_row_r9 : List Cond := [xwd226, xwd227, xwd228, xwd229, xwd230, xwd216, xwd231, xwd232, xwd233, xwd234, xwd223, xwd225, xwd16, xwd17, xwd18, xwd19, xwd15, xwd20, xwd21, xwd22, xwd23, xwd342, xwd343, xwd344]
noncomputable def wsL_row_r10 : List Cond := [xwd345, xwd270, xwd271, xwd272, xwd273, xwd258, xwd259, xwd260, xwd261, xwd262, xwd263, xwd264, xwd265, xwd266, xwd267, xwd268, xwd269, xwd253, xwd254, xwd255, xwd256, xwd257, xwd24, xwd25]
noncomputable def wsL_row_r11 : List Cond := [xwd26, xwd27, xwd28, xwd346, xwd347, xwd348, xwd349, xwd321, xwd322, xwd323, xwd324, xwd325, xwd318, xwd319, xwd320, xwd292, xwd295, xwd296, xwd297, xwd298, xwd299, xwd300, xwd301, xwd302]
noncomputable def wsL_row_r12 : List Cond := [xwd303, xwd304, xwd305, xwd306, xwd307, xwd308, xwd309, xwd310, xwd311, xwd290, xwd291, xwd274, xwd275, xwd276, xwd277, xwd278, xwd279, xwd280, xwd312, xwd313, xwd314, xwd283, xwd284, xwd285]
noncomputable def wsL_row_r13 : List Cond := [xwd286, xwd287, xwd288, xwd289, xwd315, xwd316, xwd317]
noncomputable def wsL_row : List Cond := .codeWith yL_row cL_row 4 (some .int) [(0, 9, 12, 19)] :: ((wsL_row_r1 ++ (wsL_row_r2 ++ (wsL_row_r3 ++ (wsL_row_r4 ++ (wsL_row_r5 ++ (wsL_row_r6 ++ (wsL_row_r7 ++ (wsL_row_r8 ++ (wsL_row_r9 ++ (wsL_row_r10 ++ (wsL_row_r11 ++ (wsL_row_r12 ++ wsL_row_r13)))))))))))) ++ wsX40 ++ wsX30 ++ wsX00 ++ wsJ40 ++ wsJ00 ++ (vx_atS RX3 313 "java/lang/IndexOutOfBoundsException" ["java/lang/RuntimeException", "java/lang/Exception"]).filter goodWord)
noncomputable def xwd1016 : Cond := Cond.methodLink RL 168 yX3_same
noncomputable def xwd1017 : Cond := Cond.instanceMethod yX3_same
noncomputable def xwd1018 : Cond := Cond.selects RX3 yX3_same yX3_same
noncomputable def xwd1019 : Cond := Cond.code yX3_same cX3_same 4 (some .boolean)
noncomputable def wsL_same_r1 : List Cond := [xwd796, xwd1016, xwd1017, xwd1018, xwd401, xwd1019, xwd403, xwd404, xwd405, xwd406, xwd407, xwd408, xwd409, xwd536, xwd537, xwd538, xwd3, xwd539, xwd14, xwd15, xwd28, xwd80, xwd81, xwd82]
noncomputable def wsL_same_r2 : List Cond := [xwd83, xwd29, xwd30, xwd31, xwd32, xwd0, xwd1, xwd2, xwd4, xwd5, xwd6, xwd7, xwd8, xwd9, xwd10, xwd11, xwd12, xwd13, xwd16, xwd17, xwd18, xwd19, xwd20, xwd21]
noncomputable def wsL_same_r3 : List Cond := [xwd22, xwd23, xwd24, xwd25, xwd26, xwd27]
noncomputable def wsL_same : List Cond := .codeWith yL_same cL_same 5 (some .int) [(0, 18, 21, 19)] :: ((wsL_same_r1 ++ (wsL_same_r2 ++ wsL_same_r3)) ++ wsX40 ++ wsX30 ++ wsX00 ++ (vx_atS RX3 313 "java/lang/IndexOutOfBoundsException" ["java/lang/RuntimeException", "java/lang/Exception"]).filter goodWord)
noncomputable def xwd1020 : Cond := Cond.methodLink RL 171 yX3_viewGet
noncomputable def xwd1021 : Cond := Cond.instanceMethod yX3_viewGet
noncomputable def xwd1022 : Cond := Cond.selects RX3 yX3_viewGet yX3_viewGet
noncomputable def xwd1023 : Cond := Cond.code yX3_viewGet cX3_viewGet 4 (some .int)
noncomputable def wsL_viewGet_r1 : List Cond := [xwd796, xwd797, xwd1020, xwd1021, xwd1022, xwd401, xwd1023, xwd477, xwd478, xwd479, xwd480, xwd407, xwd408, xwd447, xwd410, xwd411, xwd412, xwd413, xwd414, xwd481, xwd366, xwd367, xwd354, xwd368]
noncomputable def wsL_viewGet_r2 : List Cond := [xwd350, xwd356, xwd362, xwd369, xwd6, xwd7, xwd3, xwd8, xwd9, xwd452, xwd381, xwd382, xwd383, xwd424, xwd30, xwd31, xwd32, xwd0, xwd1, xwd2, xwd4, xwd5, xwd10, xwd11]
noncomputable def wsL_viewGet_r3 : List Cond := [xwd12, xwd13, xwd14, xwd15, xwd16, xwd17, xwd18, xwd19, xwd20, xwd21, xwd22, xwd23, xwd24, xwd25, xwd26, xwd27, xwd28]
noncomputable def wsL_viewGet : List Cond := .codeWith yL_viewGet cL_viewGet 5 (some .int) [(0, 11, 14, 19), (0, 11, 18, 21)] :: ((wsL_viewGet_r1 ++ (wsL_viewGet_r2 ++ wsL_viewGet_r3)) ++ wsX40 ++ wsX30 ++ wsX10 ++ wsX00 ++ (vx_atS RX3 313 "java/lang/IndexOutOfBoundsException" ["java/lang/RuntimeException", "java/lang/Exception"]).filter goodWord ++ (vx_atS RX3 90 "java/lang/IllegalArgumentException" ["java/lang/RuntimeException", "java/lang/Exception"]).filter goodWord)
noncomputable def xwd1024 : Cond := Cond.methodLink RL 174 yX3_ofView
noncomputable def wsL_ofView_r1 : List Cond := [xwd796, xwd797, xwd1024, xwd588, xwd589, xwd401, xwd590, xwd477, xwd478, xwd479, xwd480, xwd407, xwd408, xwd447, xwd518, xwd519, xwd520, xwd413, xwd414, xwd482, xwd483, xwd484, xwd354, xwd485]
noncomputable def wsL_ofView_r2 : List Cond := [xwd358, xwd359, xwd360, xwd361, xwd350, xwd362, xwd357, xwd11, xwd12, xwd3, xwd13, xwd14, xwd15, xwd5, xwd6, xwd7, xwd8, xwd9, xwd351, xwd352, xwd353, xwd355, xwd356, xwd452]
noncomputable def wsL_ofView_r3 : List Cond := [xwd381, xwd382, xwd383, xwd540, xwd541, xwd542, xwd543, xwd544, xwd545, xwd546, xwd547, xwd548, xwd459, xwd549, xwd550, xwd551, xwd552, xwd461, xwd553, xwd554, xwd555, xwd556, xwd460, xwd557]
noncomputable def wsL_ofView_r4 : List Cond := [xwd558, xwd559, xwd560, xwd462, xwd491, xwd516, xwd17, xwd18, xwd19, xwd20, xwd21, xwd22, xwd23, xwd490, xwd522, xwd523, xwd524, xwd525, xwd28]
noncomputable def wsL_ofView : List Cond := .codeWith yL_ofView cL_ofView 5 (some .int) [(0, 11, 14, 19), (0, 11, 18, 21)] :: ((wsL_ofView_r1 ++ (wsL_ofView_r2 ++ (wsL_ofView_r3 ++ wsL_ofView_r4))) ++ wsX40 ++ wsX30 ++ wsX10 ++ wsX00 ++ (vx_atS RX3 313 "java/lang/IndexOutOfBoundsException" ["java/lang/RuntimeException", "java/lang/Exception"]).filter goodWord ++ (vx_atS RX3 90 "java/lang/IllegalArgumentException" ["java/lang/RuntimeException", "java/lang/Exception"]).filter goodWord)
noncomputable def xwd1025 : Cond := Cond.methodLink RL 177 yX3_viewNear
noncomputable def wsL_viewNear_r1 : List Cond := [xwd796, xwd797, xwd1025, xwd592, xwd593, xwd401, xwd594, xwd477, xwd478, xwd479, xwd480, xwd407, xwd408, xwd447, xwd410, xwd411, xwd412, xwd413, xwd414, xwd518, xwd519, xwd520, xwd452, xwd381]
noncomputable def wsL_viewNear_r2 : List Cond := [xwd382, xwd354, xwd383, xwd350, xwd491, xwd352, xwd353, xwd355, xwd356, xwd357, xwd11, xwd12, xwd3, xwd13, xwd14, xwd15, xwd5, xwd6, xwd7, xwd8, xwd9, xwd490, xwd359, xwd360]
noncomputable def wsL_viewNear_r3 : List Cond := [xwd361, xwd362, xwd531, xwd97, xwd98, xwd99, xwd33, xwd34, xwd35, xwd36, xwd37, xwd38, xwd39, xwd0, xwd1, xwd2, xwd4, xwd10, xwd16, xwd17, xwd18, xwd19, xwd20, xwd21]
noncomputable def wsL_viewNear_r4 : List Cond := [xwd22, xwd23, xwd40, xwd41, xwd42, xwd43]
noncomputable def wsL_viewNear : List Cond := .codeWith yL_viewNear cL_viewNear 6 (some .int) [(0, 13, 16, 19), (0, 13, 20, 21)] :: ((wsL_viewNear_r1 ++ (wsL_viewNear_r2 ++ (wsL_viewNear_r3 ++ wsL_viewNear_r4))) ++ wsX40 ++ wsX30 ++ wsX10 ++ wsX00 ++ (vx_atS RX3 313 "java/lang/IndexOutOfBoundsException" ["java/lang/RuntimeException", "java/lang/Exception"]).filter goodWord ++ (vx_atS RX3 90 "java/lang/IllegalArgumentException" ["java/lang/RuntimeException", "java/lang/Exception"]).filter goodWord)
noncomputable def xwd1026 : Cond := Cond.methodLink RL 180 yX3_viewRow
noncomputable def xwd1027 : Cond := Cond.instanceMethod yX3_viewRow
noncomputable def xwd1028 : Cond := Cond.selects RX3 yX3_viewRow yX3_viewRow
noncomputable def xwd1029 : Cond := Cond.code yX3_viewRow cX3_viewRow 3 (some (.object "java/lang/String"))
noncomputable def wsL_viewRow_r1 : List Cond := [xwd796, xwd1026, xwd1027, xwd1028, xwd401, xwd1029, xwd477, xwd478, xwd479, xwd480, xwd407, xwd408, xwd447, xwd452, xwd381, xwd382, xwd354, xwd383, xwd350, xwd491, xwd352, xwd353, xwd355, xwd356]
noncomputable def wsL_viewRow_r2 : List Cond := [xwd357, xwd11, xwd12, xwd3, xwd13, xwd14, xwd15, xwd5, xwd6, xwd7, xwd8, xwd9, xwd490, xwd359, xwd360, xwd361, xwd362, xwd532, xwd533, xwd534, xwd535, xwd326, xwd281, xwd282]
noncomputable def wsL_viewRow_r3 : List Cond := [xwd327, xwd328, xwd329, xwd330, xwd331, xwd106, xwd332, xwd333, xwd293, xwd294, xwd162, xwd128, xwd100, xwd101, xwd163, xwd164, xwd133, xwd165, xwd166, xwd167, xwd168, xwd169, xwd334, xwd335]
noncomputable def wsL_viewRow_r4 : List Cond := [xwd336, xwd337, xwd199, xwd200, xwd201, xwd202, xwd203, xwd156, xwd174, xwd175, xwd176, xwd177, xwd178, xwd102, xwd103, xwd104, xwd105, xwd107, xwd108, xwd109, xwd110, xwd111, xwd112, xwd113]
noncomputable def wsL_viewRow_r5 : List Cond := [xwd38, xwd35, xwd39, xwd114, xwd115, xwd116, xwd117, xwd118, xwd119, xwd120, xwd121, xwd122, xwd123, xwd124, xwd125, xwd126, xwd127, xwd129, xwd34, xwd36, xwd130, xwd49, xwd50, xwd51]
noncomputable def wsL_viewRow_r6 : List Cond := [xwd157, xwd158, xwd159, xwd160, xwd161, xwd179, xwd180, xwd172, xwd181, xwd182, xwd183, xwd184, xwd185, xwd186, xwd170, xwd171, xwd173, xwd131, xwd132, xwd134, xwd135, xwd136, xwd137, xwd138]
noncomputable def wsL_viewRow_r7 : List Cond := [xwd139, xwd140, xwd141, xwd142, xwd143, xwd144, xwd145, xwd146, xwd147, xwd148, xwd149, xwd150, xwd151, xwd152, xwd153, xwd154, xwd155, xwd187, xwd188, xwd189, xwd190, xwd191, xwd192, xwd193]
noncomputable def wsL_viewRow_r8 : List Cond := [xwd194, xwd195, xwd196, xwd197, xwd198, xwd338, xwd339, xwd340, xwd341, xwd249, xwd250, xwd251, xwd252, xwd235, xwd236, xwd237, xwd238, xwd239, xwd204, xwd205, xwd206, xwd207, xwd208, xwd209]
noncomputable def wsL_viewRow_r9 : List Cond := [xwd210, xwd211, xwd212, xwd213, xwd214, xwd215, xwd240, xwd241, xwd242, xwd243, xwd222, xwd224, xwd217, xwd218, xwd219, xwd220, xwd221, xwd244, xwd245, xwd246, xwd247, xwd248, xwd226, xwd227]
noncomputable def wsL_viewRow_r10 : List Cond := [xwd228, xwd229, xwd230, xwd216, xwd231, xwd232, xwd233, xwd234, xwd223, xwd225, xwd16, xwd17, xwd18, xwd19, xwd20, xwd21, xwd22, xwd23, xwd342, xwd343, xwd344, xwd345, xwd270, xwd271]
noncomputable def wsL_viewRow_r11 : List Cond := [xwd272, xwd273, xwd258, xwd259, xwd260, xwd261, xwd262, xwd263, xwd264, xwd265, xwd266, xwd267, xwd268, xwd269, xwd253, xwd254, xwd255, xwd256, xwd257, xwd24, xwd25, xwd26, xwd27, xwd28]
noncomputable def wsL_viewRow_r12 : List Cond := [xwd346, xwd347, xwd348, xwd349, xwd321, xwd322, xwd323, xwd324, xwd325, xwd318, xwd319, xwd320, xwd292, xwd295, xwd296, xwd297, xwd298, xwd299, xwd300, xwd301, xwd302, xwd303, xwd304, xwd305]
noncomputable def wsL_viewRow_r13 : List Cond := [xwd306, xwd307, xwd308, xwd309, xwd310, xwd311, xwd290, xwd291, xwd274, xwd275, xwd276, xwd277, xwd278, xwd279, xwd280, xwd312, xwd313, xwd314, xwd283, xwd284, xwd285, xwd286, xwd287, xwd288]
noncomputable def wsL_viewRow_r14 : List Cond := [xwd289, xwd315, xwd316, xwd317]
noncomputable def wsL_viewRow : List Cond := .codeWith yL_viewRow cL_viewRow 4 (some .int) [(0, 9, 12, 19)] :: ((wsL_viewRow_r1 ++ (wsL_viewRow_r2 ++ (wsL_viewRow_r3 ++ (wsL_viewRow_r4 ++ (wsL_viewRow_r5 ++ (wsL_viewRow_r6 ++ (wsL_viewRow_r7 ++ (wsL_viewRow_r8 ++ (wsL_viewRow_r9 ++ (wsL_viewRow_r10 ++ (wsL_viewRow_r11 ++ (wsL_viewRow_r12 ++ (wsL_viewRow_r13 ++ wsL_viewRow_r14))))))))))))) ++ wsX40 ++ wsX30 ++ wsX10 ++ wsX00 ++ wsJ40 ++ wsJ00 ++ (vx_atS RX3 313 "java/lang/IndexOutOfBoundsException" ["java/lang/RuntimeException", "java/lang/Exception"]).filter goodWord)
noncomputable def xwd1030 : Cond := Cond.methodLink RL 183 yX3_ledger
noncomputable def xwd1031 : Cond := Cond.instanceMethod yX3_ledger
noncomputable def xwd1032 : Cond := Cond.selects RX3 yX3_ledger yX3_ledger
noncomputable def xwd1033 : Cond := Cond.code yX3_ledger cX3_ledger 2 (some .int)
noncomputable def wsL_ledger_r1 : List Cond := [xwd797, xwd1030, xwd1031, xwd1032, xwd401, xwd1033, xwd445, xwd514, xwd515, xwd561, xwd518, xwd519, xwd520, xwd413, xwd414, xwd472, xwd473, xwd474, xwd475, xwd447, xwd446, xwd376, xwd377, xwd378]
noncomputable def wsL_ledger_r2 : List Cond := [xwd379, xwd371, xwd380, xwd381, xwd382, xwd354, xwd383, xwd350, xwd540, xwd541, xwd542, xwd3, xwd543, xwd544, xwd502, xwd503, xwd504, xwd505, xwd392, xwd375, xwd394, xwd395, xwd396, xwd397]
noncomputable def wsL_ledger_r3 : List Cond := [xwd52, xwd510, xwd511, xwd512, xwd513, xwd372, xwd373, xwd370, xwd387, xwd388, xwd389, xwd390, xwd391]
noncomputable def wsL_ledger : List Cond := .codeWith yL_ledger cL_ledger 4 (some .int) [(0, 10, 13, 21)] :: ((wsL_ledger_r1 ++ (wsL_ledger_r2 ++ wsL_ledger_r3)) ++ wsX40 ++ wsX30 ++ wsX20 ++ wsX10 ++ wsX00 ++ (vx_atS RX3 90 "java/lang/IllegalArgumentException" ["java/lang/RuntimeException", "java/lang/Exception"]).filter goodWord)
noncomputable def wsL_law0_r1 : List Cond := [Cond.classLink RL 8 RX3, Cond.instantiable RX3 6, xwd401, Cond.classLink RL 187 RX5, Cond.instantiable RX5 13, xwd623, Cond.classLink RL 14 RX4, Cond.instantiable RX4 2, Cond.initialized RX4, Cond.methodLink RL 186 yX3_init, Cond.instanceMethod yX3_init, Cond.code yX3_init cX3_init 2 none, Cond.methodLink RX3 1 objectInit, xwd293, xwd294, Cond.classLink RX3 9 RX0, xwd409, Cond.instantiable RX0 7, xwd3, xwd453, xwd447, xwd514, xwd515, Cond.methodLink RX3 15 yX0_init]
noncomputable def wsL_law0_r2 : List Cond := [Cond.instanceMethod yX0_init, Cond.code yX0_init cX0_init 2 none, Cond.methodLink RX0 3 objectInit, xwd544, xwd702, xwd15, xwd28, xwd9, Cond.methodLink RL 189 yX5_init, Cond.instanceMethod yX5_init, Cond.code yX5_init cX5_init 3 none, Cond.methodLink RX5 1 objectInit, Cond.classLink RX5 9 "[[I", xwd616, xwd642, xwd641, Cond.classLink RX5 21 "[I", xwd722, xwd728, xwd682, xwd741, xwd742, Cond.methodLink RX5 38 yX5_named, Cond.static yX5_named]
noncomputable def wsL_law0_r3 : List Cond := [Cond.code yX5_named cX5_named 4 (some .int), Cond.instanceMethod yX4_init, Cond.code yX4_init cX4_init 1 none, Cond.methodLink RX4 1 objectInit, Cond.methodLink RL 191 yL_put, Cond.static yL_put, Cond.initialized RL, Cond.codeWith yL_put cL_put 6 (some .int) [(0, 13, 16, 19), (0, 13, 20, 21)], xwd796, xwd797, xwd798, xwd799, xwd800, xwd801, xwd398, xwd399, xwd400, xwd402, xwd403, xwd404, xwd405, xwd406, xwd407, xwd408]
noncomputable def wsL_law0_r4 : List Cond := [xwd410, xwd411, xwd412, xwd413, xwd414, xwd415, xwd416, xwd417, xwd418, xwd419, xwd420, xwd421, xwd391, xwd422, xwd62, xwd63, xwd64, xwd0, xwd1, xwd2, xwd4, xwd5, xwd6, xwd7]
noncomputable def wsL_law0_r5 : List Cond := [xwd8, xwd10, xwd11, xwd12, xwd13, xwd14, xwd20, xwd21, xwd22, xwd23, xwd44, xwd45, xwd46, xwd47, xwd48, xwd49, xwd50, xwd51, xwd52, Cond.methodLink RL 196 yX5_put, Cond.instanceMethod yX5_put, Cond.selects RX5 yX5_put yX5_put, Cond.code yX5_put cX5_put 4 (some .int), xwd652]
noncomputable def wsL_law0_r6 : List Cond := [xwd653, xwd654, xwd655, xwd656, xwd657, xwd658, xwd659, xwd660, xwd661, xwd662, xwd663, xwd664, xwd665, xwd666, xwd667, xwd668, xwd669, xwd670, xwd671, xwd672, xwd673, xwd674, xwd675, xwd676]
noncomputable def wsL_law0_r7 : List Cond := [xwd677, xwd678, xwd679, xwd680, xwd681, xwd683, xwd684, xwd685, xwd686, xwd687, Cond.methodLink RL 197 yL_putAbsent, Cond.static yL_putAbsent, Cond.codeWith yL_putAbsent cL_putAbsent 6 (some .int) [(0, 13, 16, 19), (0, 13, 20, 21)], xwd802, xwd803, xwd804, xwd805, xwd423, xwd66, xwd67, xwd68, xwd29, xwd30, xwd31]
noncomputable def wsL_law0_r8 : List Cond := [xwd32, xwd16, xwd17, xwd18, xwd19, xwd24, xwd25, xwd26, xwd27, xwd424, Cond.methodLink RL 199 yX5_putAbsent, Cond.instanceMethod yX5_putAbsent, Cond.selects RX5 yX5_putAbsent yX5_putAbsent, Cond.code yX5_putAbsent cX5_putAbsent 5 (some .int), Cond.methodLink RL 200 yL_replace, Cond.static yL_replace, Cond.codeWith yL_replace cL_replace 6 (some .int) [(0, 13, 16, 19), (0, 13, 20, 21)], xwd806, xwd807, xwd808, xwd809, Cond.methodLink RL 202 yX5_replace, Cond.instanceMethod yX5_replace, Cond.selects RX5 yX5_replace yX5_replace]
noncomputable def wsL_law0_r9 : List Cond := [Cond.code yX5_replace cX5_replace 5 (some .int), Cond.methodLink RL 203 yL_swap, Cond.static yL_swap, Cond.codeWith yL_swap cL_swap 7 (some .int) [(0, 22, 25, 19), (0, 22, 29, 21)], xwd810, xwd811, xwd812, xwd813, Cond.methodLink RL 206 yX5_swap, Cond.instanceMethod yX5_swap, Cond.selects RX5 yX5_swap yX5_swap, Cond.code yX5_swap cX5_swap 5 (some .boolean), Cond.methodLink RL 207 yL_strike, Cond.static yL_strike, Cond.codeWith yL_strike cL_strike 5 (some .int) [(0, 11, 14, 19), (0, 11, 18, 21)], xwd814, xwd815, xwd816, xwd817, xwd425, xwd426, xwd427, xwd428, xwd429]
noncomputable def wsL_law0_r10 : List Cond := [xwd58, xwd59, xwd60, xwd53, xwd54, xwd55, xwd56, Cond.methodLink RL 210 yX5_strike, Cond.instanceMethod yX5_strike, Cond.selects RX5 yX5_strike yX5_strike, Cond.code yX5_strike cX5_strike 3 (some .int), xwd688, xwd689, xwd690, xwd691, Cond.methodLink RL 211 yL_strikePair, Cond.static yL_strikePair, Cond.codeWith yL_strikePair cL_strikePair 6 (some .int) [(0, 20, 23, 19), (0, 20, 27, 21)], xwd818, xwd819, xwd820, xwd821, Cond.methodLink RL 213 yX5_strikePair, Cond.instanceMethod yX5_strikePair]
noncomputable def wsL_law0_r11 : List Cond := [Cond.selects RX5 yX5_strikePair yX5_strikePair, Cond.code yX5_strikePair cX5_strikePair 4 (some .boolean), Cond.methodLink RL 214 yL_merge, Cond.static yL_merge, Cond.codeWith yL_merge cL_merge 6 (some .int) [(0, 13, 16, 19), (0, 13, 20, 21)], xwd822, xwd823, xwd824, xwd825, xwd430, xwd431, xwd432, xwd433, xwd65, xwd61, xwd69, xwd70, xwd71, xwd33, xwd34, xwd35, xwd36, xwd37, xwd38]
noncomputable def wsL_law0_r12 : List Cond := [xwd39, xwd72, xwd73, xwd74, xwd75, xwd57, Cond.methodLink RL 216 yX5_merge, Cond.instanceMethod yX5_merge, Cond.selects RX5 yX5_merge yX5_merge, Cond.code yX5_merge cX5_merge 4 (some .int), xwd692, xwd693, xwd694, xwd695, xwd696, xwd697, xwd698, Cond.methodLink RL 217 yX5_thrown, Cond.instanceMethod yX5_thrown, Cond.selects RX5 yX5_thrown yX5_thrown, Cond.code yX5_thrown cX5_thrown 1 (some .int), Cond.methodLink RL 220 yL_grow, Cond.static yL_grow, Cond.codeWith yL_grow cL_grow 5 (some .int) [(0, 11, 14, 19), (0, 11, 18, 21)]]
noncomputable def wsL_law0_r13 : List Cond := [xwd826, xwd827, xwd828, xwd829, xwd830, xwd831, xwd832, xwd833, Cond.methodLink RL 222 yX5_grow, Cond.instanceMethod yX5_grow, Cond.selects RX5 yX5_grow yX5_grow, Cond.code yX5_grow cX5_grow 3 (some .int), Cond.methodLink RL 223 yL_halve, Cond.static yL_halve, Cond.codeWith yL_halve cL_halve 5 (some .int) [(0, 11, 14, 19), (0, 11, 18, 21)], xwd834, xwd835, xwd836, xwd837, xwd838, xwd839, xwd840, xwd841, Cond.methodLink RL 225 yX5_halve]
noncomputable def wsL_law0_r14 : List Cond := [Cond.instanceMethod yX5_halve, Cond.selects RX5 yX5_halve yX5_halve, Cond.code yX5_halve cX5_halve 4 (some .int), Cond.methodLink RL 226 yL_twice, Cond.static yL_twice, Cond.codeWith yL_twice cL_twice 5 (some .int) [(0, 11, 14, 19), (0, 11, 18, 21)], xwd842, xwd843, xwd844, xwd845, xwd846, xwd847, xwd848, xwd849, Cond.methodLink RL 228 yX5_twice, Cond.instanceMethod yX5_twice, Cond.selects RX5 yX5_twice yX5_twice, Cond.code yX5_twice cX5_twice 4 (some .int), Cond.methodLink RL 229 yL_poll, Cond.static yL_poll, Cond.codeWith yL_poll cL_poll 5 (some .int) [(0, 11, 14, 19)], xwd850, xwd851, xwd852]
noncomputable def wsL_law0_r15 : List Cond := [xwd853, xwd434, xwd81, xwd82, xwd83, xwd435, xwd77, xwd78, xwd79, Cond.methodLink RL 232 yX5_poll, Cond.instanceMethod yX5_poll, Cond.selects RX5 yX5_poll yX5_poll, Cond.code yX5_poll cX5_poll 4 (some .int), xwd699, xwd700, xwd701, xwd620, xwd621, xwd622, xwd624, xwd625, xwd626, xwd627, xwd628]
noncomputable def wsL_law0_r16 : List Cond := [xwd629, xwd630, xwd631, xwd632, xwd633, xwd634, xwd635, xwd636, xwd637, xwd638, xwd639, xwd640, Cond.methodLink RL 233 yL_raise, Cond.static yL_raise, Cond.codeWith yL_raise cL_raise 5 (some .int) [(0, 11, 14, 19), (0, 11, 18, 21)], xwd854, xwd855, xwd856, xwd857, xwd858, xwd859, xwd860, xwd861, Cond.methodLink RL 235 yX5_raise]
noncomputable def wsL_law0_r17 : List Cond := [Cond.instanceMethod yX5_raise, Cond.selects RX5 yX5_raise yX5_raise, Cond.code yX5_raise cX5_raise 6 (some .int), xwd703, xwd704, xwd705, Cond.methodLink RL 236 yL_sift, Cond.static yL_sift, Cond.codeWith yL_sift cL_sift 5 (some .int) [(0, 11, 14, 19), (0, 11, 18, 21)], xwd862, xwd863, xwd864, xwd865, xwd866, xwd867, xwd868, xwd869, xwd76, Cond.methodLink RL 238 yX5_sift, Cond.instanceMethod yX5_sift, Cond.selects RX5 yX5_sift yX5_sift, Cond.code yX5_sift cX5_sift 5 (some .int), Cond.methodLink RL 239 yL_strikeValue, Cond.static yL_strikeValue]
noncomputable def wsL_law0_r18 : List Cond := [Cond.codeWith yL_strikeValue cL_strikeValue 5 (some .int) [(0, 18, 21, 19), (0, 18, 25, 21), (0, 18, 29, 67)], xwd870, xwd871, xwd872, xwd873, xwd874, xwd436, xwd437, xwd875, xwd876, xwd877, xwd878, xwd879, xwd438, xwd439, xwd440, Cond.methodLink RL 241 yX5_strikeValue, Cond.instanceMethod yX5_strikeValue, Cond.selects RX5 yX5_strikeValue yX5_strikeValue, Cond.code yX5_strikeValue cX5_strikeValue 4 (some .boolean), xwd706, xwd707, xwd708, xwd709]
noncomputable def wsL_law0_r19 : List Cond := [Cond.methodLink RL 242 yL_clear, Cond.static yL_clear, Cond.codeWith yL_clear cL_clear 4 (some .int) [(0, 10, 13, 19)], xwd880, xwd881, xwd882, xwd883, xwd441, Cond.methodLink RL 245 yX5_clear, Cond.instanceMethod yX5_clear, Cond.selects RX5 yX5_clear yX5_clear, Cond.code yX5_clear cX5_clear 2 (some .int), xwd710, xwd711, xwd712, xwd713, Cond.methodLink RL 246 yL_pour, Cond.static yL_pour, Cond.codeWith yL_pour cL_pour 5 (some .int) [(0, 11, 14, 19), (0, 11, 18, 21)], xwd884, xwd885, xwd886, xwd887, xwd442]
noncomputable def wsL_law0_r20 : List Cond := [xwd443, xwd444, xwd888, xwd89, xwd90, xwd91, xwd80, Cond.methodLink RL 248 yX5_pour, Cond.instanceMethod yX5_pour, Cond.selects RX5 yX5_pour yX5_pour, Cond.code yX5_pour cX5_pour 4 (some .int), xwd714, xwd715, xwd716, xwd717, xwd718, xwd719, xwd720, xwd721, Cond.methodLink RL 249 yL_copy, Cond.static yL_copy, Cond.codeWith yL_copy cL_copy 5 (some .int) [(0, 11, 14, 19), (0, 11, 18, 21)], xwd889, xwd890]
noncomputable def wsL_law0_r21 : List Cond := [xwd891, xwd892, xwd445, xwd893, xwd894, xwd895, xwd896, xwd84, xwd85, xwd86, xwd87, xwd88, xwd446, xwd376, xwd377, xwd378, xwd379, xwd371, xwd380, xwd381, xwd382, xwd354, xwd383, xwd350]
noncomputable def wsL_law0_r22 : List Cond := [xwd897, xwd898, xwd899, xwd900, xwd448, xwd449, xwd450, xwd451, xwd452, Cond.methodLink RL 251 yX5_copy, Cond.instanceMethod yX5_copy, Cond.selects RX5 yX5_copy yX5_copy, Cond.code yX5_copy cX5_copy 5 (some .int), xwd723, xwd724, xwd725, xwd726, xwd727, Cond.methodLink RL 252 yL_thin, Cond.static yL_thin, Cond.codeWith yL_thin cL_thin 6 (some .int) [(0, 13, 16, 19), (0, 13, 20, 21)], xwd901, xwd902, xwd903]
noncomputable def wsL_law0_r23 : List Cond := [xwd904, xwd905, xwd906, xwd907, xwd908, Cond.methodLink RL 255 yX5_thin, Cond.instanceMethod yX5_thin, Cond.selects RX5 yX5_thin yX5_thin, Cond.code yX5_thin cX5_thin 6 (some .int), Cond.methodLink RL 256 yL_head, Cond.static yL_head, Cond.codeWith yL_head cL_head 6 (some .int) [(0, 13, 16, 19), (0, 13, 20, 21), (0, 13, 24, 67)], xwd909, xwd910, xwd911, xwd912, xwd454, xwd455, xwd456, xwd457, xwd458, xwd459, xwd460, xwd461]
noncomputable def wsL_law0_r24 : List Cond := [xwd462, xwd356, xwd463, xwd362, xwd369, xwd464, xwd465, xwd466, xwd467, Cond.methodLink RL 258 yX5_head, Cond.instanceMethod yX5_head, Cond.selects RX5 yX5_head yX5_head, Cond.code yX5_head cX5_head 4 (some .int), xwd729, xwd730, xwd731, xwd732, xwd733, xwd734, xwd735, xwd736, Cond.methodLink RL 259 yL_tail, Cond.static yL_tail, Cond.codeWith yL_tail cL_tail 6 (some .int) [(0, 13, 16, 19), (0, 13, 20, 21), (0, 13, 24, 67)]]
noncomputable def wsL_law0_r25 : List Cond := [xwd913, xwd914, xwd915, xwd916, Cond.methodLink RL 261 yX5_tail, Cond.instanceMethod yX5_tail, Cond.selects RX5 yX5_tail yX5_tail, Cond.code yX5_tail cX5_tail 4 (some .int), Cond.methodLink RL 262 yL_sub, Cond.static yL_sub, Cond.codeWith yL_sub cL_sub 8 (some .int) [(0, 17, 20, 19), (0, 17, 24, 21), (0, 17, 28, 67)], xwd917, xwd918, xwd919, xwd920, xwd468, xwd469, xwd470, xwd471, xwd472, xwd473, xwd474, xwd475, xwd476]
noncomputable def wsL_law0_r26 : List Cond := [xwd93, xwd94, xwd95, Cond.methodLink RL 265 yX5_sub, Cond.instanceMethod yX5_sub, Cond.selects RX5 yX5_sub yX5_sub, Cond.code yX5_sub cX5_sub 7 (some .int), Cond.methodLink RL 266 yL_part, Cond.static yL_part, Cond.codeWith yL_part cL_part 8 (some .int) [(0, 17, 20, 19), (0, 17, 24, 21), (0, 17, 28, 67)], xwd921, xwd922, xwd923, xwd924, xwd477, xwd478, xwd479, xwd480, xwd481, xwd366, xwd367, xwd368, Cond.methodLink RL 268 yX5_part, Cond.instanceMethod yX5_part]
noncomputable def wsL_law0_r27 : List Cond := [Cond.selects RX5 yX5_part yX5_part, Cond.code yX5_part cX5_part 7 (some .int), xwd737, xwd738, xwd739, xwd740, Cond.methodLink RL 269 yL_shut, Cond.static yL_shut, Cond.codeWith yL_shut cL_shut 4 (some .int) [(0, 10, 13, 19)], xwd925, xwd926, xwd927, xwd928, xwd482, xwd483, xwd484, xwd485, xwd358, xwd359, xwd360, xwd361, xwd357, xwd351, xwd352]
noncomputable def wsL_law0_r28 : List Cond := [xwd353, xwd355, Cond.methodLink RL 271 yX5_shut, Cond.instanceMethod yX5_shut, Cond.selects RX5 yX5_shut yX5_shut, Cond.code yX5_shut cX5_shut 3 (some .int), Cond.methodLink RL 272 yL_viewPut, Cond.static yL_viewPut, Cond.codeWith yL_viewPut cL_viewPut 6 (some .int) [(0, 13, 16, 19), (0, 13, 20, 21)], xwd929, xwd930, xwd931, xwd932, xwd486, xwd487, xwd488, xwd489, Cond.methodLink RL 274 yX5_viewPut, Cond.instanceMethod yX5_viewPut, Cond.selects RX5 yX5_viewPut yX5_viewPut, Cond.code yX5_viewPut cX5_viewPut 4 (some .int), Cond.methodLink RL 275 yL_viewStrike, Cond.static yL_viewStrike, Cond.codeWith yL_viewStrike cL_viewStrike 5 (some .int) [(0, 11, 14, 19), (0, 11, 18, 21)]]
noncomputable def wsL_law0_r29 : List Cond := [xwd933, xwd934, xwd935, xwd936, Cond.methodLink RL 277 yX5_viewStrike, Cond.instanceMethod yX5_viewStrike, Cond.selects RX5 yX5_viewStrike yX5_viewStrike, Cond.code yX5_viewStrike cX5_viewStrike 3 (some .int), Cond.methodLink RL 278 yL_viewMerge, Cond.static yL_viewMerge, Cond.codeWith yL_viewMerge cL_viewMerge 6 (some .int) [(0, 13, 16, 19), (0, 13, 20, 21)], xwd937, xwd938, xwd939, xwd940, Cond.methodLink RL 280 yX5_viewMerge, Cond.instanceMethod yX5_viewMerge, Cond.selects RX5 yX5_viewMerge yX5_viewMerge, Cond.code yX5_viewMerge cX5_viewMerge 4 (some .int), Cond.methodLink RL 281 yL_viewPoll, Cond.static yL_viewPoll, Cond.codeWith yL_viewPoll cL_viewPoll 5 (some .int) [(0, 11, 14, 19)], xwd941, xwd942]
noncomputable def wsL_law0_r30 : List Cond := [xwd943, xwd944, xwd490, xwd491, Cond.methodLink RL 283 yX5_viewPoll, Cond.instanceMethod yX5_viewPoll, Cond.selects RX5 yX5_viewPoll yX5_viewPoll, Cond.code yX5_viewPoll cX5_viewPoll 4 (some .int), Cond.methodLink RL 284 yL_viewClear, Cond.static yL_viewClear, Cond.codeWith yL_viewClear cL_viewClear 4 (some .int) [(0, 10, 13, 19)], xwd945, xwd946, xwd947, xwd948, Cond.methodLink RL 286 yX5_viewClear, Cond.instanceMethod yX5_viewClear, Cond.selects RX5 yX5_viewClear yX5_viewClear, Cond.code yX5_viewClear cX5_viewClear 2 (some .int), Cond.methodLink RL 287 yL_walk, Cond.static yL_walk, Cond.codeWith yL_walk cL_walk 4 (some .int) [(0, 10, 13, 19)], xwd949, xwd950]
noncomputable def wsL_law0_r31 : List Cond := [xwd951, xwd952, xwd498, xwd499, xwd500, xwd501, xwd492, xwd493, xwd494, xwd495, xwd496, xwd497, xwd370, xwd392, xwd394, xwd395, xwd396, xwd397, Cond.methodLink RL 289 yX5_walk, Cond.instanceMethod yX5_walk, Cond.selects RX5 yX5_walk yX5_walk, Cond.code yX5_walk cX5_walk 2 (some .int), Cond.methodLink RL 290 yL_viewWalk, Cond.static yL_viewWalk]
noncomputable def wsL_law0_r32 : List Cond := [Cond.codeWith yL_viewWalk cL_viewWalk 4 (some .int) [(0, 10, 13, 19)], xwd953, xwd954, xwd955, xwd956, Cond.methodLink RL 292 yX5_viewWalk, Cond.instanceMethod yX5_viewWalk, Cond.selects RX5 yX5_viewWalk yX5_viewWalk, Cond.code yX5_viewWalk cX5_viewWalk 2 (some .int), Cond.methodLink RX5 182 ⟨"[I", "clone", "()Ljava/lang/Object;"⟩, Cond.sameMethod "[I" "java/lang/Object" "clone" "()Ljava/lang/Object;", xwd124, xwd125, Cond.selects "[I" ⟨"[I", "clone", "()Ljava/lang/Object;"⟩ ⟨"java/lang/Object", "clone", "()Ljava/lang/Object;"⟩, Cond.methodLink RL 293 yL_step, Cond.static yL_step, Cond.codeWith yL_step cL_step 3 (some .int) [(0, 9, 12, 67)], xwd957, xwd958, xwd959, xwd960, xwd506, xwd507, xwd508]
noncomputable def wsL_law0_r33 : List Cond := [xwd509, xwd502, xwd503, xwd504, xwd505, xwd375, xwd961, xwd962, xwd963, xwd964, xwd372, xwd373, xwd374, xwd384, xwd41, xwd42, xwd43, xwd385, xwd386, xwd387, xwd388, xwd389, xwd390, Cond.methodLink RL 296 yX5_step]
noncomputable def wsL_law0_r34 : List Cond := [Cond.instanceMethod yX5_step, Cond.selects RX5 yX5_step yX5_step, Cond.code yX5_step cX5_step 2 (some .int), Cond.methodLink RL 297 yL_write, Cond.static yL_write, Cond.codeWith yL_write cL_write 4 (some .int) [(0, 10, 13, 21), (0, 10, 16, 67)], xwd965, xwd966, xwd967, xwd968, xwd510, xwd511, xwd512, xwd513, Cond.methodLink RL 299 yX5_write, Cond.instanceMethod yX5_write, Cond.selects RX5 yX5_write yX5_write, Cond.code yX5_write cX5_write 2 (some .int), Cond.methodLink RL 300 yL_drop, Cond.static yL_drop, Cond.codeWith yL_drop cL_drop 3 (some .int) [(0, 9, 12, 67)], xwd969, xwd970, xwd971]
noncomputable def wsL_law0_r35 : List Cond := [xwd972, xwd973, xwd974, xwd975, xwd976, xwd977, xwd978, xwd979, xwd980, xwd393, Cond.methodLink RL 302 yX5_drop, Cond.instanceMethod yX5_drop, Cond.selects RX5 yX5_drop yX5_drop, Cond.code yX5_drop cX5_drop 1 (some .int), Cond.methodLink RL 303 yL_keep, Cond.static yL_keep, Cond.codeWith yL_keep cL_keep 5 (some .int) [(0, 11, 14, 19)], xwd981, xwd982, xwd983, xwd984, xwd516, xwd517, Cond.methodLink RL 305 yX5_keep]
noncomputable def wsL_law0_r36 : List Cond := [Cond.instanceMethod yX5_keep, Cond.selects RX5 yX5_keep yX5_keep, Cond.code yX5_keep cX5_keep 4 (some .int), Cond.methodLink RL 306 yL_brand, Cond.static yL_brand, Cond.codeWith yL_brand cL_brand 4 (some .int) [(0, 10, 13, 21)], Cond.methodLink RL 133 yX3_brand, Cond.instanceMethod yX3_brand, Cond.selects RX3 yX3_brand yX3_brand, Cond.code yX3_brand cX3_brand 2 (some .int), Cond.methodLink RL 308 yX5_brand, Cond.instanceMethod yX5_brand, Cond.selects RX5 yX5_brand yX5_brand, Cond.code yX5_brand cX5_brand 2 (some .int), Cond.methodLink RL 309 yX3_knock, Cond.instanceMethod yX3_knock, Cond.selects RX3 yX3_knock yX3_knock, Cond.code yX3_knock cX3_knock 1 (some .int), xwd561, Cond.methodLink RL 312 yX5_knock, Cond.instanceMethod yX5_knock, Cond.selects RX5 yX5_knock yX5_knock, Cond.code yX5_knock cX5_knock 1 (some .int), xwd783]
noncomputable def wsL_law0_r37 : List Cond := [Cond.methodLink RL 313 yL_get, Cond.static yL_get, Cond.codeWith yL_get cL_get 5 (some .int) [(0, 11, 14, 19), (0, 11, 18, 21)], xwd985, xwd986, xwd987, xwd988, Cond.methodLink RL 315 yX5_get, Cond.instanceMethod yX5_get, Cond.selects RX5 yX5_get yX5_get, Cond.code yX5_get cX5_get 3 (some .int), Cond.methodLink RL 316 yL_getOr, Cond.static yL_getOr, Cond.codeWith yL_getOr cL_getOr 6 (some .int) [(0, 13, 16, 19), (0, 13, 20, 21)], xwd989, xwd990, xwd991, xwd992, Cond.methodLink RL 318 yX5_getOr, Cond.instanceMethod yX5_getOr, Cond.selects RX5 yX5_getOr yX5_getOr, Cond.code yX5_getOr cX5_getOr 4 (some .int), Cond.methodLink RL 319 yL_has, Cond.static yL_has]
noncomputable def wsL_law0_r38 : List Cond := [Cond.codeWith yL_has cL_has 5 (some .int) [(0, 18, 21, 19), (0, 18, 25, 21)], xwd993, xwd994, xwd995, xwd996, Cond.methodLink RL 321 yX5_has, Cond.instanceMethod yX5_has, Cond.selects RX5 yX5_has yX5_has, Cond.code yX5_has cX5_has 3 (some .boolean), Cond.methodLink RL 322 yL_hasValue, Cond.static yL_hasValue, Cond.codeWith yL_hasValue cL_hasValue 5 (some .int) [(0, 18, 21, 19), (0, 18, 25, 21)], xwd997, xwd998, xwd999, xwd1000, Cond.methodLink RL 324 yX5_hasValue, Cond.instanceMethod yX5_hasValue, Cond.selects RX5 yX5_hasValue yX5_hasValue, Cond.code yX5_hasValue cX5_hasValue 3 (some .boolean), Cond.methodLink RL 325 yL_ofBook, Cond.static yL_ofBook, Cond.codeWith yL_ofBook cL_ofBook 5 (some .int) [(0, 11, 14, 19), (0, 11, 18, 21)], xwd1001]
noncomputable def wsL_law0_r39 : List Cond := [xwd576, xwd577, xwd578, xwd518, xwd519, xwd520, xwd521, xwd522, xwd523, xwd524, xwd525, xwd526, xwd527, xwd528, xwd529, xwd530, Cond.methodLink RL 327 yX5_ofBook, Cond.instanceMethod yX5_ofBook, Cond.selects RX5 yX5_ofBook yX5_ofBook, Cond.code yX5_ofBook cX5_ofBook 3 (some .int), xwd759, xwd760, xwd761, xwd762]
noncomputable def wsL_law0_r40 : List Cond := [xwd743, xwd744, xwd745, xwd746, xwd747, xwd748, xwd749, xwd750, xwd751, xwd752, xwd753, xwd754, xwd755, xwd756, xwd757, xwd758, Cond.methodLink RL 328 yL_near, Cond.static yL_near, Cond.codeWith yL_near cL_near 6 (some .int) [(0, 13, 16, 19), (0, 13, 20, 21)], xwd1002, xwd584, xwd585, xwd586, xwd531]
noncomputable def wsL_law0_r41 : List Cond := [xwd97, xwd98, xwd99, xwd40, Cond.methodLink RL 330 yX5_near, Cond.instanceMethod yX5_near, Cond.selects RX5 yX5_near yX5_near, Cond.code yX5_near cX5_near 4 (some .int), xwd763, xwd764, xwd765, xwd766, xwd647, xwd648, xwd649, xwd650, Cond.methodLink RL 331 yL_place, Cond.static yL_place, Cond.codeWith yL_place cL_place 5 (some .int) [(0, 11, 14, 19), (0, 11, 18, 21)], xwd1003, xwd1004, xwd1005, xwd1006, xwd1007]
noncomputable def wsL_law0_r42 : List Cond := [Cond.methodLink RL 333 yX5_place, Cond.instanceMethod yX5_place, Cond.selects RX5 yX5_place yX5_place, Cond.code yX5_place cX5_place 3 (some .int), xwd767, xwd768, xwd769, xwd770, Cond.methodLink RL 334 yL_at, Cond.static yL_at, Cond.codeWith yL_at cL_at 5 (some .int) [(0, 11, 14, 19), (0, 11, 18, 21)], xwd1008, xwd1009, xwd1010, xwd1011, Cond.methodLink RL 336 yX5_at, Cond.instanceMethod yX5_at, Cond.selects RX5 yX5_at yX5_at, Cond.code yX5_at cX5_at 4 (some .int), Cond.methodLink RL 337 yL_row, Cond.static yL_row, Cond.codeWith yL_row cL_row 4 (some .int) [(0, 9, 12, 19)], xwd1012, xwd1013]
noncomputable def wsL_law0_r43 : List Cond := [xwd1014, xwd1015, xwd532, xwd533, xwd534, xwd535, xwd326, xwd281, xwd282, xwd327, xwd328, xwd329, xwd330, xwd331, xwd106, xwd332, xwd333, xwd162, xwd128, xwd100, xwd101, xwd163, xwd164, xwd133]
noncomputable def wsL_law0_r44 : List Cond := [xwd165, xwd166, xwd167, xwd168, xwd169, xwd334, xwd335, xwd336, xwd337, xwd199, xwd200, xwd201, xwd202, xwd203, xwd156, xwd174, xwd175, xwd176, xwd177, xwd178, xwd102, xwd103, xwd104, xwd105]
noncomputable def wsL_law0_r45 : List Cond := [xwd107, xwd108, xwd109, xwd110, xwd111, xwd112, xwd113, xwd114, xwd115, xwd116, xwd117, xwd118, xwd119, xwd120, xwd121, xwd122, xwd123, xwd126, xwd127, xwd129, xwd130, xwd157, xwd158, xwd159]
noncomputable def wsL_law0_r46 : List Cond := [xwd160, xwd161, xwd179, xwd180, xwd172, xwd181, xwd182, xwd183, xwd184, xwd185, xwd186, xwd170, xwd171, xwd173, xwd131, xwd132, xwd134, xwd135, xwd136, xwd137, xwd138, xwd139, xwd140, xwd141]
noncomputable def wsL_law0_r47 : List Cond := [xwd142, xwd143, xwd144, xwd145, xwd146, xwd147, xwd148, xwd149, xwd150, xwd151, xwd152, xwd153, xwd154, xwd155, xwd187, xwd188, xwd189, xwd190, xwd191, xwd192, xwd193, xwd194, xwd195, xwd196]
noncomputable def wsL_law0_r48 : List Cond := [xwd197, xwd198, xwd338, xwd339, xwd340, xwd341, xwd249, xwd250, xwd251, xwd252, xwd235, xwd236, xwd237, xwd238, xwd239, xwd204, xwd205, xwd206, xwd207, xwd208, xwd209, xwd210, xwd211, xwd212]
noncomputable def wsL_law0_r49 : List Cond := [xwd213, xwd214, xwd215, xwd240, xwd241, xwd242, xwd243, xwd222, xwd224, xwd217, xwd218, xwd219, xwd220, xwd221, xwd244, xwd245, xwd246, xwd247, xwd248, xwd226, xwd227, xwd228, xwd229, xwd230]
noncomputable def wsL_law0_r50 : List Cond := [xwd216, xwd231, xwd232, xwd233, xwd234, xwd223, xwd225, xwd342, xwd343, xwd344, xwd345, xwd270, xwd271, xwd272, xwd273, xwd258, xwd259, xwd260, xwd261, xwd262, xwd263, xwd264, xwd265, xwd266]
noncomputable def wsL_law0_r51 : List Cond := [xwd267, xwd268, xwd269, xwd253, xwd254, xwd255, xwd256, xwd257, xwd346, xwd347, xwd348, xwd349, xwd321, xwd322, xwd323, xwd324, xwd325, xwd318, xwd319, xwd320, xwd292, xwd295, xwd296, xwd297]
noncomputable def wsL_law0_r52 : List Cond := [xwd298, xwd299, xwd300, xwd301, xwd302, xwd303, xwd304, xwd305, xwd306, xwd307, xwd308, xwd309, xwd310, xwd311, xwd290, xwd291, xwd274, xwd275, xwd276, xwd277, xwd278, xwd279, xwd280, xwd312]
noncomputable def wsL_law0_r53 : List Cond := [xwd313, xwd314, xwd283, xwd284, xwd285, xwd286, xwd287, xwd288, xwd289, xwd315, xwd316, xwd317, Cond.methodLink RL 339 yX5_row, Cond.instanceMethod yX5_row, Cond.selects RX5 yX5_row yX5_row, Cond.code yX5_row cX5_row 2 (some (.object "java/lang/String")), xwd771, xwd772, xwd773, xwd774, xwd615, xwd617, xwd618, xwd619]
noncomputable def wsL_law0_r54 : List Cond := [xwd612, xwd613, xwd614, xwd606, xwd607, xwd608, xwd609, xwd610, xwd611, xwd605, xwd643, xwd644, xwd645, xwd646, xwd651, Cond.methodLink RL 340 yL_same, Cond.static yL_same, Cond.codeWith yL_same cL_same 5 (some .int) [(0, 18, 21, 19)], xwd1016, xwd1017, xwd1018, xwd1019, xwd536, xwd537]
noncomputable def wsL_law0_r55 : List Cond := [xwd538, xwd539, Cond.methodLink RL 342 yX5_same, Cond.instanceMethod yX5_same, Cond.selects RX5 yX5_same yX5_same, Cond.code yX5_same cX5_same 3 (some .boolean), xwd788, xwd789, xwd790, xwd791, Cond.methodLink RL 343 yL_viewGet, Cond.static yL_viewGet, Cond.codeWith yL_viewGet cL_viewGet 5 (some .int) [(0, 11, 14, 19), (0, 11, 18, 21)], xwd1020, xwd1021, xwd1022, xwd1023, Cond.methodLink RL 345 yX5_viewGet, Cond.instanceMethod yX5_viewGet, Cond.selects RX5 yX5_viewGet yX5_viewGet, Cond.code yX5_viewGet cX5_viewGet 3 (some .int), Cond.methodLink RL 346 yL_ofView, Cond.static yL_ofView, Cond.codeWith yL_ofView cL_ofView 5 (some .int) [(0, 11, 14, 19), (0, 11, 18, 21)]]
noncomputable def wsL_law0_r56 : List Cond := [xwd1024, xwd588, xwd589, xwd590, xwd540, xwd541, xwd542, xwd543, xwd545, xwd546, xwd547, xwd548, xwd549, xwd550, xwd551, xwd552, xwd553, xwd554, xwd555, xwd556, xwd557, xwd558, xwd559, xwd560]
noncomputable def wsL_law0_r57 : List Cond := [Cond.methodLink RL 348 yX5_ofView, Cond.instanceMethod yX5_ofView, Cond.selects RX5 yX5_ofView yX5_ofView, Cond.code yX5_ofView cX5_ofView 3 (some .int), xwd775, xwd776, xwd777, xwd778, Cond.methodLink RL 349 yL_viewNear, Cond.static yL_viewNear, Cond.codeWith yL_viewNear cL_viewNear 6 (some .int) [(0, 13, 16, 19), (0, 13, 20, 21)], xwd1025, xwd592, xwd593, xwd594, Cond.methodLink RL 351 yX5_viewNear, Cond.instanceMethod yX5_viewNear, Cond.selects RX5 yX5_viewNear yX5_viewNear, Cond.code yX5_viewNear cX5_viewNear 4 (some .int), Cond.methodLink RL 352 yL_viewRow, Cond.static yL_viewRow, Cond.codeWith yL_viewRow cL_viewRow 4 (some .int) [(0, 9, 12, 19)], xwd1026, xwd1027]
noncomputable def wsL_law0_r58 : List Cond := [xwd1028, xwd1029, Cond.methodLink RL 354 yX5_viewRow, Cond.instanceMethod yX5_viewRow, Cond.selects RX5 yX5_viewRow yX5_viewRow, Cond.code yX5_viewRow cX5_viewRow 2 (some (.object "java/lang/String")), Cond.methodLink RL 355 yL_ledger, Cond.static yL_ledger, Cond.codeWith yL_ledger cL_ledger 4 (some .int) [(0, 10, 13, 21)], xwd1030, xwd1031, xwd1032, xwd1033, Cond.methodLink RL 357 yX5_ledger, Cond.instanceMethod yX5_ledger, Cond.selects RX5 yX5_ledger yX5_ledger, Cond.code yX5_ledger cX5_ledger 2 (some .int), xwd779, xwd780, xwd781, xwd782, Cond.methodLink RL 358 yX3_isSound, Cond.instanceMethod yX3_isSound, Cond.selects RX3 yX3_isSound yX3_isSound]
noncomputable def wsL_law0_r59 : List Cond := [Cond.code yX3_isSound cX3_isSound 3 (some .boolean), xwd562, xwd563, xwd564, xwd565, xwd363, xwd364, xwd365, xwd566, xwd567, xwd568, xwd569, xwd92, xwd96, xwd570, xwd571, xwd572, xwd573, xwd574, Cond.methodLink RL 362 yX5_isSound, Cond.instanceMethod yX5_isSound, Cond.selects RX5 yX5_isSound yX5_isSound, Cond.code yX5_isSound cX5_isSound 1 (some .boolean), xwd792]
noncomputable def wsL_law0_r60 : List Cond := [xwd793, xwd794, xwd795, xwd784, xwd785, xwd786, xwd787, Cond.methodLink RL 363 yX3_digest, Cond.instanceMethod yX3_digest, Cond.selects RX3 yX3_digest yX3_digest, Cond.code yX3_digest cX3_digest 4 (some .long), Cond.constantLong RX3 272 (6007), Cond.methodLink RX3 274 yX3_ledger, xwd579, xwd580, xwd581, xwd582, Cond.methodLink RX3 281 yX3_mixedWithBook, Cond.instanceMethod yX3_mixedWithBook, Cond.selects RX3 yX3_mixedWithBook yX3_mixedWithBook, Cond.code yX3_mixedWithBook cX3_mixedWithBook 8 (some .long), xwd575, xwd583, Cond.methodLink RX3 285 yX3_mixedWithView]
noncomputable def wsL_law0_r61 : List Cond := [Cond.instanceMethod yX3_mixedWithView, Cond.selects RX3 yX3_mixedWithView yX3_mixedWithView, Cond.code yX3_mixedWithView cX3_mixedWithView 8 (some .long), xwd587, xwd591, xwd595, xwd596, xwd597, xwd598, xwd599, xwd600, xwd601, xwd602, xwd603, xwd604, Cond.methodLink RX3 288 yX3_isSound, Cond.methodLink RL 367 yX5_digest, Cond.instanceMethod yX5_digest, Cond.selects RX5 yX5_digest yX5_digest, Cond.code yX5_digest cX5_digest 6 (some .long), Cond.constantLong RX5 235 (6007), Cond.methodLink RX5 237 yX5_add, Cond.static yX5_add, Cond.code yX5_add cX5_add 4 (some .long)]
noncomputable def wsL_law0_r62 : List Cond := [Cond.constantLong RX5 233 (31), Cond.methodLink RX5 241 yJ0_length_8abf5]
noncomputable def wsL_law0 : List Cond := (wsL_law0_r1 ++ (wsL_law0_r2 ++ (wsL_law0_r3 ++ (wsL_law0_r4 ++ (wsL_law0_r5 ++ (wsL_law0_r6 ++ (wsL_law0_r7 ++ (wsL_law0_r8 ++ (wsL_law0_r9 ++ (wsL_law0_r10 ++ (wsL_law0_r11 ++ (wsL_law0_r12 ++ (wsL_law0_r13 ++ (wsL_law0_r14 ++ (wsL_law0_r15 ++ (wsL_law0_r16 ++ (wsL_law0_r17 ++ (wsL_law0_r18 ++ (wsL_law0_r19 ++ (wsL_law0_r20 ++ (wsL_law0_r21 ++ (wsL_law0_r22 ++ (wsL_law0_r23 ++ (wsL_law0_r24 ++ (wsL_law0_r25 ++ (wsL_law0_r26 ++ (wsL_law0_r27 ++ (wsL_law0_r28 ++ (wsL_law0_r29 ++ (wsL_law0_r30 ++ (wsL_law0_r31 ++ (wsL_law0_r32 ++ (wsL_law0_r33 ++ (wsL_law0_r34 ++ (wsL_law0_r35 ++ (wsL_law0_r36 ++ (wsL_law0_r37 ++ (wsL_law0_r38 ++ (wsL_law0_r39 ++ (wsL_law0_r40 ++ (wsL_law0_r41 ++ (wsL_law0_r42 ++ (wsL_law0_r43 ++ (wsL_law0_r44 ++ (wsL_law0_r45 ++ (wsL_law0_r46 ++ (wsL_law0_r47 ++ (wsL_law0_r48 ++ (wsL_law0_r49 ++ (wsL_law0_r50 ++ (wsL_law0_r51 ++ (wsL_law0_r52 ++ (wsL_law0_r53 ++ (wsL_law0_r54 ++ (wsL_law0_r55 ++ (wsL_law0_r56 ++ (wsL_law0_r57 ++ (wsL_law0_r58 ++ (wsL_law0_r59 ++ (wsL_law0_r60 ++ (wsL_law0_r61 ++ wsL_law0_r62))))))))))))))))))))))))))))))))))))))))))))))))))))))))))))) ++ wsX30 ++ wsX50 ++ wsX40 ++ wsX00 ++ wsX20 ++ wsX10 ++ wsJ40 ++ wsJ00 ++ ([] : List Cond)
noncomputable def wsL_law : List Cond := wsL_law0 ++ (vx_atS RX3 313 "java/lang/IndexOutOfBoundsException" ["java/lang/RuntimeException", "java/lang/Exception"]).filter goodWord ++ (vx_atS RX3 90 "java/lang/IllegalArgumentException" ["java/lang/RuntimeException", "java/lang/Exception"]).filter goodWord ++ (vx_atS RX3 108 "java/lang/IllegalStateException" ["java/lang/RuntimeException", "java/lang/Exception"]).filter goodWord
theorem adL_put_0 : fd_rows (cL_put.data.toList.drop 0) 0 [(0, some (.aload 4), 2), (2, some (.aload_n 0), 1), (3, some (.iload_n 1), 1), (4, some (.iload_n 2), 1), (5, some (.iload_n 3), 1), (6, some (.invokevirtual 7), 3), (9, some (.i2l), 1), (10, some (.putfield 13), 3), (13, some (.goto 11), 3), (16, some (.astore 5), 2), (18, some (.iconst 1), 1), (19, some (.ireturn), 1), (20, some (.astore 5), 2), (22, some (.iconst 2), 1), (23, some (.ireturn), 1), (24, some (.iconst 0), 1), (25, some (.ireturn), 1)] = true := by decide +kernel
theorem dL_put_0 : decode cL_put 0 = .ok (.aload 4, 2) := fd_get adL_put_0 (k := 0) rfl
theorem dL_put_2 : decode cL_put 2 = .ok (.aload_n 0, 1) := fd_get adL_put_0 (k := 1) rfl
theorem dL_put_3 : decode cL_put 3 = .ok (.iload_n 1, 1) := fd_get adL_put_0 (k := 2) rfl
theorem dL_put_4 : decode cL_put 4 = .ok (.iload_n 2, 1) := fd_get adL_put_0 (k := 3) rfl
theorem dL_put_5 : decode cL_put 5 = .ok (.iload_n 3, 1) := fd_get adL_put_0 (k := 4) rfl
theorem dL_put_6 : decode cL_put 6 = .ok (.invokevirtual 7, 3) := fd_get adL_put_0 (k := 5) rfl
theorem dL_put_9 : decode cL_put 9 = .ok (.i2l, 1) := fd_get adL_put_0 (k := 6) rfl
theorem dL_put_10 : decode cL_put 10 = .ok (.putfield 13, 3) := fd_get adL_put_0 (k := 7) rfl
theorem dL_put_13 : decode cL_put 13 = .ok (.goto 11, 3) := fd_get adL_put_0 (k := 8) rfl
theorem dL_put_16 : decode cL_put 16 = .ok (.astore 5, 2) := fd_get adL_put_0 (k := 9) rfl
theorem dL_put_18 : decode cL_put 18 = .ok (.iconst 1, 1) := fd_get adL_put_0 (k := 10) rfl
theorem dL_put_19 : decode cL_put 19 = .ok (.ireturn, 1) := fd_get adL_put_0 (k := 11) rfl
theorem dL_put_20 : decode cL_put 20 = .ok (.astore 5, 2) := fd_get adL_put_0 (k := 12) rfl
theorem dL_put_22 : decode cL_put 22 = .ok (.iconst 2, 1) := fd_get adL_put_0 (k := 13) rfl
theorem dL_put_23 : decode cL_put 23 = .ok (.ireturn, 1) := fd_get adL_put_0 (k := 14) rfl
theorem dL_put_24 : decode cL_put 24 = .ok (.iconst 0, 1) := fd_get adL_put_0 (k := 15) rfl
theorem dL_put_25 : decode cL_put 25 = .ok (.ireturn, 1) := fd_get adL_put_0 (k := 16) rfl
theorem adL_putAbsent_0 : fd_rows (cL_putAbsent.data.toList.drop 0) 0 [(0, some (.aload 4), 2), (2, some (.aload_n 0), 1), (3, some (.iload_n 1), 1), (4, some (.iload_n 2), 1), (5, some (.iload_n 3), 1), (6, some (.invokevirtual 23), 3), (9, some (.i2l), 1), (10, some (.putfield 13), 3), (13, some (.goto 11), 3), (16, some (.astore 5), 2), (18, some (.iconst 1), 1), (19, some (.ireturn), 1), (20, some (.astore 5), 2), (22, some (.iconst 2), 1), (23, some (.ireturn), 1), (24, some (.iconst 0), 1), (25, some (.ireturn), 1)] = true := by decide +kernel
theorem dL_putAbsent_0 : decode cL_putAbsent 0 = .ok (.aload 4, 2) := fd_get adL_putAbsent_0 (k := 0) rfl
theorem dL_putAbsent_2 : decode cL_putAbsent 2 = .ok (.aload_n 0, 1) := fd_get adL_putAbsent_0 (k := 1) rfl
theorem dL_putAbsent_3 : decode cL_putAbsent 3 = .ok (.iload_n 1, 1) := fd_get adL_putAbsent_0 (k := 2) rfl
theorem dL_putAbsent_4 : decode cL_putAbsent 4 = .ok (.iload_n 2, 1) := fd_get adL_putAbsent_0 (k := 3) rfl
theorem dL_putAbsent_5 : decode cL_putAbsent 5 = .ok (.iload_n 3, 1) := fd_get adL_putAbsent_0 (k := 4) rfl
theorem dL_putAbsent_6 : decode cL_putAbsent 6 = .ok (.invokevirtual 23, 3) := fd_get adL_putAbsent_0 (k := 5) rfl
theorem dL_putAbsent_9 : decode cL_putAbsent 9 = .ok (.i2l, 1) := fd_get adL_putAbsent_0 (k := 6) rfl
theorem dL_putAbsent_10 : decode cL_putAbsent 10 = .ok (.putfield 13, 3) := fd_get adL_putAbsent_0 (k := 7) rfl
theorem dL_putAbsent_13 : decode cL_putAbsent 13 = .ok (.goto 11, 3) := fd_get adL_putAbsent_0 (k := 8) rfl
theorem dL_putAbsent_16 : decode cL_putAbsent 16 = .ok (.astore 5, 2) := fd_get adL_putAbsent_0 (k := 9) rfl
theorem dL_putAbsent_18 : decode cL_putAbsent 18 = .ok (.iconst 1, 1) := fd_get adL_putAbsent_0 (k := 10) rfl
theorem dL_putAbsent_19 : decode cL_putAbsent 19 = .ok (.ireturn, 1) := fd_get adL_putAbsent_0 (k := 11) rfl
theorem dL_putAbsent_20 : decode cL_putAbsent 20 = .ok (.astore 5, 2) := fd_get adL_putAbsent_0 (k := 12) rfl
theorem dL_putAbsent_22 : decode cL_putAbsent 22 = .ok (.iconst 2, 1) := fd_get adL_putAbsent_0 (k := 13) rfl
theorem dL_putAbsent_23 : decode cL_putAbsent 23 = .ok (.ireturn, 1) := fd_get adL_putAbsent_0 (k := 14) rfl
theorem dL_putAbsent_24 : decode cL_putAbsent 24 = .ok (.iconst 0, 1) := fd_get adL_putAbsent_0 (k := 15) rfl
theorem dL_putAbsent_25 : decode cL_putAbsent 25 = .ok (.ireturn, 1) := fd_get adL_putAbsent_0 (k := 16) rfl
theorem adL_replace_0 : fd_rows (cL_replace.data.toList.drop 0) 0 [(0, some (.aload 4), 2), (2, some (.aload_n 0), 1), (3, some (.iload_n 1), 1), (4, some (.iload_n 2), 1), (5, some (.iload_n 3), 1), (6, some (.invokevirtual 26), 3), (9, some (.i2l), 1), (10, some (.putfield 13), 3), (13, some (.goto 11), 3), (16, some (.astore 5), 2), (18, some (.iconst 1), 1), (19, some (.ireturn), 1), (20, some (.astore 5), 2), (22, some (.iconst 2), 1), (23, some (.ireturn), 1), (24, some (.iconst 0), 1), (25, some (.ireturn), 1)] = true := by decide +kernel
theorem dL_replace_0 : decode cL_replace 0 = .ok (.aload 4, 2) := fd_get adL_replace_0 (k := 0) rfl
theorem dL_replace_2 : decode cL_replace 2 = .ok (.aload_n 0, 1) := fd_get adL_replace_0 (k := 1) rfl
theorem dL_replace_3 : decode cL_replace 3 = .ok (.iload_n 1, 1) := fd_get adL_replace_0 (k := 2) rfl
theorem dL_replace_4 : decode cL_replace 4 = .ok (.iload_n 2, 1) := fd_get adL_replace_0 (k := 3) rfl
theorem dL_replace_5 : decode cL_replace 5 = .ok (.iload_n 3, 1) := fd_get adL_replace_0 (k := 4) rfl
theorem dL_replace_6 : decode cL_replace 6 = .ok (.invokevirtual 26, 3) := fd_get adL_replace_0 (k := 5) rfl
theorem dL_replace_9 : decode cL_replace 9 = .ok (.i2l, 1) := fd_get adL_replace_0 (k := 6) rfl
theorem dL_replace_10 : decode cL_replace 10 = .ok (.putfield 13, 3) := fd_get adL_replace_0 (k := 7) rfl
theorem dL_replace_13 : decode cL_replace 13 = .ok (.goto 11, 3) := fd_get adL_replace_0 (k := 8) rfl
theorem dL_replace_16 : decode cL_replace 16 = .ok (.astore 5, 2) := fd_get adL_replace_0 (k := 9) rfl
theorem dL_replace_18 : decode cL_replace 18 = .ok (.iconst 1, 1) := fd_get adL_replace_0 (k := 10) rfl
theorem dL_replace_19 : decode cL_replace 19 = .ok (.ireturn, 1) := fd_get adL_replace_0 (k := 11) rfl
theorem dL_replace_20 : decode cL_replace 20 = .ok (.astore 5, 2) := fd_get adL_replace_0 (k := 12) rfl
theorem dL_replace_22 : decode cL_replace 22 = .ok (.iconst 2, 1) := fd_get adL_replace_0 (k := 13) rfl
theorem dL_replace_23 : decode cL_replace 23 = .ok (.ireturn, 1) := fd_get adL_replace_0 (k := 14) rfl
theorem dL_replace_24 : decode cL_replace 24 = .ok (.iconst 0, 1) := fd_get adL_replace_0 (k := 15) rfl
theorem dL_replace_25 : decode cL_replace 25 = .ok (.ireturn, 1) := fd_get adL_replace_0 (k := 16) rfl
theorem adL_swap_0 : fd_rows (cL_swap.data.toList.drop 0) 0 [(0, some (.aload 5), 2), (2, some (.aload_n 0), 1), (3, some (.iload_n 1), 1), (4, some (.iload_n 2), 1), (5, some (.iload_n 3), 1), (6, some (.iload 4), 2), (8, some (.invokevirtual 29), 3), (11, some (.ifCond .eq 7), 3), (14, some (.lconst 1), 1), (15, some (.goto 4), 3), (18, some (.lconst 0), 1), (19, some (.putfield 13), 3), (22, some (.goto 11), 3), (25, some (.astore 6), 2), (27, some (.iconst 1), 1), (28, some (.ireturn), 1), (29, some (.astore 6), 2), (31, some (.iconst 2), 1), (32, some (.ireturn), 1), (33, some (.iconst 0), 1), (34, some (.ireturn), 1)] = true := by decide +kernel
theorem dL_swap_0 : decode cL_swap 0 = .ok (.aload 5, 2) := fd_get adL_swap_0 (k := 0) rfl
theorem dL_swap_2 : decode cL_swap 2 = .ok (.aload_n 0, 1) := fd_get adL_swap_0 (k := 1) rfl
theorem dL_swap_3 : decode cL_swap 3 = .ok (.iload_n 1, 1) := fd_get adL_swap_0 (k := 2) rfl
theorem dL_swap_4 : decode cL_swap 4 = .ok (.iload_n 2, 1) := fd_get adL_swap_0 (k := 3) rfl
theorem dL_swap_5 : decode cL_swap 5 = .ok (.iload_n 3, 1) := fd_get adL_swap_0 (k := 4) rfl
theorem dL_swap_6 : decode cL_swap 6 = .ok (.iload 4, 2) := fd_get adL_swap_0 (k := 5) rfl
theorem dL_swap_8 : decode cL_swap 8 = .ok (.invokevirtual 29, 3) := fd_get adL_swap_0 (k := 6) rfl
theorem dL_swap_11 : decode cL_swap 11 = .ok (.ifCond .eq 7, 3) := fd_get adL_swap_0 (k := 7) rfl
theorem dL_swap_14 : decode cL_swap 14 = .ok (.lconst 1, 1) := fd_get adL_swap_0 (k := 8) rfl
theorem dL_swap_15 : decode cL_swap 15 = .ok (.goto 4, 3) := fd_get adL_swap_0 (k := 9) rfl
theorem dL_swap_18 : decode cL_swap 18 = .ok (.lconst 0, 1) := fd_get adL_swap_0 (k := 10) rfl
theorem dL_swap_19 : decode cL_swap 19 = .ok (.putfield 13, 3) := fd_get adL_swap_0 (k := 11) rfl
theorem dL_swap_22 : decode cL_swap 22 = .ok (.goto 11, 3) := fd_get adL_swap_0 (k := 12) rfl
theorem dL_swap_25 : decode cL_swap 25 = .ok (.astore 6, 2) := fd_get adL_swap_0 (k := 13) rfl
theorem dL_swap_27 : decode cL_swap 27 = .ok (.iconst 1, 1) := fd_get adL_swap_0 (k := 14) rfl
theorem dL_swap_28 : decode cL_swap 28 = .ok (.ireturn, 1) := fd_get adL_swap_0 (k := 15) rfl
theorem dL_swap_29 : decode cL_swap 29 = .ok (.astore 6, 2) := fd_get adL_swap_0 (k := 16) rfl
theorem dL_swap_31 : decode cL_swap 31 = .ok (.iconst 2, 1) := fd_get adL_swap_0 (k := 17) rfl
theorem dL_swap_32 : decode cL_swap 32 = .ok (.ireturn, 1) := fd_get adL_swap_0 (k := 18) rfl
theorem dL_swap_33 : decode cL_swap 33 = .ok (.iconst 0, 1) := fd_get adL_swap_0 (k := 19) rfl
theorem dL_swap_34 : decode cL_swap 34 = .ok (.ireturn, 1) := fd_get adL_swap_0 (k := 20) rfl
theorem adL_strike_0 : fd_rows (cL_strike.data.toList.drop 0) 0 [(0, some (.aload_n 3), 1), (1, some (.aload_n 0), 1), (2, some (.iload_n 1), 1), (3, some (.iload_n 2), 1), (4, some (.invokevirtual 33), 3), (7, some (.i2l), 1), (8, some (.putfield 13), 3), (11, some (.goto 11), 3), (14, some (.astore 4), 2), (16, some (.iconst 1), 1), (17, some (.ireturn), 1), (18, some (.astore 4), 2), (20, some (.iconst 2), 1), (21, some (.ireturn), 1), (22, some (.iconst 0), 1), (23, some (.ireturn), 1)] = true := by decide +kernel
theorem dL_strike_0 : decode cL_strike 0 = .ok (.aload_n 3, 1) := fd_get adL_strike_0 (k := 0) rfl
theorem dL_strike_1 : decode cL_strike 1 = .ok (.aload_n 0, 1) := fd_get adL_strike_0 (k := 1) rfl
theorem dL_strike_2 : decode cL_strike 2 = .ok (.iload_n 1, 1) := fd_get adL_strike_0 (k := 2) rfl
theorem dL_strike_3 : decode cL_strike 3 = .ok (.iload_n 2, 1) := fd_get adL_strike_0 (k := 3) rfl
theorem dL_strike_4 : decode cL_strike 4 = .ok (.invokevirtual 33, 3) := fd_get adL_strike_0 (k := 4) rfl
theorem dL_strike_7 : decode cL_strike 7 = .ok (.i2l, 1) := fd_get adL_strike_0 (k := 5) rfl
theorem dL_strike_8 : decode cL_strike 8 = .ok (.putfield 13, 3) := fd_get adL_strike_0 (k := 6) rfl
theorem dL_strike_11 : decode cL_strike 11 = .ok (.goto 11, 3) := fd_get adL_strike_0 (k := 7) rfl
theorem dL_strike_14 : decode cL_strike 14 = .ok (.astore 4, 2) := fd_get adL_strike_0 (k := 8) rfl
theorem dL_strike_16 : decode cL_strike 16 = .ok (.iconst 1, 1) := fd_get adL_strike_0 (k := 9) rfl
theorem dL_strike_17 : decode cL_strike 17 = .ok (.ireturn, 1) := fd_get adL_strike_0 (k := 10) rfl
theorem dL_strike_18 : decode cL_strike 18 = .ok (.astore 4, 2) := fd_get adL_strike_0 (k := 11) rfl
theorem dL_strike_20 : decode cL_strike 20 = .ok (.iconst 2, 1) := fd_get adL_strike_0 (k := 12) rfl
theorem dL_strike_21 : decode cL_strike 21 = .ok (.ireturn, 1) := fd_get adL_strike_0 (k := 13) rfl
theorem dL_strike_22 : decode cL_strike 22 = .ok (.iconst 0, 1) := fd_get adL_strike_0 (k := 14) rfl
theorem dL_strike_23 : decode cL_strike 23 = .ok (.ireturn, 1) := fd_get adL_strike_0 (k := 15) rfl
theorem adL_strikePair_0 : fd_rows (cL_strikePair.data.toList.drop 0) 0 [(0, some (.aload 4), 2), (2, some (.aload_n 0), 1), (3, some (.iload_n 1), 1), (4, some (.iload_n 2), 1), (5, some (.iload_n 3), 1), (6, some (.invokevirtual 37), 3), (9, some (.ifCond .eq 7), 3), (12, some (.lconst 1), 1), (13, some (.goto 4), 3), (16, some (.lconst 0), 1), (17, some (.putfield 13), 3), (20, some (.goto 11), 3), (23, some (.astore 5), 2), (25, some (.iconst 1), 1), (26, some (.ireturn), 1), (27, some (.astore 5), 2), (29, some (.iconst 2), 1), (30, some (.ireturn), 1), (31, some (.iconst 0), 1), (32, some (.ireturn), 1)] = true := by decide +kernel
theorem dL_strikePair_0 : decode cL_strikePair 0 = .ok (.aload 4, 2) := fd_get adL_strikePair_0 (k := 0) rfl
theorem dL_strikePair_2 : decode cL_strikePair 2 = .ok (.aload_n 0, 1) := fd_get adL_strikePair_0 (k := 1) rfl
theorem dL_strikePair_3 : decode cL_strikePair 3 = .ok (.iload_n 1, 1) := fd_get adL_strikePair_0 (k := 2) rfl
theorem dL_strikePair_4 : decode cL_strikePair 4 = .ok (.iload_n 2, 1) := fd_get adL_strikePair_0 (k := 3) rfl
theorem dL_strikePair_5 : decode cL_strikePair 5 = .ok (.iload_n 3, 1) := fd_get adL_strikePair_0 (k := 4) rfl
theorem dL_strikePair_6 : decode cL_strikePair 6 = .ok (.invokevirtual 37, 3) := fd_get adL_strikePair_0 (k := 5) rfl
theorem dL_strikePair_9 : decode cL_strikePair 9 = .ok (.ifCond .eq 7, 3) := fd_get adL_strikePair_0 (k := 6) rfl
theorem dL_strikePair_12 : decode cL_strikePair 12 = .ok (.lconst 1, 1) := fd_get adL_strikePair_0 (k := 7) rfl
theorem dL_strikePair_13 : decode cL_strikePair 13 = .ok (.goto 4, 3) := fd_get adL_strikePair_0 (k := 8) rfl
theorem dL_strikePair_16 : decode cL_strikePair 16 = .ok (.lconst 0, 1) := fd_get adL_strikePair_0 (k := 9) rfl
theorem dL_strikePair_17 : decode cL_strikePair 17 = .ok (.putfield 13, 3) := fd_get adL_strikePair_0 (k := 10) rfl
theorem dL_strikePair_20 : decode cL_strikePair 20 = .ok (.goto 11, 3) := fd_get adL_strikePair_0 (k := 11) rfl
theorem dL_strikePair_23 : decode cL_strikePair 23 = .ok (.astore 5, 2) := fd_get adL_strikePair_0 (k := 12) rfl
theorem dL_strikePair_25 : decode cL_strikePair 25 = .ok (.iconst 1, 1) := fd_get adL_strikePair_0 (k := 13) rfl
theorem dL_strikePair_26 : decode cL_strikePair 26 = .ok (.ireturn, 1) := fd_get adL_strikePair_0 (k := 14) rfl
theorem dL_strikePair_27 : decode cL_strikePair 27 = .ok (.astore 5, 2) := fd_get adL_strikePair_0 (k := 15) rfl
theorem dL_strikePair_29 : decode cL_strikePair 29 = .ok (.iconst 2, 1) := fd_get adL_strikePair_0 (k := 16) rfl
theorem dL_strikePair_30 : decode cL_strikePair 30 = .ok (.ireturn, 1) := fd_get adL_strikePair_0 (k := 17) rfl
theorem dL_strikePair_31 : decode cL_strikePair 31 = .ok (.iconst 0, 1) := fd_get adL_strikePair_0 (k := 18) rfl
theorem dL_strikePair_32 : decode cL_strikePair 32 = .ok (.ireturn, 1) := fd_get adL_strikePair_0 (k := 19) rfl
theorem adL_merge_0 : fd_rows (cL_merge.data.toList.drop 0) 0 [(0, some (.aload 4), 2), (2, some (.aload_n 0), 1), (3, some (.iload_n 1), 1), (4, some (.iload_n 2), 1), (5, some (.iload_n 3), 1), (6, some (.invokevirtual 41), 3), (9, some (.i2l), 1), (10, some (.putfield 13), 3), (13, some (.goto 11), 3), (16, some (.astore 5), 2), (18, some (.iconst 1), 1), (19, some (.ireturn), 1), (20, some (.astore 5), 2), (22, some (.iconst 2), 1), (23, some (.ireturn), 1), (24, some (.iconst 0), 1), (25, some (.ireturn), 1)] = true := by decide +kernel
theorem dL_merge_0 : decode cL_merge 0 = .ok (.aload 4, 2) := fd_get adL_merge_0 (k := 0) rfl
theorem dL_merge_2 : decode cL_merge 2 = .ok (.aload_n 0, 1) := fd_get adL_merge_0 (k := 1) rfl
theorem dL_merge_3 : decode cL_merge 3 = .ok (.iload_n 1, 1) := fd_get adL_merge_0 (k := 2) rfl
theorem dL_merge_4 : decode cL_merge 4 = .ok (.iload_n 2, 1) := fd_get adL_merge_0 (k := 3) rfl
theorem dL_merge_5 : decode cL_merge 5 = .ok (.iload_n 3, 1) := fd_get adL_merge_0 (k := 4) rfl
theorem dL_merge_6 : decode cL_merge 6 = .ok (.invokevirtual 41, 3) := fd_get adL_merge_0 (k := 5) rfl
theorem dL_merge_9 : decode cL_merge 9 = .ok (.i2l, 1) := fd_get adL_merge_0 (k := 6) rfl
theorem dL_merge_10 : decode cL_merge 10 = .ok (.putfield 13, 3) := fd_get adL_merge_0 (k := 7) rfl
theorem dL_merge_13 : decode cL_merge 13 = .ok (.goto 11, 3) := fd_get adL_merge_0 (k := 8) rfl
theorem dL_merge_16 : decode cL_merge 16 = .ok (.astore 5, 2) := fd_get adL_merge_0 (k := 9) rfl
theorem dL_merge_18 : decode cL_merge 18 = .ok (.iconst 1, 1) := fd_get adL_merge_0 (k := 10) rfl
theorem dL_merge_19 : decode cL_merge 19 = .ok (.ireturn, 1) := fd_get adL_merge_0 (k := 11) rfl
theorem dL_merge_20 : decode cL_merge 20 = .ok (.astore 5, 2) := fd_get adL_merge_0 (k := 12) rfl
theorem dL_merge_22 : decode cL_merge 22 = .ok (.iconst 2, 1) := fd_get adL_merge_0 (k := 13) rfl
theorem dL_merge_23 : decode cL_merge 23 = .ok (.ireturn, 1) := fd_get adL_merge_0 (k := 14) rfl
theorem dL_merge_24 : decode cL_merge 24 = .ok (.iconst 0, 1) := fd_get adL_merge_0 (k := 15) rfl
theorem dL_merge_25 : decode cL_merge 25 = .ok (.ireturn, 1) := fd_get adL_merge_0 (k := 16) rfl
theorem adL_grow_0 : fd_rows (cL_grow.data.toList.drop 0) 0 [(0, some (.aload_n 3), 1), (1, some (.aload_n 0), 1), (2, some (.iload_n 1), 1), (3, some (.iload_n 2), 1), (4, some (.invokevirtual 44), 3), (7, some (.i2l), 1), (8, some (.putfield 13), 3), (11, some (.goto 11), 3), (14, some (.astore 4), 2), (16, some (.iconst 1), 1), (17, some (.ireturn), 1), (18, some (.astore 4), 2), (20, some (.iconst 2), 1), (21, some (.ireturn), 1), (22, some (.iconst 0), 1), (23, some (.ireturn), 1)] = true := by decide +kernel
theorem dL_grow_0 : decode cL_grow 0 = .ok (.aload_n 3, 1) := fd_get adL_grow_0 (k := 0) rfl
theorem dL_grow_1 : decode cL_grow 1 = .ok (.aload_n 0, 1) := fd_get adL_grow_0 (k := 1) rfl
theorem dL_grow_2 : decode cL_grow 2 = .ok (.iload_n 1, 1) := fd_get adL_grow_0 (k := 2) rfl
theorem dL_grow_3 : decode cL_grow 3 = .ok (.iload_n 2, 1) := fd_get adL_grow_0 (k := 3) rfl
theorem dL_grow_4 : decode cL_grow 4 = .ok (.invokevirtual 44, 3) := fd_get adL_grow_0 (k := 4) rfl
theorem dL_grow_7 : decode cL_grow 7 = .ok (.i2l, 1) := fd_get adL_grow_0 (k := 5) rfl
theorem dL_grow_8 : decode cL_grow 8 = .ok (.putfield 13, 3) := fd_get adL_grow_0 (k := 6) rfl
theorem dL_grow_11 : decode cL_grow 11 = .ok (.goto 11, 3) := fd_get adL_grow_0 (k := 7) rfl
theorem dL_grow_14 : decode cL_grow 14 = .ok (.astore 4, 2) := fd_get adL_grow_0 (k := 8) rfl
theorem dL_grow_16 : decode cL_grow 16 = .ok (.iconst 1, 1) := fd_get adL_grow_0 (k := 9) rfl
theorem dL_grow_17 : decode cL_grow 17 = .ok (.ireturn, 1) := fd_get adL_grow_0 (k := 10) rfl
theorem dL_grow_18 : decode cL_grow 18 = .ok (.astore 4, 2) := fd_get adL_grow_0 (k := 11) rfl
theorem dL_grow_20 : decode cL_grow 20 = .ok (.iconst 2, 1) := fd_get adL_grow_0 (k := 12) rfl
theorem dL_grow_21 : decode cL_grow 21 = .ok (.ireturn, 1) := fd_get adL_grow_0 (k := 13) rfl
theorem dL_grow_22 : decode cL_grow 22 = .ok (.iconst 0, 1) := fd_get adL_grow_0 (k := 14) rfl
theorem dL_grow_23 : decode cL_grow 23 = .ok (.ireturn, 1) := fd_get adL_grow_0 (k := 15) rfl
theorem adL_halve_0 : fd_rows (cL_halve.data.toList.drop 0) 0 [(0, some (.aload_n 3), 1), (1, some (.aload_n 0), 1), (2, some (.iload_n 1), 1), (3, some (.iload_n 2), 1), (4, some (.invokevirtual 47), 3), (7, some (.i2l), 1), (8, some (.putfield 13), 3), (11, some (.goto 11), 3), (14, some (.astore 4), 2), (16, some (.iconst 1), 1), (17, some (.ireturn), 1), (18, some (.astore 4), 2), (20, some (.iconst 2), 1), (21, some (.ireturn), 1), (22, some (.iconst 0), 1), (23, some (.ireturn), 1)] = true := by decide +kernel
theorem dL_halve_0 : decode cL_halve 0 = .ok (.aload_n 3, 1) := fd_get adL_halve_0 (k := 0) rfl
theorem dL_halve_1 : decode cL_halve 1 = .ok (.aload_n 0, 1) := fd_get adL_halve_0 (k := 1) rfl
theorem dL_halve_2 : decode cL_halve 2 = .ok (.iload_n 1, 1) := fd_get adL_halve_0 (k := 2) rfl
theorem dL_halve_3 : decode cL_halve 3 = .ok (.iload_n 2, 1) := fd_get adL_halve_0 (k := 3) rfl
theorem dL_halve_4 : decode cL_halve 4 = .ok (.invokevirtual 47, 3) := fd_get adL_halve_0 (k := 4) rfl
theorem dL_halve_7 : decode cL_halve 7 = .ok (.i2l, 1) := fd_get adL_halve_0 (k := 5) rfl
theorem dL_halve_8 : decode cL_halve 8 = .ok (.putfield 13, 3) := fd_get adL_halve_0 (k := 6) rfl
theorem dL_halve_11 : decode cL_halve 11 = .ok (.goto 11, 3) := fd_get adL_halve_0 (k := 7) rfl
theorem dL_halve_14 : decode cL_halve 14 = .ok (.astore 4, 2) := fd_get adL_halve_0 (k := 8) rfl
theorem dL_halve_16 : decode cL_halve 16 = .ok (.iconst 1, 1) := fd_get adL_halve_0 (k := 9) rfl
theorem dL_halve_17 : decode cL_halve 17 = .ok (.ireturn, 1) := fd_get adL_halve_0 (k := 10) rfl
theorem dL_halve_18 : decode cL_halve 18 = .ok (.astore 4, 2) := fd_get adL_halve_0 (k := 11) rfl
theorem dL_halve_20 : decode cL_halve 20 = .ok (.iconst 2, 1) := fd_get adL_halve_0 (k := 12) rfl
theorem dL_halve_21 : decode cL_halve 21 = .ok (.ireturn, 1) := fd_get adL_halve_0 (k := 13) rfl
theorem dL_halve_22 : decode cL_halve 22 = .ok (.iconst 0, 1) := fd_get adL_halve_0 (k := 14) rfl
theorem dL_halve_23 : decode cL_halve 23 = .ok (.ireturn, 1) := fd_get adL_halve_0 (k := 15) rfl
theorem adL_twice_0 : fd_rows (cL_twice.data.toList.drop 0) 0 [(0, some (.aload_n 3), 1), (1, some (.aload_n 0), 1), (2, some (.iload_n 1), 1), (3, some (.iload_n 2), 1), (4, some (.invokevirtual 50), 3), (7, some (.i2l), 1), (8, some (.putfield 13), 3), (11, some (.goto 11), 3), (14, some (.astore 4), 2), (16, some (.iconst 1), 1), (17, some (.ireturn), 1), (18, some (.astore 4), 2), (20, some (.iconst 2), 1), (21, some (.ireturn), 1), (22, some (.iconst 0), 1), (23, some (.ireturn), 1)] = true := by decide +kernel
theorem dL_twice_0 : decode cL_twice 0 = .ok (.aload_n 3, 1) := fd_get adL_twice_0 (k := 0) rfl
theorem dL_twice_1 : decode cL_twice 1 = .ok (.aload_n 0, 1) := fd_get adL_twice_0 (k := 1) rfl
theorem dL_twice_2 : decode cL_twice 2 = .ok (.iload_n 1, 1) := fd_get adL_twice_0 (k := 2) rfl
theorem dL_twice_3 : decode cL_twice 3 = .ok (.iload_n 2, 1) := fd_get adL_twice_0 (k := 3) rfl
theorem dL_twice_4 : decode cL_twice 4 = .ok (.invokevirtual 50, 3) := fd_get adL_twice_0 (k := 4) rfl
theorem dL_twice_7 : decode cL_twice 7 = .ok (.i2l, 1) := fd_get adL_twice_0 (k := 5) rfl
theorem dL_twice_8 : decode cL_twice 8 = .ok (.putfield 13, 3) := fd_get adL_twice_0 (k := 6) rfl
theorem dL_twice_11 : decode cL_twice 11 = .ok (.goto 11, 3) := fd_get adL_twice_0 (k := 7) rfl
theorem dL_twice_14 : decode cL_twice 14 = .ok (.astore 4, 2) := fd_get adL_twice_0 (k := 8) rfl
theorem dL_twice_16 : decode cL_twice 16 = .ok (.iconst 1, 1) := fd_get adL_twice_0 (k := 9) rfl
theorem dL_twice_17 : decode cL_twice 17 = .ok (.ireturn, 1) := fd_get adL_twice_0 (k := 10) rfl
theorem dL_twice_18 : decode cL_twice 18 = .ok (.astore 4, 2) := fd_get adL_twice_0 (k := 11) rfl
theorem dL_twice_20 : decode cL_twice 20 = .ok (.iconst 2, 1) := fd_get adL_twice_0 (k := 12) rfl
theorem dL_twice_21 : decode cL_twice 21 = .ok (.ireturn, 1) := fd_get adL_twice_0 (k := 13) rfl
theorem dL_twice_22 : decode cL_twice 22 = .ok (.iconst 0, 1) := fd_get adL_twice_0 (k := 14) rfl
theorem dL_twice_23 : decode cL_twice 23 = .ok (.ireturn, 1) := fd_get adL_twice_0 (k := 15) rfl
theorem adL_poll_0 : fd_rows (cL_poll.data.toList.drop 0) 0 [(0, some (.aload_n 3), 1), (1, some (.aload_n 0), 1), (2, some (.iload_n 1), 1), (3, some (.iload_n 2), 1), (4, some (.invokevirtual 53), 3), (7, some (.i2l), 1), (8, some (.putfield 13), 3), (11, some (.goto 7), 3), (14, some (.astore 4), 2), (16, some (.iconst 1), 1), (17, some (.ireturn), 1), (18, some (.iconst 0), 1), (19, some (.ireturn), 1)] = true := by decide +kernel
theorem dL_poll_0 : decode cL_poll 0 = .ok (.aload_n 3, 1) := fd_get adL_poll_0 (k := 0) rfl
theorem dL_poll_1 : decode cL_poll 1 = .ok (.aload_n 0, 1) := fd_get adL_poll_0 (k := 1) rfl
theorem dL_poll_2 : decode cL_poll 2 = .ok (.iload_n 1, 1) := fd_get adL_poll_0 (k := 2) rfl
theorem dL_poll_3 : decode cL_poll 3 = .ok (.iload_n 2, 1) := fd_get adL_poll_0 (k := 3) rfl
theorem dL_poll_4 : decode cL_poll 4 = .ok (.invokevirtual 53, 3) := fd_get adL_poll_0 (k := 4) rfl
theorem dL_poll_7 : decode cL_poll 7 = .ok (.i2l, 1) := fd_get adL_poll_0 (k := 5) rfl
theorem dL_poll_8 : decode cL_poll 8 = .ok (.putfield 13, 3) := fd_get adL_poll_0 (k := 6) rfl
theorem dL_poll_11 : decode cL_poll 11 = .ok (.goto 7, 3) := fd_get adL_poll_0 (k := 7) rfl
theorem dL_poll_14 : decode cL_poll 14 = .ok (.astore 4, 2) := fd_get adL_poll_0 (k := 8) rfl
theorem dL_poll_16 : decode cL_poll 16 = .ok (.iconst 1, 1) := fd_get adL_poll_0 (k := 9) rfl
theorem dL_poll_17 : decode cL_poll 17 = .ok (.ireturn, 1) := fd_get adL_poll_0 (k := 10) rfl
theorem dL_poll_18 : decode cL_poll 18 = .ok (.iconst 0, 1) := fd_get adL_poll_0 (k := 11) rfl
theorem dL_poll_19 : decode cL_poll 19 = .ok (.ireturn, 1) := fd_get adL_poll_0 (k := 12) rfl
theorem adL_raise_0 : fd_rows (cL_raise.data.toList.drop 0) 0 [(0, some (.aload_n 3), 1), (1, some (.aload_n 0), 1), (2, some (.iload_n 1), 1), (3, some (.iload_n 2), 1), (4, some (.invokevirtual 57), 3), (7, some (.i2l), 1), (8, some (.putfield 13), 3), (11, some (.goto 11), 3), (14, some (.astore 4), 2), (16, some (.iconst 1), 1), (17, some (.ireturn), 1), (18, some (.astore 4), 2), (20, some (.iconst 2), 1), (21, some (.ireturn), 1), (22, some (.iconst 0), 1), (23, some (.ireturn), 1)] = true := by decide +kernel
theorem dL_raise_0 : decode cL_raise 0 = .ok (.aload_n 3, 1) := fd_get adL_raise_0 (k := 0) rfl
theorem dL_raise_1 : decode cL_raise 1 = .ok (.aload_n 0, 1) := fd_get adL_raise_0 (k := 1) rfl
theorem dL_raise_2 : decode cL_raise 2 = .ok (.iload_n 1, 1) := fd_get adL_raise_0 (k := 2) rfl
theorem dL_raise_3 : decode cL_raise 3 = .ok (.iload_n 2, 1) := fd_get adL_raise_0 (k := 3) rfl
theorem dL_raise_4 : decode cL_raise 4 = .ok (.invokevirtual 57, 3) := fd_get adL_raise_0 (k := 4) rfl
theorem dL_raise_7 : decode cL_raise 7 = .ok (.i2l, 1) := fd_get adL_raise_0 (k := 5) rfl
theorem dL_raise_8 : decode cL_raise 8 = .ok (.putfield 13, 3) := fd_get adL_raise_0 (k := 6) rfl
theorem dL_raise_11 : decode cL_raise 11 = .ok (.goto 11, 3) := fd_get adL_raise_0 (k := 7) rfl
theorem dL_raise_14 : decode cL_raise 14 = .ok (.astore 4, 2) := fd_get adL_raise_0 (k := 8) rfl
theorem dL_raise_16 : decode cL_raise 16 = .ok (.iconst 1, 1) := fd_get adL_raise_0 (k := 9) rfl
theorem dL_raise_17 : decode cL_raise 17 = .ok (.ireturn, 1) := fd_get adL_raise_0 (k := 10) rfl
theorem dL_raise_18 : decode cL_raise 18 = .ok (.astore 4, 2) := fd_get adL_raise_0 (k := 11) rfl
theorem dL_raise_20 : decode cL_raise 20 = .ok (.iconst 2, 1) := fd_get adL_raise_0 (k := 12) rfl
theorem dL_raise_21 : decode cL_raise 21 = .ok (.ireturn, 1) := fd_get adL_raise_0 (k := 13) rfl
theorem dL_raise_22 : decode cL_raise 22 = .ok (.iconst 0, 1) := fd_get adL_raise_0 (k := 14) rfl
theorem dL_raise_23 : decode cL_raise 23 = .ok (.ireturn, 1) := fd_get adL_raise_0 (k := 15) rfl
theorem adL_sift_0 : fd_rows (cL_sift.data.toList.drop 0) 0 [(0, some (.aload_n 3), 1), (1, some (.aload_n 0), 1), (2, some (.iload_n 1), 1), (3, some (.iload_n 2), 1), (4, some (.invokevirtual 60), 3), (7, some (.i2l), 1), (8, some (.putfield 13), 3), (11, some (.goto 11), 3), (14, some (.astore 4), 2), (16, some (.iconst 1), 1), (17, some (.ireturn), 1), (18, some (.astore 4), 2), (20, some (.iconst 2), 1), (21, some (.ireturn), 1), (22, some (.iconst 0), 1), (23, some (.ireturn), 1)] = true := by decide +kernel
theorem dL_sift_0 : decode cL_sift 0 = .ok (.aload_n 3, 1) := fd_get adL_sift_0 (k := 0) rfl
theorem dL_sift_1 : decode cL_sift 1 = .ok (.aload_n 0, 1) := fd_get adL_sift_0 (k := 1) rfl
theorem dL_sift_2 : decode cL_sift 2 = .ok (.iload_n 1, 1) := fd_get adL_sift_0 (k := 2) rfl
theorem dL_sift_3 : decode cL_sift 3 = .ok (.iload_n 2, 1) := fd_get adL_sift_0 (k := 3) rfl
theorem dL_sift_4 : decode cL_sift 4 = .ok (.invokevirtual 60, 3) := fd_get adL_sift_0 (k := 4) rfl
theorem dL_sift_7 : decode cL_sift 7 = .ok (.i2l, 1) := fd_get adL_sift_0 (k := 5) rfl
theorem dL_sift_8 : decode cL_sift 8 = .ok (.putfield 13, 3) := fd_get adL_sift_0 (k := 6) rfl
theorem dL_sift_11 : decode cL_sift 11 = .ok (.goto 11, 3) := fd_get adL_sift_0 (k := 7) rfl
theorem dL_sift_14 : decode cL_sift 14 = .ok (.astore 4, 2) := fd_get adL_sift_0 (k := 8) rfl
theorem dL_sift_16 : decode cL_sift 16 = .ok (.iconst 1, 1) := fd_get adL_sift_0 (k := 9) rfl
theorem dL_sift_17 : decode cL_sift 17 = .ok (.ireturn, 1) := fd_get adL_sift_0 (k := 10) rfl
theorem dL_sift_18 : decode cL_sift 18 = .ok (.astore 4, 2) := fd_get adL_sift_0 (k := 11) rfl
theorem dL_sift_20 : decode cL_sift 20 = .ok (.iconst 2, 1) := fd_get adL_sift_0 (k := 12) rfl
theorem dL_sift_21 : decode cL_sift 21 = .ok (.ireturn, 1) := fd_get adL_sift_0 (k := 13) rfl
theorem dL_sift_22 : decode cL_sift 22 = .ok (.iconst 0, 1) := fd_get adL_sift_0 (k := 14) rfl
theorem dL_sift_23 : decode cL_sift 23 = .ok (.ireturn, 1) := fd_get adL_sift_0 (k := 15) rfl
theorem adL_strikeValue_0 : fd_rows (cL_strikeValue.data.toList.drop 0) 0 [(0, some (.aload_n 3), 1), (1, some (.aload_n 0), 1), (2, some (.iload_n 1), 1), (3, some (.iload_n 2), 1), (4, some (.invokevirtual 63), 3), (7, some (.ifCond .eq 7), 3), (10, some (.lconst 1), 1), (11, some (.goto 4), 3), (14, some (.lconst 0), 1), (15, some (.putfield 13), 3), (18, some (.goto 15), 3), (21, some (.astore 4), 2), (23, some (.iconst 1), 1), (24, some (.ireturn), 1), (25, some (.astore 4), 2), (27, some (.iconst 2), 1), (28, some (.ireturn), 1), (29, some (.astore 4), 2), (31, some (.iconst 3), 1), (32, some (.ireturn), 1), (33, some (.iconst 0), 1), (34, some (.ireturn), 1)] = true := by decide +kernel
theorem dL_strikeValue_0 : decode cL_strikeValue 0 = .ok (.aload_n 3, 1) := fd_get adL_strikeValue_0 (k := 0) rfl
theorem dL_strikeValue_1 : decode cL_strikeValue 1 = .ok (.aload_n 0, 1) := fd_get adL_strikeValue_0 (k := 1) rfl
theorem dL_strikeValue_2 : decode cL_strikeValue 2 = .ok (.iload_n 1, 1) := fd_get adL_strikeValue_0 (k := 2) rfl
theorem dL_strikeValue_3 : decode cL_strikeValue 3 = .ok (.iload_n 2, 1) := fd_get adL_strikeValue_0 (k := 3) rfl
theorem dL_strikeValue_4 : decode cL_strikeValue 4 = .ok (.invokevirtual 63, 3) := fd_get adL_strikeValue_0 (k := 4) rfl
theorem dL_strikeValue_7 : decode cL_strikeValue 7 = .ok (.ifCond .eq 7, 3) := fd_get adL_strikeValue_0 (k := 5) rfl
theorem dL_strikeValue_10 : decode cL_strikeValue 10 = .ok (.lconst 1, 1) := fd_get adL_strikeValue_0 (k := 6) rfl
theorem dL_strikeValue_11 : decode cL_strikeValue 11 = .ok (.goto 4, 3) := fd_get adL_strikeValue_0 (k := 7) rfl
theorem dL_strikeValue_14 : decode cL_strikeValue 14 = .ok (.lconst 0, 1) := fd_get adL_strikeValue_0 (k := 8) rfl
theorem dL_strikeValue_15 : decode cL_strikeValue 15 = .ok (.putfield 13, 3) := fd_get adL_strikeValue_0 (k := 9) rfl
theorem dL_strikeValue_18 : decode cL_strikeValue 18 = .ok (.goto 15, 3) := fd_get adL_strikeValue_0 (k := 10) rfl
theorem dL_strikeValue_21 : decode cL_strikeValue 21 = .ok (.astore 4, 2) := fd_get adL_strikeValue_0 (k := 11) rfl
theorem dL_strikeValue_23 : decode cL_strikeValue 23 = .ok (.iconst 1, 1) := fd_get adL_strikeValue_0 (k := 12) rfl
theorem dL_strikeValue_24 : decode cL_strikeValue 24 = .ok (.ireturn, 1) := fd_get adL_strikeValue_0 (k := 13) rfl
theorem dL_strikeValue_25 : decode cL_strikeValue 25 = .ok (.astore 4, 2) := fd_get adL_strikeValue_0 (k := 14) rfl
theorem dL_strikeValue_27 : decode cL_strikeValue 27 = .ok (.iconst 2, 1) := fd_get adL_strikeValue_0 (k := 15) rfl
theorem dL_strikeValue_28 : decode cL_strikeValue 28 = .ok (.ireturn, 1) := fd_get adL_strikeValue_0 (k := 16) rfl
theorem dL_strikeValue_29 : decode cL_strikeValue 29 = .ok (.astore 4, 2) := fd_get adL_strikeValue_0 (k := 17) rfl
theorem dL_strikeValue_31 : decode cL_strikeValue 31 = .ok (.iconst 3, 1) := fd_get adL_strikeValue_0 (k := 18) rfl
theorem dL_strikeValue_32 : decode cL_strikeValue 32 = .ok (.ireturn, 1) := fd_get adL_strikeValue_0 (k := 19) rfl
theorem dL_strikeValue_33 : decode cL_strikeValue 33 = .ok (.iconst 0, 1) := fd_get adL_strikeValue_0 (k := 20) rfl
theorem dL_strikeValue_34 : decode cL_strikeValue 34 = .ok (.ireturn, 1) := fd_get adL_strikeValue_0 (k := 21) rfl
theorem adL_clear_0 : fd_rows (cL_clear.data.toList.drop 0) 0 [(0, some (.aload_n 2), 1), (1, some (.aload_n 0), 1), (2, some (.iload_n 1), 1), (3, some (.invokevirtual 69), 3), (6, some (.i2l), 1), (7, some (.putfield 13), 3), (10, some (.goto 6), 3), (13, some (.astore_n 3), 1), (14, some (.iconst 1), 1), (15, some (.ireturn), 1), (16, some (.iconst 0), 1), (17, some (.ireturn), 1)] = true := by decide +kernel
theorem dL_clear_0 : decode cL_clear 0 = .ok (.aload_n 2, 1) := fd_get adL_clear_0 (k := 0) rfl
theorem dL_clear_1 : decode cL_clear 1 = .ok (.aload_n 0, 1) := fd_get adL_clear_0 (k := 1) rfl
theorem dL_clear_2 : decode cL_clear 2 = .ok (.iload_n 1, 1) := fd_get adL_clear_0 (k := 2) rfl
theorem dL_clear_3 : decode cL_clear 3 = .ok (.invokevirtual 69, 3) := fd_get adL_clear_0 (k := 3) rfl
theorem dL_clear_6 : decode cL_clear 6 = .ok (.i2l, 1) := fd_get adL_clear_0 (k := 4) rfl
theorem dL_clear_7 : decode cL_clear 7 = .ok (.putfield 13, 3) := fd_get adL_clear_0 (k := 5) rfl
theorem dL_clear_10 : decode cL_clear 10 = .ok (.goto 6, 3) := fd_get adL_clear_0 (k := 6) rfl
theorem dL_clear_13 : decode cL_clear 13 = .ok (.astore_n 3, 1) := fd_get adL_clear_0 (k := 7) rfl
theorem dL_clear_14 : decode cL_clear 14 = .ok (.iconst 1, 1) := fd_get adL_clear_0 (k := 8) rfl
theorem dL_clear_15 : decode cL_clear 15 = .ok (.ireturn, 1) := fd_get adL_clear_0 (k := 9) rfl
theorem dL_clear_16 : decode cL_clear 16 = .ok (.iconst 0, 1) := fd_get adL_clear_0 (k := 10) rfl
theorem dL_clear_17 : decode cL_clear 17 = .ok (.ireturn, 1) := fd_get adL_clear_0 (k := 11) rfl
theorem adL_pour_0 : fd_rows (cL_pour.data.toList.drop 0) 0 [(0, some (.aload_n 3), 1), (1, some (.aload_n 0), 1), (2, some (.iload_n 1), 1), (3, some (.iload_n 2), 1), (4, some (.invokevirtual 73), 3), (7, some (.i2l), 1), (8, some (.putfield 13), 3), (11, some (.goto 11), 3), (14, some (.astore 4), 2), (16, some (.iconst 1), 1), (17, some (.ireturn), 1), (18, some (.astore 4), 2), (20, some (.iconst 2), 1), (21, some (.ireturn), 1), (22, some (.iconst 0), 1), (23, some (.ireturn), 1)] = true := by decide +kernel
theorem dL_pour_0 : decode cL_pour 0 = .ok (.aload_n 3, 1) := fd_get adL_pour_0 (k := 0) rfl
theorem dL_pour_1 : decode cL_pour 1 = .ok (.aload_n 0, 1) := fd_get adL_pour_0 (k := 1) rfl
theorem dL_pour_2 : decode cL_pour 2 = .ok (.iload_n 1, 1) := fd_get adL_pour_0 (k := 2) rfl
theorem dL_pour_3 : decode cL_pour 3 = .ok (.iload_n 2, 1) := fd_get adL_pour_0 (k := 3) rfl
theorem dL_pour_4 : decode cL_pour 4 = .ok (.invokevirtual 73, 3) := fd_get adL_pour_0 (k := 4) rfl
theorem dL_pour_7 : decode cL_pour 7 = .ok (.i2l, 1) := fd_get adL_pour_0 (k := 5) rfl
theorem dL_pour_8 : decode cL_pour 8 = .ok (.putfield 13, 3) := fd_get adL_pour_0 (k := 6) rfl
theorem dL_pour_11 : decode cL_pour 11 = .ok (.goto 11, 3) := fd_get adL_pour_0 (k := 7) rfl
theorem dL_pour_14 : decode cL_pour 14 = .ok (.astore 4, 2) := fd_get adL_pour_0 (k := 8) rfl
theorem dL_pour_16 : decode cL_pour 16 = .ok (.iconst 1, 1) := fd_get adL_pour_0 (k := 9) rfl
theorem dL_pour_17 : decode cL_pour 17 = .ok (.ireturn, 1) := fd_get adL_pour_0 (k := 10) rfl
theorem dL_pour_18 : decode cL_pour 18 = .ok (.astore 4, 2) := fd_get adL_pour_0 (k := 11) rfl
theorem dL_pour_20 : decode cL_pour 20 = .ok (.iconst 2, 1) := fd_get adL_pour_0 (k := 12) rfl
theorem dL_pour_21 : decode cL_pour 21 = .ok (.ireturn, 1) := fd_get adL_pour_0 (k := 13) rfl
theorem dL_pour_22 : decode cL_pour 22 = .ok (.iconst 0, 1) := fd_get adL_pour_0 (k := 14) rfl
theorem dL_pour_23 : decode cL_pour 23 = .ok (.ireturn, 1) := fd_get adL_pour_0 (k := 15) rfl
theorem adL_copy_0 : fd_rows (cL_copy.data.toList.drop 0) 0 [(0, some (.aload_n 3), 1), (1, some (.aload_n 0), 1), (2, some (.iload_n 1), 1), (3, some (.iload_n 2), 1), (4, some (.invokevirtual 76), 3), (7, some (.i2l), 1), (8, some (.putfield 13), 3), (11, some (.goto 11), 3), (14, some (.astore 4), 2), (16, some (.iconst 1), 1), (17, some (.ireturn), 1), (18, some (.astore 4), 2), (20, some (.iconst 2), 1), (21, some (.ireturn), 1), (22, some (.iconst 0), 1), (23, some (.ireturn), 1)] = true := by decide +kernel
theorem dL_copy_0 : decode cL_copy 0 = .ok (.aload_n 3, 1) := fd_get adL_copy_0 (k := 0) rfl
theorem dL_copy_1 : decode cL_copy 1 = .ok (.aload_n 0, 1) := fd_get adL_copy_0 (k := 1) rfl
theorem dL_copy_2 : decode cL_copy 2 = .ok (.iload_n 1, 1) := fd_get adL_copy_0 (k := 2) rfl
theorem dL_copy_3 : decode cL_copy 3 = .ok (.iload_n 2, 1) := fd_get adL_copy_0 (k := 3) rfl
theorem dL_copy_4 : decode cL_copy 4 = .ok (.invokevirtual 76, 3) := fd_get adL_copy_0 (k := 4) rfl
theorem dL_copy_7 : decode cL_copy 7 = .ok (.i2l, 1) := fd_get adL_copy_0 (k := 5) rfl
theorem dL_copy_8 : decode cL_copy 8 = .ok (.putfield 13, 3) := fd_get adL_copy_0 (k := 6) rfl
theorem dL_copy_11 : decode cL_copy 11 = .ok (.goto 11, 3) := fd_get adL_copy_0 (k := 7) rfl
theorem dL_copy_14 : decode cL_copy 14 = .ok (.astore 4, 2) := fd_get adL_copy_0 (k := 8) rfl
theorem dL_copy_16 : decode cL_copy 16 = .ok (.iconst 1, 1) := fd_get adL_copy_0 (k := 9) rfl
theorem dL_copy_17 : decode cL_copy 17 = .ok (.ireturn, 1) := fd_get adL_copy_0 (k := 10) rfl
theorem dL_copy_18 : decode cL_copy 18 = .ok (.astore 4, 2) := fd_get adL_copy_0 (k := 11) rfl
theorem dL_copy_20 : decode cL_copy 20 = .ok (.iconst 2, 1) := fd_get adL_copy_0 (k := 12) rfl
theorem dL_copy_21 : decode cL_copy 21 = .ok (.ireturn, 1) := fd_get adL_copy_0 (k := 13) rfl
theorem dL_copy_22 : decode cL_copy 22 = .ok (.iconst 0, 1) := fd_get adL_copy_0 (k := 14) rfl
theorem dL_copy_23 : decode cL_copy 23 = .ok (.ireturn, 1) := fd_get adL_copy_0 (k := 15) rfl
theorem adL_thin_0 : fd_rows (cL_thin.data.toList.drop 0) 0 [(0, some (.aload 4), 2), (2, some (.aload_n 0), 1), (3, some (.iload_n 1), 1), (4, some (.iload_n 2), 1), (5, some (.iload_n 3), 1), (6, some (.invokevirtual 79), 3), (9, some (.i2l), 1), (10, some (.putfield 13), 3), (13, some (.goto 11), 3), (16, some (.astore 5), 2), (18, some (.iconst 1), 1), (19, some (.ireturn), 1), (20, some (.astore 5), 2), (22, some (.iconst 2), 1), (23, some (.ireturn), 1), (24, some (.iconst 0), 1), (25, some (.ireturn), 1)] = true := by decide +kernel
theorem dL_thin_0 : decode cL_thin 0 = .ok (.aload 4, 2) := fd_get adL_thin_0 (k := 0) rfl
theorem dL_thin_2 : decode cL_thin 2 = .ok (.aload_n 0, 1) := fd_get adL_thin_0 (k := 1) rfl
theorem dL_thin_3 : decode cL_thin 3 = .ok (.iload_n 1, 1) := fd_get adL_thin_0 (k := 2) rfl
theorem dL_thin_4 : decode cL_thin 4 = .ok (.iload_n 2, 1) := fd_get adL_thin_0 (k := 3) rfl
theorem dL_thin_5 : decode cL_thin 5 = .ok (.iload_n 3, 1) := fd_get adL_thin_0 (k := 4) rfl
theorem dL_thin_6 : decode cL_thin 6 = .ok (.invokevirtual 79, 3) := fd_get adL_thin_0 (k := 5) rfl
theorem dL_thin_9 : decode cL_thin 9 = .ok (.i2l, 1) := fd_get adL_thin_0 (k := 6) rfl
theorem dL_thin_10 : decode cL_thin 10 = .ok (.putfield 13, 3) := fd_get adL_thin_0 (k := 7) rfl
theorem dL_thin_13 : decode cL_thin 13 = .ok (.goto 11, 3) := fd_get adL_thin_0 (k := 8) rfl
theorem dL_thin_16 : decode cL_thin 16 = .ok (.astore 5, 2) := fd_get adL_thin_0 (k := 9) rfl
theorem dL_thin_18 : decode cL_thin 18 = .ok (.iconst 1, 1) := fd_get adL_thin_0 (k := 10) rfl
theorem dL_thin_19 : decode cL_thin 19 = .ok (.ireturn, 1) := fd_get adL_thin_0 (k := 11) rfl
theorem dL_thin_20 : decode cL_thin 20 = .ok (.astore 5, 2) := fd_get adL_thin_0 (k := 12) rfl
theorem dL_thin_22 : decode cL_thin 22 = .ok (.iconst 2, 1) := fd_get adL_thin_0 (k := 13) rfl
theorem dL_thin_23 : decode cL_thin 23 = .ok (.ireturn, 1) := fd_get adL_thin_0 (k := 14) rfl
theorem dL_thin_24 : decode cL_thin 24 = .ok (.iconst 0, 1) := fd_get adL_thin_0 (k := 15) rfl
theorem dL_thin_25 : decode cL_thin 25 = .ok (.ireturn, 1) := fd_get adL_thin_0 (k := 16) rfl
theorem adL_head_0 : fd_rows (cL_head.data.toList.drop 0) 0 [(0, some (.aload 4), 2), (2, some (.aload_n 0), 1), (3, some (.iload_n 1), 1), (4, some (.iload_n 2), 1), (5, some (.iload_n 3), 1), (6, some (.invokevirtual 83), 3), (9, some (.i2l), 1), (10, some (.putfield 13), 3), (13, some (.goto 15), 3), (16, some (.astore 5), 2), (18, some (.iconst 1), 1), (19, some (.ireturn), 1), (20, some (.astore 5), 2), (22, some (.iconst 2), 1), (23, some (.ireturn), 1), (24, some (.astore 5), 2), (26, some (.iconst 3), 1), (27, some (.ireturn), 1), (28, some (.iconst 0), 1), (29, some (.ireturn), 1)] = true := by decide +kernel
theorem dL_head_0 : decode cL_head 0 = .ok (.aload 4, 2) := fd_get adL_head_0 (k := 0) rfl
theorem dL_head_2 : decode cL_head 2 = .ok (.aload_n 0, 1) := fd_get adL_head_0 (k := 1) rfl
theorem dL_head_3 : decode cL_head 3 = .ok (.iload_n 1, 1) := fd_get adL_head_0 (k := 2) rfl
theorem dL_head_4 : decode cL_head 4 = .ok (.iload_n 2, 1) := fd_get adL_head_0 (k := 3) rfl
theorem dL_head_5 : decode cL_head 5 = .ok (.iload_n 3, 1) := fd_get adL_head_0 (k := 4) rfl
theorem dL_head_6 : decode cL_head 6 = .ok (.invokevirtual 83, 3) := fd_get adL_head_0 (k := 5) rfl
theorem dL_head_9 : decode cL_head 9 = .ok (.i2l, 1) := fd_get adL_head_0 (k := 6) rfl
theorem dL_head_10 : decode cL_head 10 = .ok (.putfield 13, 3) := fd_get adL_head_0 (k := 7) rfl
theorem dL_head_13 : decode cL_head 13 = .ok (.goto 15, 3) := fd_get adL_head_0 (k := 8) rfl
theorem dL_head_16 : decode cL_head 16 = .ok (.astore 5, 2) := fd_get adL_head_0 (k := 9) rfl
theorem dL_head_18 : decode cL_head 18 = .ok (.iconst 1, 1) := fd_get adL_head_0 (k := 10) rfl
theorem dL_head_19 : decode cL_head 19 = .ok (.ireturn, 1) := fd_get adL_head_0 (k := 11) rfl
theorem dL_head_20 : decode cL_head 20 = .ok (.astore 5, 2) := fd_get adL_head_0 (k := 12) rfl
theorem dL_head_22 : decode cL_head 22 = .ok (.iconst 2, 1) := fd_get adL_head_0 (k := 13) rfl
theorem dL_head_23 : decode cL_head 23 = .ok (.ireturn, 1) := fd_get adL_head_0 (k := 14) rfl
theorem dL_head_24 : decode cL_head 24 = .ok (.astore 5, 2) := fd_get adL_head_0 (k := 15) rfl
theorem dL_head_26 : decode cL_head 26 = .ok (.iconst 3, 1) := fd_get adL_head_0 (k := 16) rfl
theorem dL_head_27 : decode cL_head 27 = .ok (.ireturn, 1) := fd_get adL_head_0 (k := 17) rfl
theorem dL_head_28 : decode cL_head 28 = .ok (.iconst 0, 1) := fd_get adL_head_0 (k := 18) rfl
theorem dL_head_29 : decode cL_head 29 = .ok (.ireturn, 1) := fd_get adL_head_0 (k := 19) rfl
theorem adL_tail_0 : fd_rows (cL_tail.data.toList.drop 0) 0 [(0, some (.aload 4), 2), (2, some (.aload_n 0), 1), (3, some (.iload_n 1), 1), (4, some (.iload_n 2), 1), (5, some (.iload_n 3), 1), (6, some (.invokevirtual 86), 3), (9, some (.i2l), 1), (10, some (.putfield 13), 3), (13, some (.goto 15), 3), (16, some (.astore 5), 2), (18, some (.iconst 1), 1), (19, some (.ireturn), 1), (20, some (.astore 5), 2), (22, some (.iconst 2), 1), (23, some (.ireturn), 1), (24, some (.astore 5), 2), (26, some (.iconst 3), 1), (27, some (.ireturn), 1), (28, some (.iconst 0), 1), (29, some (.ireturn), 1)] = true := by decide +kernel
theorem dL_tail_0 : decode cL_tail 0 = .ok (.aload 4, 2) := fd_get adL_tail_0 (k := 0) rfl
theorem dL_tail_2 : decode cL_tail 2 = .ok (.aload_n 0, 1) := fd_get adL_tail_0 (k := 1) rfl
theorem dL_tail_3 : decode cL_tail 3 = .ok (.iload_n 1, 1) := fd_get adL_tail_0 (k := 2) rfl
theorem dL_tail_4 : decode cL_tail 4 = .ok (.iload_n 2, 1) := fd_get adL_tail_0 (k := 3) rfl
theorem dL_tail_5 : decode cL_tail 5 = .ok (.iload_n 3, 1) := fd_get adL_tail_0 (k := 4) rfl
theorem dL_tail_6 : decode cL_tail 6 = .ok (.invokevirtual 86, 3) := fd_get adL_tail_0 (k := 5) rfl
theorem dL_tail_9 : decode cL_tail 9 = .ok (.i2l, 1) := fd_get adL_tail_0 (k := 6) rfl
theorem dL_tail_10 : decode cL_tail 10 = .ok (.putfield 13, 3) := fd_get adL_tail_0 (k := 7) rfl
theorem dL_tail_13 : decode cL_tail 13 = .ok (.goto 15, 3) := fd_get adL_tail_0 (k := 8) rfl
theorem dL_tail_16 : decode cL_tail 16 = .ok (.astore 5, 2) := fd_get adL_tail_0 (k := 9) rfl
theorem dL_tail_18 : decode cL_tail 18 = .ok (.iconst 1, 1) := fd_get adL_tail_0 (k := 10) rfl
theorem dL_tail_19 : decode cL_tail 19 = .ok (.ireturn, 1) := fd_get adL_tail_0 (k := 11) rfl
theorem dL_tail_20 : decode cL_tail 20 = .ok (.astore 5, 2) := fd_get adL_tail_0 (k := 12) rfl
theorem dL_tail_22 : decode cL_tail 22 = .ok (.iconst 2, 1) := fd_get adL_tail_0 (k := 13) rfl
theorem dL_tail_23 : decode cL_tail 23 = .ok (.ireturn, 1) := fd_get adL_tail_0 (k := 14) rfl
theorem dL_tail_24 : decode cL_tail 24 = .ok (.astore 5, 2) := fd_get adL_tail_0 (k := 15) rfl
theorem dL_tail_26 : decode cL_tail 26 = .ok (.iconst 3, 1) := fd_get adL_tail_0 (k := 16) rfl
theorem dL_tail_27 : decode cL_tail 27 = .ok (.ireturn, 1) := fd_get adL_tail_0 (k := 17) rfl
theorem dL_tail_28 : decode cL_tail 28 = .ok (.iconst 0, 1) := fd_get adL_tail_0 (k := 18) rfl
theorem dL_tail_29 : decode cL_tail 29 = .ok (.ireturn, 1) := fd_get adL_tail_0 (k := 19) rfl
theorem adL_sub_0 : fd_rows (cL_sub.data.toList.drop 0) 0 [(0, some (.aload 6), 2), (2, some (.aload_n 0), 1), (3, some (.iload_n 1), 1), (4, some (.iload_n 2), 1), (5, some (.iload_n 3), 1), (6, some (.iload 4), 2), (8, some (.iload 5), 2), (10, some (.invokevirtual 89), 3), (13, some (.i2l), 1), (14, some (.putfield 13), 3), (17, some (.goto 15), 3), (20, some (.astore 7), 2), (22, some (.iconst 1), 1), (23, some (.ireturn), 1), (24, some (.astore 7), 2), (26, some (.iconst 2), 1), (27, some (.ireturn), 1), (28, some (.astore 7), 2), (30, some (.iconst 3), 1), (31, some (.ireturn), 1), (32, some (.iconst 0), 1), (33, some (.ireturn), 1)] = true := by decide +kernel
theorem dL_sub_0 : decode cL_sub 0 = .ok (.aload 6, 2) := fd_get adL_sub_0 (k := 0) rfl
theorem dL_sub_2 : decode cL_sub 2 = .ok (.aload_n 0, 1) := fd_get adL_sub_0 (k := 1) rfl
theorem dL_sub_3 : decode cL_sub 3 = .ok (.iload_n 1, 1) := fd_get adL_sub_0 (k := 2) rfl
theorem dL_sub_4 : decode cL_sub 4 = .ok (.iload_n 2, 1) := fd_get adL_sub_0 (k := 3) rfl
theorem dL_sub_5 : decode cL_sub 5 = .ok (.iload_n 3, 1) := fd_get adL_sub_0 (k := 4) rfl
theorem dL_sub_6 : decode cL_sub 6 = .ok (.iload 4, 2) := fd_get adL_sub_0 (k := 5) rfl
theorem dL_sub_8 : decode cL_sub 8 = .ok (.iload 5, 2) := fd_get adL_sub_0 (k := 6) rfl
theorem dL_sub_10 : decode cL_sub 10 = .ok (.invokevirtual 89, 3) := fd_get adL_sub_0 (k := 7) rfl
theorem dL_sub_13 : decode cL_sub 13 = .ok (.i2l, 1) := fd_get adL_sub_0 (k := 8) rfl
theorem dL_sub_14 : decode cL_sub 14 = .ok (.putfield 13, 3) := fd_get adL_sub_0 (k := 9) rfl
theorem dL_sub_17 : decode cL_sub 17 = .ok (.goto 15, 3) := fd_get adL_sub_0 (k := 10) rfl
theorem dL_sub_20 : decode cL_sub 20 = .ok (.astore 7, 2) := fd_get adL_sub_0 (k := 11) rfl
theorem dL_sub_22 : decode cL_sub 22 = .ok (.iconst 1, 1) := fd_get adL_sub_0 (k := 12) rfl
theorem dL_sub_23 : decode cL_sub 23 = .ok (.ireturn, 1) := fd_get adL_sub_0 (k := 13) rfl
theorem dL_sub_24 : decode cL_sub 24 = .ok (.astore 7, 2) := fd_get adL_sub_0 (k := 14) rfl
theorem dL_sub_26 : decode cL_sub 26 = .ok (.iconst 2, 1) := fd_get adL_sub_0 (k := 15) rfl
theorem dL_sub_27 : decode cL_sub 27 = .ok (.ireturn, 1) := fd_get adL_sub_0 (k := 16) rfl
theorem dL_sub_28 : decode cL_sub 28 = .ok (.astore 7, 2) := fd_get adL_sub_0 (k := 17) rfl
theorem dL_sub_30 : decode cL_sub 30 = .ok (.iconst 3, 1) := fd_get adL_sub_0 (k := 18) rfl
theorem dL_sub_31 : decode cL_sub 31 = .ok (.ireturn, 1) := fd_get adL_sub_0 (k := 19) rfl
theorem dL_sub_32 : decode cL_sub 32 = .ok (.iconst 0, 1) := fd_get adL_sub_0 (k := 20) rfl
theorem dL_sub_33 : decode cL_sub 33 = .ok (.ireturn, 1) := fd_get adL_sub_0 (k := 21) rfl
theorem adL_part_0 : fd_rows (cL_part.data.toList.drop 0) 0 [(0, some (.aload 6), 2), (2, some (.aload_n 0), 1), (3, some (.iload_n 1), 1), (4, some (.iload_n 2), 1), (5, some (.iload_n 3), 1), (6, some (.iload 4), 2), (8, some (.iload 5), 2), (10, some (.invokevirtual 93), 3), (13, some (.i2l), 1), (14, some (.putfield 13), 3), (17, some (.goto 15), 3), (20, some (.astore 7), 2), (22, some (.iconst 1), 1), (23, some (.ireturn), 1), (24, some (.astore 7), 2), (26, some (.iconst 2), 1), (27, some (.ireturn), 1), (28, some (.astore 7), 2), (30, some (.iconst 3), 1), (31, some (.ireturn), 1), (32, some (.iconst 0), 1), (33, some (.ireturn), 1)] = true := by decide +kernel
theorem dL_part_0 : decode cL_part 0 = .ok (.aload 6, 2) := fd_get adL_part_0 (k := 0) rfl
theorem dL_part_2 : decode cL_part 2 = .ok (.aload_n 0, 1) := fd_get adL_part_0 (k := 1) rfl
theorem dL_part_3 : decode cL_part 3 = .ok (.iload_n 1, 1) := fd_get adL_part_0 (k := 2) rfl
theorem dL_part_4 : decode cL_part 4 = .ok (.iload_n 2, 1) := fd_get adL_part_0 (k := 3) rfl
theorem dL_part_5 : decode cL_part 5 = .ok (.iload_n 3, 1) := fd_get adL_part_0 (k := 4) rfl
theorem dL_part_6 : decode cL_part 6 = .ok (.iload 4, 2) := fd_get adL_part_0 (k := 5) rfl
theorem dL_part_8 : decode cL_part 8 = .ok (.iload 5, 2) := fd_get adL_part_0 (k := 6) rfl
theorem dL_part_10 : decode cL_part 10 = .ok (.invokevirtual 93, 3) := fd_get adL_part_0 (k := 7) rfl
theorem dL_part_13 : decode cL_part 13 = .ok (.i2l, 1) := fd_get adL_part_0 (k := 8) rfl
theorem dL_part_14 : decode cL_part 14 = .ok (.putfield 13, 3) := fd_get adL_part_0 (k := 9) rfl
theorem dL_part_17 : decode cL_part 17 = .ok (.goto 15, 3) := fd_get adL_part_0 (k := 10) rfl
theorem dL_part_20 : decode cL_part 20 = .ok (.astore 7, 2) := fd_get adL_part_0 (k := 11) rfl
theorem dL_part_22 : decode cL_part 22 = .ok (.iconst 1, 1) := fd_get adL_part_0 (k := 12) rfl
theorem dL_part_23 : decode cL_part 23 = .ok (.ireturn, 1) := fd_get adL_part_0 (k := 13) rfl
theorem dL_part_24 : decode cL_part 24 = .ok (.astore 7, 2) := fd_get adL_part_0 (k := 14) rfl
theorem dL_part_26 : decode cL_part 26 = .ok (.iconst 2, 1) := fd_get adL_part_0 (k := 15) rfl
theorem dL_part_27 : decode cL_part 27 = .ok (.ireturn, 1) := fd_get adL_part_0 (k := 16) rfl
theorem dL_part_28 : decode cL_part 28 = .ok (.astore 7, 2) := fd_get adL_part_0 (k := 17) rfl
theorem dL_part_30 : decode cL_part 30 = .ok (.iconst 3, 1) := fd_get adL_part_0 (k := 18) rfl
theorem dL_part_31 : decode cL_part 31 = .ok (.ireturn, 1) := fd_get adL_part_0 (k := 19) rfl
theorem dL_part_32 : decode cL_part 32 = .ok (.iconst 0, 1) := fd_get adL_part_0 (k := 20) rfl
theorem dL_part_33 : decode cL_part 33 = .ok (.ireturn, 1) := fd_get adL_part_0 (k := 21) rfl
theorem adL_shut_0 : fd_rows (cL_shut.data.toList.drop 0) 0 [(0, some (.aload_n 2), 1), (1, some (.aload_n 0), 1), (2, some (.iload_n 1), 1), (3, some (.invokevirtual 96), 3), (6, some (.i2l), 1), (7, some (.putfield 13), 3), (10, some (.goto 6), 3), (13, some (.astore_n 3), 1), (14, some (.iconst 1), 1), (15, some (.ireturn), 1), (16, some (.iconst 0), 1), (17, some (.ireturn), 1)] = true := by decide +kernel
theorem dL_shut_0 : decode cL_shut 0 = .ok (.aload_n 2, 1) := fd_get adL_shut_0 (k := 0) rfl
theorem dL_shut_1 : decode cL_shut 1 = .ok (.aload_n 0, 1) := fd_get adL_shut_0 (k := 1) rfl
theorem dL_shut_2 : decode cL_shut 2 = .ok (.iload_n 1, 1) := fd_get adL_shut_0 (k := 2) rfl
theorem dL_shut_3 : decode cL_shut 3 = .ok (.invokevirtual 96, 3) := fd_get adL_shut_0 (k := 3) rfl
theorem dL_shut_6 : decode cL_shut 6 = .ok (.i2l, 1) := fd_get adL_shut_0 (k := 4) rfl
theorem dL_shut_7 : decode cL_shut 7 = .ok (.putfield 13, 3) := fd_get adL_shut_0 (k := 5) rfl
theorem dL_shut_10 : decode cL_shut 10 = .ok (.goto 6, 3) := fd_get adL_shut_0 (k := 6) rfl
theorem dL_shut_13 : decode cL_shut 13 = .ok (.astore_n 3, 1) := fd_get adL_shut_0 (k := 7) rfl
theorem dL_shut_14 : decode cL_shut 14 = .ok (.iconst 1, 1) := fd_get adL_shut_0 (k := 8) rfl
theorem dL_shut_15 : decode cL_shut 15 = .ok (.ireturn, 1) := fd_get adL_shut_0 (k := 9) rfl
theorem dL_shut_16 : decode cL_shut 16 = .ok (.iconst 0, 1) := fd_get adL_shut_0 (k := 10) rfl
theorem dL_shut_17 : decode cL_shut 17 = .ok (.ireturn, 1) := fd_get adL_shut_0 (k := 11) rfl
theorem adL_viewPut_0 : fd_rows (cL_viewPut.data.toList.drop 0) 0 [(0, some (.aload 4), 2), (2, some (.aload_n 0), 1), (3, some (.iload_n 1), 1), (4, some (.iload_n 2), 1), (5, some (.iload_n 3), 1), (6, some (.invokevirtual 99), 3), (9, some (.i2l), 1), (10, some (.putfield 13), 3), (13, some (.goto 11), 3), (16, some (.astore 5), 2), (18, some (.iconst 1), 1), (19, some (.ireturn), 1), (20, some (.astore 5), 2), (22, some (.iconst 2), 1), (23, some (.ireturn), 1), (24, some (.iconst 0), 1), (25, some (.ireturn), 1)] = true := by decide +kernel
theorem dL_viewPut_0 : decode cL_viewPut 0 = .ok (.aload 4, 2) := fd_get adL_viewPut_0 (k := 0) rfl
theorem dL_viewPut_2 : decode cL_viewPut 2 = .ok (.aload_n 0, 1) := fd_get adL_viewPut_0 (k := 1) rfl
theorem dL_viewPut_3 : decode cL_viewPut 3 = .ok (.iload_n 1, 1) := fd_get adL_viewPut_0 (k := 2) rfl
theorem dL_viewPut_4 : decode cL_viewPut 4 = .ok (.iload_n 2, 1) := fd_get adL_viewPut_0 (k := 3) rfl
theorem dL_viewPut_5 : decode cL_viewPut 5 = .ok (.iload_n 3, 1) := fd_get adL_viewPut_0 (k := 4) rfl
theorem dL_viewPut_6 : decode cL_viewPut 6 = .ok (.invokevirtual 99, 3) := fd_get adL_viewPut_0 (k := 5) rfl
theorem dL_viewPut_9 : decode cL_viewPut 9 = .ok (.i2l, 1) := fd_get adL_viewPut_0 (k := 6) rfl
theorem dL_viewPut_10 : decode cL_viewPut 10 = .ok (.putfield 13, 3) := fd_get adL_viewPut_0 (k := 7) rfl
theorem dL_viewPut_13 : decode cL_viewPut 13 = .ok (.goto 11, 3) := fd_get adL_viewPut_0 (k := 8) rfl
theorem dL_viewPut_16 : decode cL_viewPut 16 = .ok (.astore 5, 2) := fd_get adL_viewPut_0 (k := 9) rfl
theorem dL_viewPut_18 : decode cL_viewPut 18 = .ok (.iconst 1, 1) := fd_get adL_viewPut_0 (k := 10) rfl
theorem dL_viewPut_19 : decode cL_viewPut 19 = .ok (.ireturn, 1) := fd_get adL_viewPut_0 (k := 11) rfl
theorem dL_viewPut_20 : decode cL_viewPut 20 = .ok (.astore 5, 2) := fd_get adL_viewPut_0 (k := 12) rfl
theorem dL_viewPut_22 : decode cL_viewPut 22 = .ok (.iconst 2, 1) := fd_get adL_viewPut_0 (k := 13) rfl
theorem dL_viewPut_23 : decode cL_viewPut 23 = .ok (.ireturn, 1) := fd_get adL_viewPut_0 (k := 14) rfl
theorem dL_viewPut_24 : decode cL_viewPut 24 = .ok (.iconst 0, 1) := fd_get adL_viewPut_0 (k := 15) rfl
theorem dL_viewPut_25 : decode cL_viewPut 25 = .ok (.ireturn, 1) := fd_get adL_viewPut_0 (k := 16) rfl
theorem adL_viewStrike_0 : fd_rows (cL_viewStrike.data.toList.drop 0) 0 [(0, some (.aload_n 3), 1), (1, some (.aload_n 0), 1), (2, some (.iload_n 1), 1), (3, some (.iload_n 2), 1), (4, some (.invokevirtual 102), 3), (7, some (.i2l), 1), (8, some (.putfield 13), 3), (11, some (.goto 11), 3), (14, some (.astore 4), 2), (16, some (.iconst 1), 1), (17, some (.ireturn), 1), (18, some (.astore 4), 2), (20, some (.iconst 2), 1), (21, some (.ireturn), 1), (22, some (.iconst 0), 1), (23, some (.ireturn), 1)] = true := by decide +kernel
theorem dL_viewStrike_0 : decode cL_viewStrike 0 = .ok (.aload_n 3, 1) := fd_get adL_viewStrike_0 (k := 0) rfl
theorem dL_viewStrike_1 : decode cL_viewStrike 1 = .ok (.aload_n 0, 1) := fd_get adL_viewStrike_0 (k := 1) rfl
theorem dL_viewStrike_2 : decode cL_viewStrike 2 = .ok (.iload_n 1, 1) := fd_get adL_viewStrike_0 (k := 2) rfl
theorem dL_viewStrike_3 : decode cL_viewStrike 3 = .ok (.iload_n 2, 1) := fd_get adL_viewStrike_0 (k := 3) rfl
theorem dL_viewStrike_4 : decode cL_viewStrike 4 = .ok (.invokevirtual 102, 3) := fd_get adL_viewStrike_0 (k := 4) rfl
theorem dL_viewStrike_7 : decode cL_viewStrike 7 = .ok (.i2l, 1) := fd_get adL_viewStrike_0 (k := 5) rfl
theorem dL_viewStrike_8 : decode cL_viewStrike 8 = .ok (.putfield 13, 3) := fd_get adL_viewStrike_0 (k := 6) rfl
theorem dL_viewStrike_11 : decode cL_viewStrike 11 = .ok (.goto 11, 3) := fd_get adL_viewStrike_0 (k := 7) rfl
theorem dL_viewStrike_14 : decode cL_viewStrike 14 = .ok (.astore 4, 2) := fd_get adL_viewStrike_0 (k := 8) rfl
theorem dL_viewStrike_16 : decode cL_viewStrike 16 = .ok (.iconst 1, 1) := fd_get adL_viewStrike_0 (k := 9) rfl
theorem dL_viewStrike_17 : decode cL_viewStrike 17 = .ok (.ireturn, 1) := fd_get adL_viewStrike_0 (k := 10) rfl
theorem dL_viewStrike_18 : decode cL_viewStrike 18 = .ok (.astore 4, 2) := fd_get adL_viewStrike_0 (k := 11) rfl
theorem dL_viewStrike_20 : decode cL_viewStrike 20 = .ok (.iconst 2, 1) := fd_get adL_viewStrike_0 (k := 12) rfl
theorem dL_viewStrike_21 : decode cL_viewStrike 21 = .ok (.ireturn, 1) := fd_get adL_viewStrike_0 (k := 13) rfl
theorem dL_viewStrike_22 : decode cL_viewStrike 22 = .ok (.iconst 0, 1) := fd_get adL_viewStrike_0 (k := 14) rfl
theorem dL_viewStrike_23 : decode cL_viewStrike 23 = .ok (.ireturn, 1) := fd_get adL_viewStrike_0 (k := 15) rfl
theorem adL_viewMerge_0 : fd_rows (cL_viewMerge.data.toList.drop 0) 0 [(0, some (.aload 4), 2), (2, some (.aload_n 0), 1), (3, some (.iload_n 1), 1), (4, some (.iload_n 2), 1), (5, some (.iload_n 3), 1), (6, some (.invokevirtual 105), 3), (9, some (.i2l), 1), (10, some (.putfield 13), 3), (13, some (.goto 11), 3), (16, some (.astore 5), 2), (18, some (.iconst 1), 1), (19, some (.ireturn), 1), (20, some (.astore 5), 2), (22, some (.iconst 2), 1), (23, some (.ireturn), 1), (24, some (.iconst 0), 1), (25, some (.ireturn), 1)] = true := by decide +kernel
theorem dL_viewMerge_0 : decode cL_viewMerge 0 = .ok (.aload 4, 2) := fd_get adL_viewMerge_0 (k := 0) rfl
theorem dL_viewMerge_2 : decode cL_viewMerge 2 = .ok (.aload_n 0, 1) := fd_get adL_viewMerge_0 (k := 1) rfl
theorem dL_viewMerge_3 : decode cL_viewMerge 3 = .ok (.iload_n 1, 1) := fd_get adL_viewMerge_0 (k := 2) rfl
theorem dL_viewMerge_4 : decode cL_viewMerge 4 = .ok (.iload_n 2, 1) := fd_get adL_viewMerge_0 (k := 3) rfl
theorem dL_viewMerge_5 : decode cL_viewMerge 5 = .ok (.iload_n 3, 1) := fd_get adL_viewMerge_0 (k := 4) rfl
theorem dL_viewMerge_6 : decode cL_viewMerge 6 = .ok (.invokevirtual 105, 3) := fd_get adL_viewMerge_0 (k := 5) rfl
theorem dL_viewMerge_9 : decode cL_viewMerge 9 = .ok (.i2l, 1) := fd_get adL_viewMerge_0 (k := 6) rfl
theorem dL_viewMerge_10 : decode cL_viewMerge 10 = .ok (.putfield 13, 3) := fd_get adL_viewMerge_0 (k := 7) rfl
theorem dL_viewMerge_13 : decode cL_viewMerge 13 = .ok (.goto 11, 3) := fd_get adL_viewMerge_0 (k := 8) rfl
theorem dL_viewMerge_16 : decode cL_viewMerge 16 = .ok (.astore 5, 2) := fd_get adL_viewMerge_0 (k := 9) rfl
theorem dL_viewMerge_18 : decode cL_viewMerge 18 = .ok (.iconst 1, 1) := fd_get adL_viewMerge_0 (k := 10) rfl
theorem dL_viewMerge_19 : decode cL_viewMerge 19 = .ok (.ireturn, 1) := fd_get adL_viewMerge_0 (k := 11) rfl
theorem dL_viewMerge_20 : decode cL_viewMerge 20 = .ok (.astore 5, 2) := fd_get adL_viewMerge_0 (k := 12) rfl
theorem dL_viewMerge_22 : decode cL_viewMerge 22 = .ok (.iconst 2, 1) := fd_get adL_viewMerge_0 (k := 13) rfl
theorem dL_viewMerge_23 : decode cL_viewMerge 23 = .ok (.ireturn, 1) := fd_get adL_viewMerge_0 (k := 14) rfl
theorem dL_viewMerge_24 : decode cL_viewMerge 24 = .ok (.iconst 0, 1) := fd_get adL_viewMerge_0 (k := 15) rfl
theorem dL_viewMerge_25 : decode cL_viewMerge 25 = .ok (.ireturn, 1) := fd_get adL_viewMerge_0 (k := 16) rfl
theorem adL_viewPoll_0 : fd_rows (cL_viewPoll.data.toList.drop 0) 0 [(0, some (.aload_n 3), 1), (1, some (.aload_n 0), 1), (2, some (.iload_n 1), 1), (3, some (.iload_n 2), 1), (4, some (.invokevirtual 108), 3), (7, some (.i2l), 1), (8, some (.putfield 13), 3), (11, some (.goto 7), 3), (14, some (.astore 4), 2), (16, some (.iconst 1), 1), (17, some (.ireturn), 1), (18, some (.iconst 0), 1), (19, some (.ireturn), 1)] = true := by decide +kernel
theorem dL_viewPoll_0 : decode cL_viewPoll 0 = .ok (.aload_n 3, 1) := fd_get adL_viewPoll_0 (k := 0) rfl
theorem dL_viewPoll_1 : decode cL_viewPoll 1 = .ok (.aload_n 0, 1) := fd_get adL_viewPoll_0 (k := 1) rfl
theorem dL_viewPoll_2 : decode cL_viewPoll 2 = .ok (.iload_n 1, 1) := fd_get adL_viewPoll_0 (k := 2) rfl
theorem dL_viewPoll_3 : decode cL_viewPoll 3 = .ok (.iload_n 2, 1) := fd_get adL_viewPoll_0 (k := 3) rfl
theorem dL_viewPoll_4 : decode cL_viewPoll 4 = .ok (.invokevirtual 108, 3) := fd_get adL_viewPoll_0 (k := 4) rfl
theorem dL_viewPoll_7 : decode cL_viewPoll 7 = .ok (.i2l, 1) := fd_get adL_viewPoll_0 (k := 5) rfl
theorem dL_viewPoll_8 : decode cL_viewPoll 8 = .ok (.putfield 13, 3) := fd_get adL_viewPoll_0 (k := 6) rfl
theorem dL_viewPoll_11 : decode cL_viewPoll 11 = .ok (.goto 7, 3) := fd_get adL_viewPoll_0 (k := 7) rfl
theorem dL_viewPoll_14 : decode cL_viewPoll 14 = .ok (.astore 4, 2) := fd_get adL_viewPoll_0 (k := 8) rfl
theorem dL_viewPoll_16 : decode cL_viewPoll 16 = .ok (.iconst 1, 1) := fd_get adL_viewPoll_0 (k := 9) rfl
theorem dL_viewPoll_17 : decode cL_viewPoll 17 = .ok (.ireturn, 1) := fd_get adL_viewPoll_0 (k := 10) rfl
theorem dL_viewPoll_18 : decode cL_viewPoll 18 = .ok (.iconst 0, 1) := fd_get adL_viewPoll_0 (k := 11) rfl
theorem dL_viewPoll_19 : decode cL_viewPoll 19 = .ok (.ireturn, 1) := fd_get adL_viewPoll_0 (k := 12) rfl
theorem adL_viewClear_0 : fd_rows (cL_viewClear.data.toList.drop 0) 0 [(0, some (.aload_n 2), 1), (1, some (.aload_n 0), 1), (2, some (.iload_n 1), 1), (3, some (.invokevirtual 111), 3), (6, some (.i2l), 1), (7, some (.putfield 13), 3), (10, some (.goto 6), 3), (13, some (.astore_n 3), 1), (14, some (.iconst 1), 1), (15, some (.ireturn), 1), (16, some (.iconst 0), 1), (17, some (.ireturn), 1)] = true := by decide +kernel
theorem dL_viewClear_0 : decode cL_viewClear 0 = .ok (.aload_n 2, 1) := fd_get adL_viewClear_0 (k := 0) rfl
theorem dL_viewClear_1 : decode cL_viewClear 1 = .ok (.aload_n 0, 1) := fd_get adL_viewClear_0 (k := 1) rfl
theorem dL_viewClear_2 : decode cL_viewClear 2 = .ok (.iload_n 1, 1) := fd_get adL_viewClear_0 (k := 2) rfl
theorem dL_viewClear_3 : decode cL_viewClear 3 = .ok (.invokevirtual 111, 3) := fd_get adL_viewClear_0 (k := 3) rfl
theorem dL_viewClear_6 : decode cL_viewClear 6 = .ok (.i2l, 1) := fd_get adL_viewClear_0 (k := 4) rfl
theorem dL_viewClear_7 : decode cL_viewClear 7 = .ok (.putfield 13, 3) := fd_get adL_viewClear_0 (k := 5) rfl
theorem dL_viewClear_10 : decode cL_viewClear 10 = .ok (.goto 6, 3) := fd_get adL_viewClear_0 (k := 6) rfl
theorem dL_viewClear_13 : decode cL_viewClear 13 = .ok (.astore_n 3, 1) := fd_get adL_viewClear_0 (k := 7) rfl
theorem dL_viewClear_14 : decode cL_viewClear 14 = .ok (.iconst 1, 1) := fd_get adL_viewClear_0 (k := 8) rfl
theorem dL_viewClear_15 : decode cL_viewClear 15 = .ok (.ireturn, 1) := fd_get adL_viewClear_0 (k := 9) rfl
theorem dL_viewClear_16 : decode cL_viewClear 16 = .ok (.iconst 0, 1) := fd_get adL_viewClear_0 (k := 10) rfl
theorem dL_viewClear_17 : decode cL_viewClear 17 = .ok (.ireturn, 1) := fd_get adL_viewClear_0 (k := 11) rfl
theorem adL_walk_0 : fd_rows (cL_walk.data.toList.drop 0) 0 [(0, some (.aload_n 2), 1), (1, some (.aload_n 0), 1), (2, some (.iload_n 1), 1), (3, some (.invokevirtual 114), 3), (6, some (.i2l), 1), (7, some (.putfield 13), 3), (10, some (.goto 6), 3), (13, some (.astore_n 3), 1), (14, some (.iconst 1), 1), (15, some (.ireturn), 1), (16, some (.iconst 0), 1), (17, some (.ireturn), 1)] = true := by decide +kernel
theorem dL_walk_0 : decode cL_walk 0 = .ok (.aload_n 2, 1) := fd_get adL_walk_0 (k := 0) rfl
theorem dL_walk_1 : decode cL_walk 1 = .ok (.aload_n 0, 1) := fd_get adL_walk_0 (k := 1) rfl
theorem dL_walk_2 : decode cL_walk 2 = .ok (.iload_n 1, 1) := fd_get adL_walk_0 (k := 2) rfl
theorem dL_walk_3 : decode cL_walk 3 = .ok (.invokevirtual 114, 3) := fd_get adL_walk_0 (k := 3) rfl
theorem dL_walk_6 : decode cL_walk 6 = .ok (.i2l, 1) := fd_get adL_walk_0 (k := 4) rfl
theorem dL_walk_7 : decode cL_walk 7 = .ok (.putfield 13, 3) := fd_get adL_walk_0 (k := 5) rfl
theorem dL_walk_10 : decode cL_walk 10 = .ok (.goto 6, 3) := fd_get adL_walk_0 (k := 6) rfl
theorem dL_walk_13 : decode cL_walk 13 = .ok (.astore_n 3, 1) := fd_get adL_walk_0 (k := 7) rfl
theorem dL_walk_14 : decode cL_walk 14 = .ok (.iconst 1, 1) := fd_get adL_walk_0 (k := 8) rfl
theorem dL_walk_15 : decode cL_walk 15 = .ok (.ireturn, 1) := fd_get adL_walk_0 (k := 9) rfl
theorem dL_walk_16 : decode cL_walk 16 = .ok (.iconst 0, 1) := fd_get adL_walk_0 (k := 10) rfl
theorem dL_walk_17 : decode cL_walk 17 = .ok (.ireturn, 1) := fd_get adL_walk_0 (k := 11) rfl
theorem adL_viewWalk_0 : fd_rows (cL_viewWalk.data.toList.drop 0) 0 [(0, some (.aload_n 2), 1), (1, some (.aload_n 0), 1), (2, some (.iload_n 1), 1), (3, some (.invokevirtual 117), 3), (6, some (.i2l), 1), (7, some (.putfield 13), 3), (10, some (.goto 6), 3), (13, some (.astore_n 3), 1), (14, some (.iconst 1), 1), (15, some (.ireturn), 1), (16, some (.iconst 0), 1), (17, some (.ireturn), 1)] = true := by decide +kernel
theorem dL_viewWalk_0 : decode cL_viewWalk 0 = .ok (.aload_n 2, 1) := fd_get adL_viewWalk_0 (k := 0) rfl
theorem dL_viewWalk_1 : decode cL_viewWalk 1 = .ok (.aload_n 0, 1) := fd_get adL_viewWalk_0 (k := 1) rfl
theorem dL_viewWalk_2 : decode cL_viewWalk 2 = .ok (.iload_n 1, 1) := fd_get adL_viewWalk_0 (k := 2) rfl
theorem dL_viewWalk_3 : decode cL_viewWalk 3 = .ok (.invokevirtual 117, 3) := fd_get adL_viewWalk_0 (k := 3) rfl
theorem dL_viewWalk_6 : decode cL_viewWalk 6 = .ok (.i2l, 1) := fd_get adL_viewWalk_0 (k := 4) rfl
theorem dL_viewWalk_7 : decode cL_viewWalk 7 = .ok (.putfield 13, 3) := fd_get adL_viewWalk_0 (k := 5) rfl
theorem dL_viewWalk_10 : decode cL_viewWalk 10 = .ok (.goto 6, 3) := fd_get adL_viewWalk_0 (k := 6) rfl
theorem dL_viewWalk_13 : decode cL_viewWalk 13 = .ok (.astore_n 3, 1) := fd_get adL_viewWalk_0 (k := 7) rfl
theorem dL_viewWalk_14 : decode cL_viewWalk 14 = .ok (.iconst 1, 1) := fd_get adL_viewWalk_0 (k := 8) rfl
theorem dL_viewWalk_15 : decode cL_viewWalk 15 = .ok (.ireturn, 1) := fd_get adL_viewWalk_0 (k := 9) rfl
theorem dL_viewWalk_16 : decode cL_viewWalk 16 = .ok (.iconst 0, 1) := fd_get adL_viewWalk_0 (k := 10) rfl
theorem dL_viewWalk_17 : decode cL_viewWalk 17 = .ok (.ireturn, 1) := fd_get adL_viewWalk_0 (k := 11) rfl
theorem adL_step_0 : fd_rows (cL_step.data.toList.drop 0) 0 [(0, some (.aload_n 1), 1), (1, some (.aload_n 0), 1), (2, some (.invokevirtual 120), 3), (5, some (.i2l), 1), (6, some (.putfield 13), 3), (9, some (.goto 6), 3), (12, some (.astore_n 2), 1), (13, some (.iconst 1), 1), (14, some (.ireturn), 1), (15, some (.iconst 0), 1), (16, some (.ireturn), 1)] = true := by decide +kernel
theorem dL_step_0 : decode cL_step 0 = .ok (.aload_n 1, 1) := fd_get adL_step_0 (k := 0) rfl
theorem dL_step_1 : decode cL_step 1 = .ok (.aload_n 0, 1) := fd_get adL_step_0 (k := 1) rfl
theorem dL_step_2 : decode cL_step 2 = .ok (.invokevirtual 120, 3) := fd_get adL_step_0 (k := 2) rfl
theorem dL_step_5 : decode cL_step 5 = .ok (.i2l, 1) := fd_get adL_step_0 (k := 3) rfl
theorem dL_step_6 : decode cL_step 6 = .ok (.putfield 13, 3) := fd_get adL_step_0 (k := 4) rfl
theorem dL_step_9 : decode cL_step 9 = .ok (.goto 6, 3) := fd_get adL_step_0 (k := 5) rfl
theorem dL_step_12 : decode cL_step 12 = .ok (.astore_n 2, 1) := fd_get adL_step_0 (k := 6) rfl
theorem dL_step_13 : decode cL_step 13 = .ok (.iconst 1, 1) := fd_get adL_step_0 (k := 7) rfl
theorem dL_step_14 : decode cL_step 14 = .ok (.ireturn, 1) := fd_get adL_step_0 (k := 8) rfl
theorem dL_step_15 : decode cL_step 15 = .ok (.iconst 0, 1) := fd_get adL_step_0 (k := 9) rfl
theorem dL_step_16 : decode cL_step 16 = .ok (.ireturn, 1) := fd_get adL_step_0 (k := 10) rfl
theorem adL_write_0 : fd_rows (cL_write.data.toList.drop 0) 0 [(0, some (.aload_n 2), 1), (1, some (.aload_n 0), 1), (2, some (.iload_n 1), 1), (3, some (.invokevirtual 124), 3), (6, some (.i2l), 1), (7, some (.putfield 13), 3), (10, some (.goto 9), 3), (13, some (.astore_n 3), 1), (14, some (.iconst 1), 1), (15, some (.ireturn), 1), (16, some (.astore_n 3), 1), (17, some (.iconst 2), 1), (18, some (.ireturn), 1), (19, some (.iconst 0), 1), (20, some (.ireturn), 1)] = true := by decide +kernel
theorem dL_write_0 : decode cL_write 0 = .ok (.aload_n 2, 1) := fd_get adL_write_0 (k := 0) rfl
theorem dL_write_1 : decode cL_write 1 = .ok (.aload_n 0, 1) := fd_get adL_write_0 (k := 1) rfl
theorem dL_write_2 : decode cL_write 2 = .ok (.iload_n 1, 1) := fd_get adL_write_0 (k := 2) rfl
theorem dL_write_3 : decode cL_write 3 = .ok (.invokevirtual 124, 3) := fd_get adL_write_0 (k := 3) rfl
theorem dL_write_6 : decode cL_write 6 = .ok (.i2l, 1) := fd_get adL_write_0 (k := 4) rfl
theorem dL_write_7 : decode cL_write 7 = .ok (.putfield 13, 3) := fd_get adL_write_0 (k := 5) rfl
theorem dL_write_10 : decode cL_write 10 = .ok (.goto 9, 3) := fd_get adL_write_0 (k := 6) rfl
theorem dL_write_13 : decode cL_write 13 = .ok (.astore_n 3, 1) := fd_get adL_write_0 (k := 7) rfl
theorem dL_write_14 : decode cL_write 14 = .ok (.iconst 1, 1) := fd_get adL_write_0 (k := 8) rfl
theorem dL_write_15 : decode cL_write 15 = .ok (.ireturn, 1) := fd_get adL_write_0 (k := 9) rfl
theorem dL_write_16 : decode cL_write 16 = .ok (.astore_n 3, 1) := fd_get adL_write_0 (k := 10) rfl
theorem dL_write_17 : decode cL_write 17 = .ok (.iconst 2, 1) := fd_get adL_write_0 (k := 11) rfl
theorem dL_write_18 : decode cL_write 18 = .ok (.ireturn, 1) := fd_get adL_write_0 (k := 12) rfl
theorem dL_write_19 : decode cL_write 19 = .ok (.iconst 0, 1) := fd_get adL_write_0 (k := 13) rfl
theorem dL_write_20 : decode cL_write 20 = .ok (.ireturn, 1) := fd_get adL_write_0 (k := 14) rfl
theorem adL_drop_0 : fd_rows (cL_drop.data.toList.drop 0) 0 [(0, some (.aload_n 1), 1), (1, some (.aload_n 0), 1), (2, some (.invokevirtual 127), 3), (5, some (.i2l), 1), (6, some (.putfield 13), 3), (9, some (.goto 6), 3), (12, some (.astore_n 2), 1), (13, some (.iconst 1), 1), (14, some (.ireturn), 1), (15, some (.iconst 0), 1), (16, some (.ireturn), 1)] = true := by decide +kernel
theorem dL_drop_0 : decode cL_drop 0 = .ok (.aload_n 1, 1) := fd_get adL_drop_0 (k := 0) rfl
theorem dL_drop_1 : decode cL_drop 1 = .ok (.aload_n 0, 1) := fd_get adL_drop_0 (k := 1) rfl
theorem dL_drop_2 : decode cL_drop 2 = .ok (.invokevirtual 127, 3) := fd_get adL_drop_0 (k := 2) rfl
theorem dL_drop_5 : decode cL_drop 5 = .ok (.i2l, 1) := fd_get adL_drop_0 (k := 3) rfl
theorem dL_drop_6 : decode cL_drop 6 = .ok (.putfield 13, 3) := fd_get adL_drop_0 (k := 4) rfl
theorem dL_drop_9 : decode cL_drop 9 = .ok (.goto 6, 3) := fd_get adL_drop_0 (k := 5) rfl
theorem dL_drop_12 : decode cL_drop 12 = .ok (.astore_n 2, 1) := fd_get adL_drop_0 (k := 6) rfl
theorem dL_drop_13 : decode cL_drop 13 = .ok (.iconst 1, 1) := fd_get adL_drop_0 (k := 7) rfl
theorem dL_drop_14 : decode cL_drop 14 = .ok (.ireturn, 1) := fd_get adL_drop_0 (k := 8) rfl
theorem dL_drop_15 : decode cL_drop 15 = .ok (.iconst 0, 1) := fd_get adL_drop_0 (k := 9) rfl
theorem dL_drop_16 : decode cL_drop 16 = .ok (.ireturn, 1) := fd_get adL_drop_0 (k := 10) rfl
theorem adL_keep_0 : fd_rows (cL_keep.data.toList.drop 0) 0 [(0, some (.aload_n 3), 1), (1, some (.aload_n 0), 1), (2, some (.iload_n 1), 1), (3, some (.iload_n 2), 1), (4, some (.invokevirtual 130), 3), (7, some (.i2l), 1), (8, some (.putfield 13), 3), (11, some (.goto 7), 3), (14, some (.astore 4), 2), (16, some (.iconst 1), 1), (17, some (.ireturn), 1), (18, some (.iconst 0), 1), (19, some (.ireturn), 1)] = true := by decide +kernel
theorem dL_keep_0 : decode cL_keep 0 = .ok (.aload_n 3, 1) := fd_get adL_keep_0 (k := 0) rfl
theorem dL_keep_1 : decode cL_keep 1 = .ok (.aload_n 0, 1) := fd_get adL_keep_0 (k := 1) rfl
theorem dL_keep_2 : decode cL_keep 2 = .ok (.iload_n 1, 1) := fd_get adL_keep_0 (k := 2) rfl
theorem dL_keep_3 : decode cL_keep 3 = .ok (.iload_n 2, 1) := fd_get adL_keep_0 (k := 3) rfl
theorem dL_keep_4 : decode cL_keep 4 = .ok (.invokevirtual 130, 3) := fd_get adL_keep_0 (k := 4) rfl
theorem dL_keep_7 : decode cL_keep 7 = .ok (.i2l, 1) := fd_get adL_keep_0 (k := 5) rfl
theorem dL_keep_8 : decode cL_keep 8 = .ok (.putfield 13, 3) := fd_get adL_keep_0 (k := 6) rfl
theorem dL_keep_11 : decode cL_keep 11 = .ok (.goto 7, 3) := fd_get adL_keep_0 (k := 7) rfl
theorem dL_keep_14 : decode cL_keep 14 = .ok (.astore 4, 2) := fd_get adL_keep_0 (k := 8) rfl
theorem dL_keep_16 : decode cL_keep 16 = .ok (.iconst 1, 1) := fd_get adL_keep_0 (k := 9) rfl
theorem dL_keep_17 : decode cL_keep 17 = .ok (.ireturn, 1) := fd_get adL_keep_0 (k := 10) rfl
theorem dL_keep_18 : decode cL_keep 18 = .ok (.iconst 0, 1) := fd_get adL_keep_0 (k := 11) rfl
theorem dL_keep_19 : decode cL_keep 19 = .ok (.ireturn, 1) := fd_get adL_keep_0 (k := 12) rfl
theorem adL_brand_0 : fd_rows (cL_brand.data.toList.drop 0) 0 [(0, some (.aload_n 2), 1), (1, some (.aload_n 0), 1), (2, some (.iload_n 1), 1), (3, some (.invokevirtual 133), 3), (6, some (.i2l), 1), (7, some (.putfield 13), 3), (10, some (.goto 6), 3), (13, some (.astore_n 3), 1), (14, some (.iconst 1), 1), (15, some (.ireturn), 1), (16, some (.iconst 0), 1), (17, some (.ireturn), 1)] = true := by decide +kernel
theorem dL_brand_0 : decode cL_brand 0 = .ok (.aload_n 2, 1) := fd_get adL_brand_0 (k := 0) rfl
theorem dL_brand_1 : decode cL_brand 1 = .ok (.aload_n 0, 1) := fd_get adL_brand_0 (k := 1) rfl
theorem dL_brand_2 : decode cL_brand 2 = .ok (.iload_n 1, 1) := fd_get adL_brand_0 (k := 2) rfl
theorem dL_brand_3 : decode cL_brand 3 = .ok (.invokevirtual 133, 3) := fd_get adL_brand_0 (k := 3) rfl
theorem dL_brand_6 : decode cL_brand 6 = .ok (.i2l, 1) := fd_get adL_brand_0 (k := 4) rfl
theorem dL_brand_7 : decode cL_brand 7 = .ok (.putfield 13, 3) := fd_get adL_brand_0 (k := 5) rfl
theorem dL_brand_10 : decode cL_brand 10 = .ok (.goto 6, 3) := fd_get adL_brand_0 (k := 6) rfl
theorem dL_brand_13 : decode cL_brand 13 = .ok (.astore_n 3, 1) := fd_get adL_brand_0 (k := 7) rfl
theorem dL_brand_14 : decode cL_brand 14 = .ok (.iconst 1, 1) := fd_get adL_brand_0 (k := 8) rfl
theorem dL_brand_15 : decode cL_brand 15 = .ok (.ireturn, 1) := fd_get adL_brand_0 (k := 9) rfl
theorem dL_brand_16 : decode cL_brand 16 = .ok (.iconst 0, 1) := fd_get adL_brand_0 (k := 10) rfl
theorem dL_brand_17 : decode cL_brand 17 = .ok (.ireturn, 1) := fd_get adL_brand_0 (k := 11) rfl
theorem adL_get_0 : fd_rows (cL_get.data.toList.drop 0) 0 [(0, some (.aload_n 3), 1), (1, some (.aload_n 0), 1), (2, some (.iload_n 1), 1), (3, some (.iload_n 2), 1), (4, some (.invokevirtual 136), 3), (7, some (.i2l), 1), (8, some (.putfield 13), 3), (11, some (.goto 11), 3), (14, some (.astore 4), 2), (16, some (.iconst 1), 1), (17, some (.ireturn), 1), (18, some (.astore 4), 2), (20, some (.iconst 2), 1), (21, some (.ireturn), 1), (22, some (.iconst 0), 1), (23, some (.ireturn), 1)] = true := by decide +kernel
theorem dL_get_0 : decode cL_get 0 = .ok (.aload_n 3, 1) := fd_get adL_get_0 (k := 0) rfl
theorem dL_get_1 : decode cL_get 1 = .ok (.aload_n 0, 1) := fd_get adL_get_0 (k := 1) rfl
theorem dL_get_2 : decode cL_get 2 = .ok (.iload_n 1, 1) := fd_get adL_get_0 (k := 2) rfl
theorem dL_get_3 : decode cL_get 3 = .ok (.iload_n 2, 1) := fd_get adL_get_0 (k := 3) rfl
theorem dL_get_4 : decode cL_get 4 = .ok (.invokevirtual 136, 3) := fd_get adL_get_0 (k := 4) rfl
theorem dL_get_7 : decode cL_get 7 = .ok (.i2l, 1) := fd_get adL_get_0 (k := 5) rfl
theorem dL_get_8 : decode cL_get 8 = .ok (.putfield 13, 3) := fd_get adL_get_0 (k := 6) rfl
theorem dL_get_11 : decode cL_get 11 = .ok (.goto 11, 3) := fd_get adL_get_0 (k := 7) rfl
theorem dL_get_14 : decode cL_get 14 = .ok (.astore 4, 2) := fd_get adL_get_0 (k := 8) rfl
theorem dL_get_16 : decode cL_get 16 = .ok (.iconst 1, 1) := fd_get adL_get_0 (k := 9) rfl
theorem dL_get_17 : decode cL_get 17 = .ok (.ireturn, 1) := fd_get adL_get_0 (k := 10) rfl
theorem dL_get_18 : decode cL_get 18 = .ok (.astore 4, 2) := fd_get adL_get_0 (k := 11) rfl
theorem dL_get_20 : decode cL_get 20 = .ok (.iconst 2, 1) := fd_get adL_get_0 (k := 12) rfl
theorem dL_get_21 : decode cL_get 21 = .ok (.ireturn, 1) := fd_get adL_get_0 (k := 13) rfl
theorem dL_get_22 : decode cL_get 22 = .ok (.iconst 0, 1) := fd_get adL_get_0 (k := 14) rfl
theorem dL_get_23 : decode cL_get 23 = .ok (.ireturn, 1) := fd_get adL_get_0 (k := 15) rfl
theorem adL_getOr_0 : fd_rows (cL_getOr.data.toList.drop 0) 0 [(0, some (.aload 4), 2), (2, some (.aload_n 0), 1), (3, some (.iload_n 1), 1), (4, some (.iload_n 2), 1), (5, some (.iload_n 3), 1), (6, some (.invokevirtual 139), 3), (9, some (.i2l), 1), (10, some (.putfield 13), 3), (13, some (.goto 11), 3), (16, some (.astore 5), 2), (18, some (.iconst 1), 1), (19, some (.ireturn), 1), (20, some (.astore 5), 2), (22, some (.iconst 2), 1), (23, some (.ireturn), 1), (24, some (.iconst 0), 1), (25, some (.ireturn), 1)] = true := by decide +kernel
theorem dL_getOr_0 : decode cL_getOr 0 = .ok (.aload 4, 2) := fd_get adL_getOr_0 (k := 0) rfl
theorem dL_getOr_2 : decode cL_getOr 2 = .ok (.aload_n 0, 1) := fd_get adL_getOr_0 (k := 1) rfl
theorem dL_getOr_3 : decode cL_getOr 3 = .ok (.iload_n 1, 1) := fd_get adL_getOr_0 (k := 2) rfl
theorem dL_getOr_4 : decode cL_getOr 4 = .ok (.iload_n 2, 1) := fd_get adL_getOr_0 (k := 3) rfl
theorem dL_getOr_5 : decode cL_getOr 5 = .ok (.iload_n 3, 1) := fd_get adL_getOr_0 (k := 4) rfl
theorem dL_getOr_6 : decode cL_getOr 6 = .ok (.invokevirtual 139, 3) := fd_get adL_getOr_0 (k := 5) rfl
theorem dL_getOr_9 : decode cL_getOr 9 = .ok (.i2l, 1) := fd_get adL_getOr_0 (k := 6) rfl
theorem dL_getOr_10 : decode cL_getOr 10 = .ok (.putfield 13, 3) := fd_get adL_getOr_0 (k := 7) rfl
theorem dL_getOr_13 : decode cL_getOr 13 = .ok (.goto 11, 3) := fd_get adL_getOr_0 (k := 8) rfl
theorem dL_getOr_16 : decode cL_getOr 16 = .ok (.astore 5, 2) := fd_get adL_getOr_0 (k := 9) rfl
theorem dL_getOr_18 : decode cL_getOr 18 = .ok (.iconst 1, 1) := fd_get adL_getOr_0 (k := 10) rfl
theorem dL_getOr_19 : decode cL_getOr 19 = .ok (.ireturn, 1) := fd_get adL_getOr_0 (k := 11) rfl
theorem dL_getOr_20 : decode cL_getOr 20 = .ok (.astore 5, 2) := fd_get adL_getOr_0 (k := 12) rfl
theorem dL_getOr_22 : decode cL_getOr 22 = .ok (.iconst 2, 1) := fd_get adL_getOr_0 (k := 13) rfl
theorem dL_getOr_23 : decode cL_getOr 23 = .ok (.ireturn, 1) := fd_get adL_getOr_0 (k := 14) rfl
theorem dL_getOr_24 : decode cL_getOr 24 = .ok (.iconst 0, 1) := fd_get adL_getOr_0 (k := 15) rfl
theorem dL_getOr_25 : decode cL_getOr 25 = .ok (.ireturn, 1) := fd_get adL_getOr_0 (k := 16) rfl
theorem adL_has_0 : fd_rows (cL_has.data.toList.drop 0) 0 [(0, some (.aload_n 3), 1), (1, some (.aload_n 0), 1), (2, some (.iload_n 1), 1), (3, some (.iload_n 2), 1), (4, some (.invokevirtual 142), 3), (7, some (.ifCond .eq 7), 3), (10, some (.lconst 1), 1), (11, some (.goto 4), 3), (14, some (.lconst 0), 1), (15, some (.putfield 13), 3), (18, some (.goto 11), 3), (21, some (.astore 4), 2), (23, some (.iconst 1), 1), (24, some (.ireturn), 1), (25, some (.astore 4), 2), (27, some (.iconst 2), 1), (28, some (.ireturn), 1), (29, some (.iconst 0), 1), (30, some (.ireturn), 1)] = true := by decide +kernel
theorem dL_has_0 : decode cL_has 0 = .ok (.aload_n 3, 1) := fd_get adL_has_0 (k := 0) rfl
theorem dL_has_1 : decode cL_has 1 = .ok (.aload_n 0, 1) := fd_get adL_has_0 (k := 1) rfl
theorem dL_has_2 : decode cL_has 2 = .ok (.iload_n 1, 1) := fd_get adL_has_0 (k := 2) rfl
theorem dL_has_3 : decode cL_has 3 = .ok (.iload_n 2, 1) := fd_get adL_has_0 (k := 3) rfl
theorem dL_has_4 : decode cL_has 4 = .ok (.invokevirtual 142, 3) := fd_get adL_has_0 (k := 4) rfl
theorem dL_has_7 : decode cL_has 7 = .ok (.ifCond .eq 7, 3) := fd_get adL_has_0 (k := 5) rfl
theorem dL_has_10 : decode cL_has 10 = .ok (.lconst 1, 1) := fd_get adL_has_0 (k := 6) rfl
theorem dL_has_11 : decode cL_has 11 = .ok (.goto 4, 3) := fd_get adL_has_0 (k := 7) rfl
theorem dL_has_14 : decode cL_has 14 = .ok (.lconst 0, 1) := fd_get adL_has_0 (k := 8) rfl
theorem dL_has_15 : decode cL_has 15 = .ok (.putfield 13, 3) := fd_get adL_has_0 (k := 9) rfl
theorem dL_has_18 : decode cL_has 18 = .ok (.goto 11, 3) := fd_get adL_has_0 (k := 10) rfl
theorem dL_has_21 : decode cL_has 21 = .ok (.astore 4, 2) := fd_get adL_has_0 (k := 11) rfl
theorem dL_has_23 : decode cL_has 23 = .ok (.iconst 1, 1) := fd_get adL_has_0 (k := 12) rfl
theorem dL_has_24 : decode cL_has 24 = .ok (.ireturn, 1) := fd_get adL_has_0 (k := 13) rfl
theorem dL_has_25 : decode cL_has 25 = .ok (.astore 4, 2) := fd_get adL_has_0 (k := 14) rfl
theorem dL_has_27 : decode cL_has 27 = .ok (.iconst 2, 1) := fd_get adL_has_0 (k := 15) rfl
theorem dL_has_28 : decode cL_has 28 = .ok (.ireturn, 1) := fd_get adL_has_0 (k := 16) rfl
theorem dL_has_29 : decode cL_has 29 = .ok (.iconst 0, 1) := fd_get adL_has_0 (k := 17) rfl
theorem dL_has_30 : decode cL_has 30 = .ok (.ireturn, 1) := fd_get adL_has_0 (k := 18) rfl
theorem adL_hasValue_0 : fd_rows (cL_hasValue.data.toList.drop 0) 0 [(0, some (.aload_n 3), 1), (1, some (.aload_n 0), 1), (2, some (.iload_n 1), 1), (3, some (.iload_n 2), 1), (4, some (.invokevirtual 145), 3), (7, some (.ifCond .eq 7), 3), (10, some (.lconst 1), 1), (11, some (.goto 4), 3), (14, some (.lconst 0), 1), (15, some (.putfield 13), 3), (18, some (.goto 11), 3), (21, some (.astore 4), 2), (23, some (.iconst 1), 1), (24, some (.ireturn), 1), (25, some (.astore 4), 2), (27, some (.iconst 2), 1), (28, some (.ireturn), 1), (29, some (.iconst 0), 1), (30, some (.ireturn), 1)] = true := by decide +kernel
theorem dL_hasValue_0 : decode cL_hasValue 0 = .ok (.aload_n 3, 1) := fd_get adL_hasValue_0 (k := 0) rfl
theorem dL_hasValue_1 : decode cL_hasValue 1 = .ok (.aload_n 0, 1) := fd_get adL_hasValue_0 (k := 1) rfl
theorem dL_hasValue_2 : decode cL_hasValue 2 = .ok (.iload_n 1, 1) := fd_get adL_hasValue_0 (k := 2) rfl
theorem dL_hasValue_3 : decode cL_hasValue 3 = .ok (.iload_n 2, 1) := fd_get adL_hasValue_0 (k := 3) rfl
theorem dL_hasValue_4 : decode cL_hasValue 4 = .ok (.invokevirtual 145, 3) := fd_get adL_hasValue_0 (k := 4) rfl
theorem dL_hasValue_7 : decode cL_hasValue 7 = .ok (.ifCond .eq 7, 3) := fd_get adL_hasValue_0 (k := 5) rfl
theorem dL_hasValue_10 : decode cL_hasValue 10 = .ok (.lconst 1, 1) := fd_get adL_hasValue_0 (k := 6) rfl
theorem dL_hasValue_11 : decode cL_hasValue 11 = .ok (.goto 4, 3) := fd_get adL_hasValue_0 (k := 7) rfl
theorem dL_hasValue_14 : decode cL_hasValue 14 = .ok (.lconst 0, 1) := fd_get adL_hasValue_0 (k := 8) rfl
theorem dL_hasValue_15 : decode cL_hasValue 15 = .ok (.putfield 13, 3) := fd_get adL_hasValue_0 (k := 9) rfl
theorem dL_hasValue_18 : decode cL_hasValue 18 = .ok (.goto 11, 3) := fd_get adL_hasValue_0 (k := 10) rfl
theorem dL_hasValue_21 : decode cL_hasValue 21 = .ok (.astore 4, 2) := fd_get adL_hasValue_0 (k := 11) rfl
theorem dL_hasValue_23 : decode cL_hasValue 23 = .ok (.iconst 1, 1) := fd_get adL_hasValue_0 (k := 12) rfl
theorem dL_hasValue_24 : decode cL_hasValue 24 = .ok (.ireturn, 1) := fd_get adL_hasValue_0 (k := 13) rfl
theorem dL_hasValue_25 : decode cL_hasValue 25 = .ok (.astore 4, 2) := fd_get adL_hasValue_0 (k := 14) rfl
theorem dL_hasValue_27 : decode cL_hasValue 27 = .ok (.iconst 2, 1) := fd_get adL_hasValue_0 (k := 15) rfl
theorem dL_hasValue_28 : decode cL_hasValue 28 = .ok (.ireturn, 1) := fd_get adL_hasValue_0 (k := 16) rfl
theorem dL_hasValue_29 : decode cL_hasValue 29 = .ok (.iconst 0, 1) := fd_get adL_hasValue_0 (k := 17) rfl
theorem dL_hasValue_30 : decode cL_hasValue 30 = .ok (.ireturn, 1) := fd_get adL_hasValue_0 (k := 18) rfl
theorem adL_ofBook_0 : fd_rows (cL_ofBook.data.toList.drop 0) 0 [(0, some (.aload_n 3), 1), (1, some (.aload_n 0), 1), (2, some (.iload_n 1), 1), (3, some (.iload_n 2), 1), (4, some (.invokevirtual 148), 3), (7, some (.i2l), 1), (8, some (.putfield 13), 3), (11, some (.goto 11), 3), (14, some (.astore 4), 2), (16, some (.iconst 1), 1), (17, some (.ireturn), 1), (18, some (.astore 4), 2), (20, some (.iconst 2), 1), (21, some (.ireturn), 1), (22, some (.iconst 0), 1), (23, some (.ireturn), 1)] = true := by decide +kernel
theorem dL_ofBook_0 : decode cL_ofBook 0 = .ok (.aload_n 3, 1) := fd_get adL_ofBook_0 (k := 0) rfl
theorem dL_ofBook_1 : decode cL_ofBook 1 = .ok (.aload_n 0, 1) := fd_get adL_ofBook_0 (k := 1) rfl
theorem dL_ofBook_2 : decode cL_ofBook 2 = .ok (.iload_n 1, 1) := fd_get adL_ofBook_0 (k := 2) rfl
theorem dL_ofBook_3 : decode cL_ofBook 3 = .ok (.iload_n 2, 1) := fd_get adL_ofBook_0 (k := 3) rfl
theorem dL_ofBook_4 : decode cL_ofBook 4 = .ok (.invokevirtual 148, 3) := fd_get adL_ofBook_0 (k := 4) rfl
theorem dL_ofBook_7 : decode cL_ofBook 7 = .ok (.i2l, 1) := fd_get adL_ofBook_0 (k := 5) rfl
theorem dL_ofBook_8 : decode cL_ofBook 8 = .ok (.putfield 13, 3) := fd_get adL_ofBook_0 (k := 6) rfl
theorem dL_ofBook_11 : decode cL_ofBook 11 = .ok (.goto 11, 3) := fd_get adL_ofBook_0 (k := 7) rfl
theorem dL_ofBook_14 : decode cL_ofBook 14 = .ok (.astore 4, 2) := fd_get adL_ofBook_0 (k := 8) rfl
theorem dL_ofBook_16 : decode cL_ofBook 16 = .ok (.iconst 1, 1) := fd_get adL_ofBook_0 (k := 9) rfl
theorem dL_ofBook_17 : decode cL_ofBook 17 = .ok (.ireturn, 1) := fd_get adL_ofBook_0 (k := 10) rfl
theorem dL_ofBook_18 : decode cL_ofBook 18 = .ok (.astore 4, 2) := fd_get adL_ofBook_0 (k := 11) rfl
theorem dL_ofBook_20 : decode cL_ofBook 20 = .ok (.iconst 2, 1) := fd_get adL_ofBook_0 (k := 12) rfl
theorem dL_ofBook_21 : decode cL_ofBook 21 = .ok (.ireturn, 1) := fd_get adL_ofBook_0 (k := 13) rfl
theorem dL_ofBook_22 : decode cL_ofBook 22 = .ok (.iconst 0, 1) := fd_get adL_ofBook_0 (k := 14) rfl
theorem dL_ofBook_23 : decode cL_ofBook 23 = .ok (.ireturn, 1) := fd_get adL_ofBook_0 (k := 15) rfl
theorem adL_near_0 : fd_rows (cL_near.data.toList.drop 0) 0 [(0, some (.aload 4), 2), (2, some (.aload_n 0), 1), (3, some (.iload_n 1), 1), (4, some (.iload_n 2), 1), (5, some (.iload_n 3), 1), (6, some (.invokevirtual 151), 3), (9, some (.i2l), 1), (10, some (.putfield 13), 3), (13, some (.goto 11), 3), (16, some (.astore 5), 2), (18, some (.iconst 1), 1), (19, some (.ireturn), 1), (20, some (.astore 5), 2), (22, some (.iconst 2), 1), (23, some (.ireturn), 1), (24, some (.iconst 0), 1), (25, some (.ireturn), 1)] = true := by decide +kernel
theorem dL_near_0 : decode cL_near 0 = .ok (.aload 4, 2) := fd_get adL_near_0 (k := 0) rfl
theorem dL_near_2 : decode cL_near 2 = .ok (.aload_n 0, 1) := fd_get adL_near_0 (k := 1) rfl
theorem dL_near_3 : decode cL_near 3 = .ok (.iload_n 1, 1) := fd_get adL_near_0 (k := 2) rfl
theorem dL_near_4 : decode cL_near 4 = .ok (.iload_n 2, 1) := fd_get adL_near_0 (k := 3) rfl
theorem dL_near_5 : decode cL_near 5 = .ok (.iload_n 3, 1) := fd_get adL_near_0 (k := 4) rfl
theorem dL_near_6 : decode cL_near 6 = .ok (.invokevirtual 151, 3) := fd_get adL_near_0 (k := 5) rfl
theorem dL_near_9 : decode cL_near 9 = .ok (.i2l, 1) := fd_get adL_near_0 (k := 6) rfl
theorem dL_near_10 : decode cL_near 10 = .ok (.putfield 13, 3) := fd_get adL_near_0 (k := 7) rfl
theorem dL_near_13 : decode cL_near 13 = .ok (.goto 11, 3) := fd_get adL_near_0 (k := 8) rfl
theorem dL_near_16 : decode cL_near 16 = .ok (.astore 5, 2) := fd_get adL_near_0 (k := 9) rfl
theorem dL_near_18 : decode cL_near 18 = .ok (.iconst 1, 1) := fd_get adL_near_0 (k := 10) rfl
theorem dL_near_19 : decode cL_near 19 = .ok (.ireturn, 1) := fd_get adL_near_0 (k := 11) rfl
theorem dL_near_20 : decode cL_near 20 = .ok (.astore 5, 2) := fd_get adL_near_0 (k := 12) rfl
theorem dL_near_22 : decode cL_near 22 = .ok (.iconst 2, 1) := fd_get adL_near_0 (k := 13) rfl
theorem dL_near_23 : decode cL_near 23 = .ok (.ireturn, 1) := fd_get adL_near_0 (k := 14) rfl
theorem dL_near_24 : decode cL_near 24 = .ok (.iconst 0, 1) := fd_get adL_near_0 (k := 15) rfl
theorem dL_near_25 : decode cL_near 25 = .ok (.ireturn, 1) := fd_get adL_near_0 (k := 16) rfl
theorem adL_place_0 : fd_rows (cL_place.data.toList.drop 0) 0 [(0, some (.aload_n 3), 1), (1, some (.aload_n 0), 1), (2, some (.iload_n 1), 1), (3, some (.iload_n 2), 1), (4, some (.invokevirtual 154), 3), (7, some (.i2l), 1), (8, some (.putfield 13), 3), (11, some (.goto 11), 3), (14, some (.astore 4), 2), (16, some (.iconst 1), 1), (17, some (.ireturn), 1), (18, some (.astore 4), 2), (20, some (.iconst 2), 1), (21, some (.ireturn), 1), (22, some (.iconst 0), 1), (23, some (.ireturn), 1)] = true := by decide +kernel
theorem dL_place_0 : decode cL_place 0 = .ok (.aload_n 3, 1) := fd_get adL_place_0 (k := 0) rfl
theorem dL_place_1 : decode cL_place 1 = .ok (.aload_n 0, 1) := fd_get adL_place_0 (k := 1) rfl
theorem dL_place_2 : decode cL_place 2 = .ok (.iload_n 1, 1) := fd_get adL_place_0 (k := 2) rfl
theorem dL_place_3 : decode cL_place 3 = .ok (.iload_n 2, 1) := fd_get adL_place_0 (k := 3) rfl
theorem dL_place_4 : decode cL_place 4 = .ok (.invokevirtual 154, 3) := fd_get adL_place_0 (k := 4) rfl
theorem dL_place_7 : decode cL_place 7 = .ok (.i2l, 1) := fd_get adL_place_0 (k := 5) rfl
theorem dL_place_8 : decode cL_place 8 = .ok (.putfield 13, 3) := fd_get adL_place_0 (k := 6) rfl
theorem dL_place_11 : decode cL_place 11 = .ok (.goto 11, 3) := fd_get adL_place_0 (k := 7) rfl
theorem dL_place_14 : decode cL_place 14 = .ok (.astore 4, 2) := fd_get adL_place_0 (k := 8) rfl
theorem dL_place_16 : decode cL_place 16 = .ok (.iconst 1, 1) := fd_get adL_place_0 (k := 9) rfl
theorem dL_place_17 : decode cL_place 17 = .ok (.ireturn, 1) := fd_get adL_place_0 (k := 10) rfl
theorem dL_place_18 : decode cL_place 18 = .ok (.astore 4, 2) := fd_get adL_place_0 (k := 11) rfl
theorem dL_place_20 : decode cL_place 20 = .ok (.iconst 2, 1) := fd_get adL_place_0 (k := 12) rfl
theorem dL_place_21 : decode cL_place 21 = .ok (.ireturn, 1) := fd_get adL_place_0 (k := 13) rfl
theorem dL_place_22 : decode cL_place 22 = .ok (.iconst 0, 1) := fd_get adL_place_0 (k := 14) rfl
theorem dL_place_23 : decode cL_place 23 = .ok (.ireturn, 1) := fd_get adL_place_0 (k := 15) rfl
theorem adL_at_0 : fd_rows (cL_at.data.toList.drop 0) 0 [(0, some (.aload_n 3), 1), (1, some (.aload_n 0), 1), (2, some (.iload_n 1), 1), (3, some (.iload_n 2), 1), (4, some (.invokevirtual 157), 3), (7, some (.i2l), 1), (8, some (.putfield 13), 3), (11, some (.goto 11), 3), (14, some (.astore 4), 2), (16, some (.iconst 1), 1), (17, some (.ireturn), 1), (18, some (.astore 4), 2), (20, some (.iconst 2), 1), (21, some (.ireturn), 1), (22, some (.iconst 0), 1), (23, some (.ireturn), 1)] = true := by decide +kernel
theorem dL_at_0 : decode cL_at 0 = .ok (.aload_n 3, 1) := fd_get adL_at_0 (k := 0) rfl
theorem dL_at_1 : decode cL_at 1 = .ok (.aload_n 0, 1) := fd_get adL_at_0 (k := 1) rfl
theorem dL_at_2 : decode cL_at 2 = .ok (.iload_n 1, 1) := fd_get adL_at_0 (k := 2) rfl
theorem dL_at_3 : decode cL_at 3 = .ok (.iload_n 2, 1) := fd_get adL_at_0 (k := 3) rfl
theorem dL_at_4 : decode cL_at 4 = .ok (.invokevirtual 157, 3) := fd_get adL_at_0 (k := 4) rfl
theorem dL_at_7 : decode cL_at 7 = .ok (.i2l, 1) := fd_get adL_at_0 (k := 5) rfl
theorem dL_at_8 : decode cL_at 8 = .ok (.putfield 13, 3) := fd_get adL_at_0 (k := 6) rfl
theorem dL_at_11 : decode cL_at 11 = .ok (.goto 11, 3) := fd_get adL_at_0 (k := 7) rfl
theorem dL_at_14 : decode cL_at 14 = .ok (.astore 4, 2) := fd_get adL_at_0 (k := 8) rfl
theorem dL_at_16 : decode cL_at 16 = .ok (.iconst 1, 1) := fd_get adL_at_0 (k := 9) rfl
theorem dL_at_17 : decode cL_at 17 = .ok (.ireturn, 1) := fd_get adL_at_0 (k := 10) rfl
theorem dL_at_18 : decode cL_at 18 = .ok (.astore 4, 2) := fd_get adL_at_0 (k := 11) rfl
theorem dL_at_20 : decode cL_at 20 = .ok (.iconst 2, 1) := fd_get adL_at_0 (k := 12) rfl
theorem dL_at_21 : decode cL_at 21 = .ok (.ireturn, 1) := fd_get adL_at_0 (k := 13) rfl
theorem dL_at_22 : decode cL_at 22 = .ok (.iconst 0, 1) := fd_get adL_at_0 (k := 14) rfl
theorem dL_at_23 : decode cL_at 23 = .ok (.ireturn, 1) := fd_get adL_at_0 (k := 15) rfl
theorem adL_row_0 : fd_rows (cL_row.data.toList.drop 0) 0 [(0, some (.aload_n 2), 1), (1, some (.aload_n 0), 1), (2, some (.iload_n 1), 1), (3, some (.invokevirtual 160), 3), (6, some (.putfield 164), 3), (9, some (.goto 6), 3), (12, some (.astore_n 3), 1), (13, some (.iconst 1), 1), (14, some (.ireturn), 1), (15, some (.iconst 0), 1), (16, some (.ireturn), 1)] = true := by decide +kernel
theorem dL_row_0 : decode cL_row 0 = .ok (.aload_n 2, 1) := fd_get adL_row_0 (k := 0) rfl
theorem dL_row_1 : decode cL_row 1 = .ok (.aload_n 0, 1) := fd_get adL_row_0 (k := 1) rfl
theorem dL_row_2 : decode cL_row 2 = .ok (.iload_n 1, 1) := fd_get adL_row_0 (k := 2) rfl
theorem dL_row_3 : decode cL_row 3 = .ok (.invokevirtual 160, 3) := fd_get adL_row_0 (k := 3) rfl
theorem dL_row_6 : decode cL_row 6 = .ok (.putfield 164, 3) := fd_get adL_row_0 (k := 4) rfl
theorem dL_row_9 : decode cL_row 9 = .ok (.goto 6, 3) := fd_get adL_row_0 (k := 5) rfl
theorem dL_row_12 : decode cL_row 12 = .ok (.astore_n 3, 1) := fd_get adL_row_0 (k := 6) rfl
theorem dL_row_13 : decode cL_row 13 = .ok (.iconst 1, 1) := fd_get adL_row_0 (k := 7) rfl
theorem dL_row_14 : decode cL_row 14 = .ok (.ireturn, 1) := fd_get adL_row_0 (k := 8) rfl
theorem dL_row_15 : decode cL_row 15 = .ok (.iconst 0, 1) := fd_get adL_row_0 (k := 9) rfl
theorem dL_row_16 : decode cL_row 16 = .ok (.ireturn, 1) := fd_get adL_row_0 (k := 10) rfl
theorem adL_same_0 : fd_rows (cL_same.data.toList.drop 0) 0 [(0, some (.aload_n 3), 1), (1, some (.aload_n 0), 1), (2, some (.iload_n 1), 1), (3, some (.iload_n 2), 1), (4, some (.invokevirtual 168), 3), (7, some (.ifCond .eq 7), 3), (10, some (.lconst 1), 1), (11, some (.goto 4), 3), (14, some (.lconst 0), 1), (15, some (.putfield 13), 3), (18, some (.goto 7), 3), (21, some (.astore 4), 2), (23, some (.iconst 1), 1), (24, some (.ireturn), 1), (25, some (.iconst 0), 1), (26, some (.ireturn), 1)] = true := by decide +kernel
theorem dL_same_0 : decode cL_same 0 = .ok (.aload_n 3, 1) := fd_get adL_same_0 (k := 0) rfl
theorem dL_same_1 : decode cL_same 1 = .ok (.aload_n 0, 1) := fd_get adL_same_0 (k := 1) rfl
theorem dL_same_2 : decode cL_same 2 = .ok (.iload_n 1, 1) := fd_get adL_same_0 (k := 2) rfl
theorem dL_same_3 : decode cL_same 3 = .ok (.iload_n 2, 1) := fd_get adL_same_0 (k := 3) rfl
theorem dL_same_4 : decode cL_same 4 = .ok (.invokevirtual 168, 3) := fd_get adL_same_0 (k := 4) rfl
theorem dL_same_7 : decode cL_same 7 = .ok (.ifCond .eq 7, 3) := fd_get adL_same_0 (k := 5) rfl
theorem dL_same_10 : decode cL_same 10 = .ok (.lconst 1, 1) := fd_get adL_same_0 (k := 6) rfl
theorem dL_same_11 : decode cL_same 11 = .ok (.goto 4, 3) := fd_get adL_same_0 (k := 7) rfl
theorem dL_same_14 : decode cL_same 14 = .ok (.lconst 0, 1) := fd_get adL_same_0 (k := 8) rfl
theorem dL_same_15 : decode cL_same 15 = .ok (.putfield 13, 3) := fd_get adL_same_0 (k := 9) rfl
theorem dL_same_18 : decode cL_same 18 = .ok (.goto 7, 3) := fd_get adL_same_0 (k := 10) rfl
theorem dL_same_21 : decode cL_same 21 = .ok (.astore 4, 2) := fd_get adL_same_0 (k := 11) rfl
theorem dL_same_23 : decode cL_same 23 = .ok (.iconst 1, 1) := fd_get adL_same_0 (k := 12) rfl
theorem dL_same_24 : decode cL_same 24 = .ok (.ireturn, 1) := fd_get adL_same_0 (k := 13) rfl
theorem dL_same_25 : decode cL_same 25 = .ok (.iconst 0, 1) := fd_get adL_same_0 (k := 14) rfl
theorem dL_same_26 : decode cL_same 26 = .ok (.ireturn, 1) := fd_get adL_same_0 (k := 15) rfl
theorem adL_viewGet_0 : fd_rows (cL_viewGet.data.toList.drop 0) 0 [(0, some (.aload_n 3), 1), (1, some (.aload_n 0), 1), (2, some (.iload_n 1), 1), (3, some (.iload_n 2), 1), (4, some (.invokevirtual 171), 3), (7, some (.i2l), 1), (8, some (.putfield 13), 3), (11, some (.goto 11), 3), (14, some (.astore 4), 2), (16, some (.iconst 1), 1), (17, some (.ireturn), 1), (18, some (.astore 4), 2), (20, some (.iconst 2), 1), (21, some (.ireturn), 1), (22, some (.iconst 0), 1), (23, some (.ireturn), 1)] = true := by decide +kernel
theorem dL_viewGet_0 : decode cL_viewGet 0 = .ok (.aload_n 3, 1) := fd_get adL_viewGet_0 (k := 0) rfl
theorem dL_viewGet_1 : decode cL_viewGet 1 = .ok (.aload_n 0, 1) := fd_get adL_viewGet_0 (k := 1) rfl
theorem dL_viewGet_2 : decode cL_viewGet 2 = .ok (.iload_n 1, 1) := fd_get adL_viewGet_0 (k := 2) rfl
theorem dL_viewGet_3 : decode cL_viewGet 3 = .ok (.iload_n 2, 1) := fd_get adL_viewGet_0 (k := 3) rfl
theorem dL_viewGet_4 : decode cL_viewGet 4 = .ok (.invokevirtual 171, 3) := fd_get adL_viewGet_0 (k := 4) rfl
theorem dL_viewGet_7 : decode cL_viewGet 7 = .ok (.i2l, 1) := fd_get adL_viewGet_0 (k := 5) rfl
theorem dL_viewGet_8 : decode cL_viewGet 8 = .ok (.putfield 13, 3) := fd_get adL_viewGet_0 (k := 6) rfl
theorem dL_viewGet_11 : decode cL_viewGet 11 = .ok (.goto 11, 3) := fd_get adL_viewGet_0 (k := 7) rfl
theorem dL_viewGet_14 : decode cL_viewGet 14 = .ok (.astore 4, 2) := fd_get adL_viewGet_0 (k := 8) rfl
theorem dL_viewGet_16 : decode cL_viewGet 16 = .ok (.iconst 1, 1) := fd_get adL_viewGet_0 (k := 9) rfl
theorem dL_viewGet_17 : decode cL_viewGet 17 = .ok (.ireturn, 1) := fd_get adL_viewGet_0 (k := 10) rfl
theorem dL_viewGet_18 : decode cL_viewGet 18 = .ok (.astore 4, 2) := fd_get adL_viewGet_0 (k := 11) rfl
theorem dL_viewGet_20 : decode cL_viewGet 20 = .ok (.iconst 2, 1) := fd_get adL_viewGet_0 (k := 12) rfl
theorem dL_viewGet_21 : decode cL_viewGet 21 = .ok (.ireturn, 1) := fd_get adL_viewGet_0 (k := 13) rfl
theorem dL_viewGet_22 : decode cL_viewGet 22 = .ok (.iconst 0, 1) := fd_get adL_viewGet_0 (k := 14) rfl
theorem dL_viewGet_23 : decode cL_viewGet 23 = .ok (.ireturn, 1) := fd_get adL_viewGet_0 (k := 15) rfl
theorem adL_ofView_0 : fd_rows (cL_ofView.data.toList.drop 0) 0 [(0, some (.aload_n 3), 1), (1, some (.aload_n 0), 1), (2, some (.iload_n 1), 1), (3, some (.iload_n 2), 1), (4, some (.invokevirtual 174), 3), (7, some (.i2l), 1), (8, some (.putfield 13), 3), (11, some (.goto 11), 3), (14, some (.astore 4), 2), (16, some (.iconst 1), 1), (17, some (.ireturn), 1), (18, some (.astore 4), 2), (20, some (.iconst 2), 1), (21, some (.ireturn), 1), (22, some (.iconst 0), 1), (23, some (.ireturn), 1)] = true := by decide +kernel
theorem dL_ofView_0 : decode cL_ofView 0 = .ok (.aload_n 3, 1) := fd_get adL_ofView_0 (k := 0) rfl
theorem dL_ofView_1 : decode cL_ofView 1 = .ok (.aload_n 0, 1) := fd_get adL_ofView_0 (k := 1) rfl
theorem dL_ofView_2 : decode cL_ofView 2 = .ok (.iload_n 1, 1) := fd_get adL_ofView_0 (k := 2) rfl
theorem dL_ofView_3 : decode cL_ofView 3 = .ok (.iload_n 2, 1) := fd_get adL_ofView_0 (k := 3) rfl
theorem dL_ofView_4 : decode cL_ofView 4 = .ok (.invokevirtual 174, 3) := fd_get adL_ofView_0 (k := 4) rfl
theorem dL_ofView_7 : decode cL_ofView 7 = .ok (.i2l, 1) := fd_get adL_ofView_0 (k := 5) rfl
theorem dL_ofView_8 : decode cL_ofView 8 = .ok (.putfield 13, 3) := fd_get adL_ofView_0 (k := 6) rfl
theorem dL_ofView_11 : decode cL_ofView 11 = .ok (.goto 11, 3) := fd_get adL_ofView_0 (k := 7) rfl
theorem dL_ofView_14 : decode cL_ofView 14 = .ok (.astore 4, 2) := fd_get adL_ofView_0 (k := 8) rfl
theorem dL_ofView_16 : decode cL_ofView 16 = .ok (.iconst 1, 1) := fd_get adL_ofView_0 (k := 9) rfl
theorem dL_ofView_17 : decode cL_ofView 17 = .ok (.ireturn, 1) := fd_get adL_ofView_0 (k := 10) rfl
theorem dL_ofView_18 : decode cL_ofView 18 = .ok (.astore 4, 2) := fd_get adL_ofView_0 (k := 11) rfl
theorem dL_ofView_20 : decode cL_ofView 20 = .ok (.iconst 2, 1) := fd_get adL_ofView_0 (k := 12) rfl
theorem dL_ofView_21 : decode cL_ofView 21 = .ok (.ireturn, 1) := fd_get adL_ofView_0 (k := 13) rfl
theorem dL_ofView_22 : decode cL_ofView 22 = .ok (.iconst 0, 1) := fd_get adL_ofView_0 (k := 14) rfl
theorem dL_ofView_23 : decode cL_ofView 23 = .ok (.ireturn, 1) := fd_get adL_ofView_0 (k := 15) rfl
theorem adL_viewNear_0 : fd_rows (cL_viewNear.data.toList.drop 0) 0 [(0, some (.aload 4), 2), (2, some (.aload_n 0), 1), (3, some (.iload_n 1), 1), (4, some (.iload_n 2), 1), (5, some (.iload_n 3), 1), (6, some (.invokevirtual 177), 3), (9, some (.i2l), 1), (10, some (.putfield 13), 3), (13, some (.goto 11), 3), (16, some (.astore 5), 2), (18, some (.iconst 1), 1), (19, some (.ireturn), 1), (20, some (.astore 5), 2), (22, some (.iconst 2), 1), (23, some (.ireturn), 1), (24, some (.iconst 0), 1), (25, some (.ireturn), 1)] = true := by decide +kernel
theorem dL_viewNear_0 : decode cL_viewNear 0 = .ok (.aload 4, 2) := fd_get adL_viewNear_0 (k := 0) rfl
theorem dL_viewNear_2 : decode cL_viewNear 2 = .ok (.aload_n 0, 1) := fd_get adL_viewNear_0 (k := 1) rfl
theorem dL_viewNear_3 : decode cL_viewNear 3 = .ok (.iload_n 1, 1) := fd_get adL_viewNear_0 (k := 2) rfl
theorem dL_viewNear_4 : decode cL_viewNear 4 = .ok (.iload_n 2, 1) := fd_get adL_viewNear_0 (k := 3) rfl
theorem dL_viewNear_5 : decode cL_viewNear 5 = .ok (.iload_n 3, 1) := fd_get adL_viewNear_0 (k := 4) rfl
theorem dL_viewNear_6 : decode cL_viewNear 6 = .ok (.invokevirtual 177, 3) := fd_get adL_viewNear_0 (k := 5) rfl
theorem dL_viewNear_9 : decode cL_viewNear 9 = .ok (.i2l, 1) := fd_get adL_viewNear_0 (k := 6) rfl
theorem dL_viewNear_10 : decode cL_viewNear 10 = .ok (.putfield 13, 3) := fd_get adL_viewNear_0 (k := 7) rfl
theorem dL_viewNear_13 : decode cL_viewNear 13 = .ok (.goto 11, 3) := fd_get adL_viewNear_0 (k := 8) rfl
theorem dL_viewNear_16 : decode cL_viewNear 16 = .ok (.astore 5, 2) := fd_get adL_viewNear_0 (k := 9) rfl
theorem dL_viewNear_18 : decode cL_viewNear 18 = .ok (.iconst 1, 1) := fd_get adL_viewNear_0 (k := 10) rfl
theorem dL_viewNear_19 : decode cL_viewNear 19 = .ok (.ireturn, 1) := fd_get adL_viewNear_0 (k := 11) rfl
theorem dL_viewNear_20 : decode cL_viewNear 20 = .ok (.astore 5, 2) := fd_get adL_viewNear_0 (k := 12) rfl
theorem dL_viewNear_22 : decode cL_viewNear 22 = .ok (.iconst 2, 1) := fd_get adL_viewNear_0 (k := 13) rfl
theorem dL_viewNear_23 : decode cL_viewNear 23 = .ok (.ireturn, 1) := fd_get adL_viewNear_0 (k := 14) rfl
theorem dL_viewNear_24 : decode cL_viewNear 24 = .ok (.iconst 0, 1) := fd_get adL_viewNear_0 (k := 15) rfl
theorem dL_viewNear_25 : decode cL_viewNear 25 = .ok (.ireturn, 1) := fd_get adL_viewNear_0 (k := 16) rfl
theorem adL_viewRow_0 : fd_rows (cL_viewRow.data.toList.drop 0) 0 [(0, some (.aload_n 2), 1), (1, some (.aload_n 0), 1), (2, some (.iload_n 1), 1), (3, some (.invokevirtual 180), 3), (6, some (.putfield 164), 3), (9, some (.goto 6), 3), (12, some (.astore_n 3), 1), (13, some (.iconst 1), 1), (14, some (.ireturn), 1), (15, some (.iconst 0), 1), (16, some (.ireturn), 1)] = true := by decide +kernel
theorem dL_viewRow_0 : decode cL_viewRow 0 = .ok (.aload_n 2, 1) := fd_get adL_viewRow_0 (k := 0) rfl
theorem dL_viewRow_1 : decode cL_viewRow 1 = .ok (.aload_n 0, 1) := fd_get adL_viewRow_0 (k := 1) rfl
theorem dL_viewRow_2 : decode cL_viewRow 2 = .ok (.iload_n 1, 1) := fd_get adL_viewRow_0 (k := 2) rfl
theorem dL_viewRow_3 : decode cL_viewRow 3 = .ok (.invokevirtual 180, 3) := fd_get adL_viewRow_0 (k := 3) rfl
theorem dL_viewRow_6 : decode cL_viewRow 6 = .ok (.putfield 164, 3) := fd_get adL_viewRow_0 (k := 4) rfl
theorem dL_viewRow_9 : decode cL_viewRow 9 = .ok (.goto 6, 3) := fd_get adL_viewRow_0 (k := 5) rfl
theorem dL_viewRow_12 : decode cL_viewRow 12 = .ok (.astore_n 3, 1) := fd_get adL_viewRow_0 (k := 6) rfl
theorem dL_viewRow_13 : decode cL_viewRow 13 = .ok (.iconst 1, 1) := fd_get adL_viewRow_0 (k := 7) rfl
theorem dL_viewRow_14 : decode cL_viewRow 14 = .ok (.ireturn, 1) := fd_get adL_viewRow_0 (k := 8) rfl
theorem dL_viewRow_15 : decode cL_viewRow 15 = .ok (.iconst 0, 1) := fd_get adL_viewRow_0 (k := 9) rfl
theorem dL_viewRow_16 : decode cL_viewRow 16 = .ok (.ireturn, 1) := fd_get adL_viewRow_0 (k := 10) rfl
theorem adL_ledger_0 : fd_rows (cL_ledger.data.toList.drop 0) 0 [(0, some (.aload_n 2), 1), (1, some (.aload_n 0), 1), (2, some (.iload_n 1), 1), (3, some (.invokevirtual 183), 3), (6, some (.i2l), 1), (7, some (.putfield 13), 3), (10, some (.goto 6), 3), (13, some (.astore_n 3), 1), (14, some (.iconst 1), 1), (15, some (.ireturn), 1), (16, some (.iconst 0), 1), (17, some (.ireturn), 1)] = true := by decide +kernel
theorem dL_ledger_0 : decode cL_ledger 0 = .ok (.aload_n 2, 1) := fd_get adL_ledger_0 (k := 0) rfl
theorem dL_ledger_1 : decode cL_ledger 1 = .ok (.aload_n 0, 1) := fd_get adL_ledger_0 (k := 1) rfl
theorem dL_ledger_2 : decode cL_ledger 2 = .ok (.iload_n 1, 1) := fd_get adL_ledger_0 (k := 2) rfl
theorem dL_ledger_3 : decode cL_ledger 3 = .ok (.invokevirtual 183, 3) := fd_get adL_ledger_0 (k := 3) rfl
theorem dL_ledger_6 : decode cL_ledger 6 = .ok (.i2l, 1) := fd_get adL_ledger_0 (k := 4) rfl
theorem dL_ledger_7 : decode cL_ledger 7 = .ok (.putfield 13, 3) := fd_get adL_ledger_0 (k := 5) rfl
theorem dL_ledger_10 : decode cL_ledger 10 = .ok (.goto 6, 3) := fd_get adL_ledger_0 (k := 6) rfl
theorem dL_ledger_13 : decode cL_ledger 13 = .ok (.astore_n 3, 1) := fd_get adL_ledger_0 (k := 7) rfl
theorem dL_ledger_14 : decode cL_ledger 14 = .ok (.iconst 1, 1) := fd_get adL_ledger_0 (k := 8) rfl
theorem dL_ledger_15 : decode cL_ledger 15 = .ok (.ireturn, 1) := fd_get adL_ledger_0 (k := 9) rfl
theorem dL_ledger_16 : decode cL_ledger 16 = .ok (.iconst 0, 1) := fd_get adL_ledger_0 (k := 10) rfl
theorem dL_ledger_17 : decode cL_ledger 17 = .ok (.ireturn, 1) := fd_get adL_ledger_0 (k := 11) rfl
