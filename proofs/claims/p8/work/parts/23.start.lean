/-! what the Statement gives at the start -/
theorem mU_1 : ∀ w ∈ tables_1_1, w ∈ lw_tbl := fun w h => List.mem_append_right _ (List.mem_append_left _ h)
theorem mU_2 : ∀ w ∈ tables_1_2, w ∈ lw_tbl := fun w h => List.mem_append_right _ (List.mem_append_right _ (List.mem_append_left _ h))
theorem mU_3 : ∀ w ∈ tables_1_3, w ∈ lw_tbl := fun w h => List.mem_append_right _ (List.mem_append_right _ (List.mem_append_right _ (List.mem_append_left _ h)))
theorem mU_4 : ∀ w ∈ tables_1_4, w ∈ lw_tbl := fun w h => List.mem_append_right _ (List.mem_append_right _ (List.mem_append_right _ (List.mem_append_right _ (List.mem_append_left _ h))))
theorem mU_5 : ∀ w ∈ tables_1_5, w ∈ lw_tbl := fun w h => List.mem_append_right _ (List.mem_append_right _ (List.mem_append_right _ (List.mem_append_right _ (List.mem_append_right _ (List.mem_append_left _ h)))))
theorem mU_6 : ∀ w ∈ tables_1_6, w ∈ lw_tbl := fun w h => List.mem_append_right _ (List.mem_append_right _ (List.mem_append_right _ (List.mem_append_right _ (List.mem_append_right _ (List.mem_append_right _ (List.mem_append_left _ h))))))
theorem mU_7 : ∀ w ∈ tables_1_7, w ∈ lw_tbl := fun w h => List.mem_append_right _ (List.mem_append_right _ (List.mem_append_right _ (List.mem_append_right _ (List.mem_append_right _ (List.mem_append_right _ (List.mem_append_right _ (List.mem_append_left _ h)))))))
theorem mU_8 : ∀ w ∈ tables_1_8, w ∈ lw_tbl := fun w h => List.mem_append_right _ (List.mem_append_right _ (List.mem_append_right _ (List.mem_append_right _ (List.mem_append_right _ (List.mem_append_right _ (List.mem_append_right _ (List.mem_append_right _ (h))))))))
theorem x_subp {big ws : List Cond} (ps : List Nat) (hp : ws = ps.filterMap (fun i => big[i]?)) : ∀ w ∈ ws, w ∈ big := by
  intro w hw
  rw [hp] at hw
  obtain ⟨i, -, hi⟩ := List.mem_filterMap.mp hw
  exact List.mem_of_getElem? hi
/-- the Statement's premises, one by one -/
def nfl : List Cond := flatC (Cond.and given_1 narrow_1)
/-- what they say of a String constant, of a table of digits -/
def litC (w : String × Nat × String × List Int32) : List Cond := [.exactly (.string w.1 w.2.1) "java/lang/String", .eq (.field (.string w.1 w.2.1) "java/lang/String" "coder" "B") (.int 0), .arrayOf (.field (.string w.1 w.2.1) "java/lang/String" "value" "[B") .byte, .eq (.length (.field (.string w.1 w.2.1) "java/lang/String" "value" "[B")) (.int (Int32.ofNat w.2.2.2.length))] ++ (List.range w.2.2.2.length).map (fun j => .eq (.elem (.field (.string w.1 w.2.1) "java/lang/String" "value" "[B") (.int (Int32.ofNat j))) (.int (w.2.2.2.getD j 0)))
def digC (nm : String) (f : Nat → Int32) : List Cond := [.isRef (.static "java/lang/Integer" nm "[B"), .arrayOf (.static "java/lang/Integer" nm "[B") .byte, .eq (.length (.static "java/lang/Integer" nm "[B")) (.int (Int32.ofNat 100))] ++ (List.range 100).map (fun j => .eq (.elem (.static "java/lang/Integer" nm "[B") (.int (Int32.ofNat j))) (.int (f j)))
def dgO (j : Nat) : Int32 := Int32.ofNat (48 + j % 10)
def dgT (j : Nat) : Int32 := Int32.ofNat (48 + j / 10 % 10)
theorem fit48 : ∀ r, r < 10 → fits .byte (.int (Int32.ofNat (48 + r))) = true := by decide
theorem x_litOf {w : String × Nat × String × List Int32} {args : Array Value} {s : State} {A : Nat → Prop} (h : ∀ c ∈ litC w, c.before args s = true) (hsr : (Cond.stringRef w.1 w.2.1 w.2.2.1).before args s = true) (hl : w.2.2.2.length < 2 ^ 31) (hA : ∀ a : Nat, a < s.heap.size → ¬ A a) : ∃ q v : Nat, xLit q v w A s s.heap := by
  have h1 := h _ (List.mem_append_left _ (List.mem_of_getElem? (i := 0) rfl))
  have h2 := h _ (List.mem_append_left _ (List.mem_of_getElem? (i := 1) rfl))
  have h3 := h _ (List.mem_append_left _ (List.mem_of_getElem? (i := 2) rfl))
  have h4 := h _ (List.mem_append_left _ (List.mem_of_getElem? (i := 3) rfl))
  have h5 : ∀ j : Nat, j < w.2.2.2.length → (Cond.eq (.elem (.field (.string w.1 w.2.1) "java/lang/String" "value" "[B") (.int (Int32.ofNat j))) (.int (w.2.2.2.getD j 0))).before args s = true := fun j hj => h _ (List.mem_append_right _ (List.mem_map.mpr ⟨j, List.mem_range.mpr hj, rfl⟩))
  obtain ⟨a, c, cA, kA, q1, q2, q3, q4, q5, q6, -⟩ := Cond.exactly_spec (args := args) (first := s) (o := none) (s := s) (idx := []) (t := .string w.1 w.2.1) (cls := "java/lang/String") h1
  obtain ⟨t, ht, hT⟩ := va_Tof (f := fun j => .int (w.2.2.2.getD j 0)) (A := A) hl h3 (va_eqt h4) (fun j hj => va_eqt (h5 j hj)) hA
  exact ⟨a, t, vk_R.of hsr q1, ⟨cA, q3, q5, by rw [q6]; exact q2, hA a (Array.getElem?_eq_some_iff.mp q3).1⟩, vk_OFof q1 (va_eqt h2) hA, vk_OFof q1 ht hA, hT⟩
theorem x_isArr {U : State} {cA comp : ClassId} {k : Class} {ty : FieldType} (h2 : U.vm.classes[cA]? = some k) (h3 : k.kind = .array comp ty) : ArrOfT U cA ty := fun n z => ⟨fun k h => (by cases h), k, h2, comp, h3⟩
theorem x_digOf {nm : String} {f : Nat → Int32} {args : Array Value} {s : State} {A : Nat → Prop} (h : ∀ c ∈ digC nm f, c.before args s = true) (hl : (Cond.laysStatic "java/lang/Integer" nm "[B").before args s = true) (hi : (Cond.initialized "java/lang/Integer").before args s = true) (hA : ∀ a : Nat, a < s.heap.size → ¬ A a) : ∃ t : Nat, va_Z "java/lang/Integer" nm "[B" (.ref t) A s s.heap ∧ va_T .byte t 100 (fun j => .int (f j)) A s s.heap := by
  have h2 := h _ (List.mem_append_left _ (List.mem_of_getElem? (i := 1) rfl))
  have h3 := h _ (List.mem_append_left _ (List.mem_of_getElem? (i := 2) rfl))
  have h5 : ∀ j : Nat, j < 100 → (Cond.eq (.elem (.static "java/lang/Integer" nm "[B") (.int (Int32.ofNat j))) (.int (f j))).before args s = true := fun j hj => h _ (List.mem_append_right _ (List.mem_map.mpr ⟨j, List.mem_range.mpr hj, rfl⟩))
  obtain ⟨t, ht, hT⟩ := va_Tof (f := fun j => .int (f j)) (A := A) (by decide) h2 (va_eqt h3) (fun j hj => va_eqt (h5 j hj)) hA
  exact ⟨t, va_Zof hl hi ht hA, hT⟩
set_option maxRecDepth 20000 in
theorem nl_0 : ∀ c ∈ litC ("Rangeledger", 106, "several keys have the value", [115, 101, 118, 101, 114, 97, 108, 32, 107, 101, 121, 115, 32, 104, 97, 118, 101, 32, 116, 104, 101, 32, 118, 97, 108, 117, 101]), c ∈ nfl := x_subp [465, 466, 467, 468, 469, 470, 471, 472, 473, 474, 475, 476, 477, 478, 479, 480, 481, 482, 483, 484, 485, 486, 487, 488, 489, 490, 491, 492, 493, 494, 495] (by decide +kernel)
theorem nm_0 : Cond.stringRef "Rangeledger" 106 "several keys have the value" ∈ lw_tbl := (mU_3 _ (List.mem_of_getElem? (i := 130) rfl))
set_option maxRecDepth 20000 in
theorem nl_1 : ∀ c ∈ litC ("Rangeledger", 190, "nothing is at hand", [110, 111, 116, 104, 105, 110, 103, 32, 105, 115, 32, 97, 116, 32, 104, 97, 110, 100]), c ∈ nfl := x_subp [614, 615, 616, 617, 618, 619, 620, 621, 622, 623, 624, 625, 626, 627, 628, 629, 630, 631, 632, 633, 634, 635] (by decide +kernel)
theorem nm_1 : Cond.stringRef "Rangeledger" 190 "nothing is at hand" ∈ lw_tbl := (mU_4 _ (List.mem_of_getElem? (i := 129) rfl))
set_option maxRecDepth 20000 in
theorem nl_2 : ∀ c ∈ litC ("Rangeledger", 196, "no step came to a pair that is not dropped", [110, 111, 32, 115, 116, 101, 112, 32, 99, 97, 109, 101, 32, 116, 111, 32, 97, 32, 112, 97, 105, 114, 32, 116, 104, 97, 116, 32, 105, 115, 32, 110, 111, 116, 32, 100, 114, 111, 112, 112, 101, 100]), c ∈ nfl := x_subp [647, 648, 649, 650, 651, 652, 653, 654, 655, 656, 657, 658, 659, 660, 661, 662, 663, 664, 665, 666, 667, 668, 669, 670, 671, 672, 673, 674, 675, 676, 677, 678, 679, 680, 681, 682, 683, 684, 685, 686, 687, 688, 689, 690, 691, 692] (by decide +kernel)
theorem nm_2 : Cond.stringRef "Rangeledger" 196 "no step came to a pair that is not dropped" ∈ lw_tbl := (mU_4 _ (List.mem_of_getElem? (i := 141) rfl))
set_option maxRecDepth 20000 in
theorem nl_3 : ∀ c ∈ litC ("Rangeledger", 232, "place is below 0", [112, 108, 97, 99, 101, 32, 105, 115, 32, 98, 101, 108, 111, 119, 32, 48]), c ∈ nfl := x_subp [705, 706, 707, 708, 709, 710, 711, 712, 713, 714, 715, 716, 717, 718, 719, 720, 721, 722, 723, 724] (by decide +kernel)
theorem nm_3 : Cond.stringRef "Rangeledger" 232 "place is below 0" ∈ lw_tbl := (mU_4 _ (List.mem_of_getElem? (i := 212) rfl))
set_option maxRecDepth 20000 in
theorem nl_4 : ∀ c ∈ litC ("Rangeledger", 311, "no such book", [110, 111, 32, 115, 117, 99, 104, 32, 98, 111, 111, 107]), c ∈ nfl := x_subp [302, 303, 304, 305, 306, 307, 308, 309, 310, 311, 312, 313, 314, 315, 316, 317] (by decide +kernel)
theorem nm_4 : Cond.stringRef "Rangeledger" 311 "no such book" ∈ lw_tbl := (mU_2 _ (List.mem_of_getElem? (i := 71) rfl))
set_option maxRecDepth 20000 in
theorem nl_5 : ∀ c ∈ litC ("Rangeledger", 314, "no such view is open", [110, 111, 32, 115, 117, 99, 104, 32, 118, 105, 101, 119, 32, 105, 115, 32, 111, 112, 101, 110]), c ∈ nfl := x_subp [345, 346, 347, 348, 349, 350, 351, 352, 353, 354, 355, 356, 357, 358, 359, 360, 361, 362, 363, 364, 365, 366, 367, 368] (by decide +kernel)
theorem nm_5 : Cond.stringRef "Rangeledger" 314 "no such view is open" ∈ lw_tbl := (mU_2 _ (List.mem_of_getElem? (i := 121) rfl))
set_option maxRecDepth 20000 in
theorem nl_6 : ∀ c ∈ litC ("Rangeledger", 316, "there is no walk, or it is broken", [116, 104, 101, 114, 101, 32, 105, 115, 32, 110, 111, 32, 119, 97, 108, 107, 44, 32, 111, 114, 32, 105, 116, 32, 105, 115, 32, 98, 114, 111, 107, 101, 110]), c ∈ nfl := x_subp [567, 568, 569, 570, 571, 572, 573, 574, 575, 576, 577, 578, 579, 580, 581, 582, 583, 584, 585, 586, 587, 588, 589, 590, 591, 592, 593, 594, 595, 596, 597, 598, 599, 600, 601, 602, 603] (by decide +kernel)
theorem nm_6 : Cond.stringRef "Rangeledger" 316 "there is no walk, or it is broken" ∈ lw_tbl := (mU_4 _ (List.mem_of_getElem? (i := 113) rfl))
set_option maxRecDepth 20000 in
theorem nl_7 : ∀ c ∈ litC ("Rangeledger", 321, "4 views are open", [52, 32, 118, 105, 101, 119, 115, 32, 97, 114, 101, 32, 111, 112, 101, 110]), c ∈ nfl := x_subp [538, 539, 540, 541, 542, 543, 544, 545, 546, 547, 548, 549, 550, 551, 552, 553, 554, 555, 556, 557] (by decide +kernel)
theorem nm_7 : Cond.stringRef "Rangeledger" 321 "4 views are open" ∈ lw_tbl := (mU_3 _ (List.mem_of_getElem? (i := 228) rfl))
set_option maxRecDepth 20000 in
theorem nl_8 : ∀ c ∈ litC ("Rangeledger", 323, "a key is not 0 to 99", [97, 32, 107, 101, 121, 32, 105, 115, 32, 110, 111, 116, 32, 48, 32, 116, 111, 32, 57, 57]), c ∈ nfl := x_subp [319, 320, 321, 322, 323, 324, 325, 326, 327, 328, 329, 330, 331, 332, 333, 334, 335, 336, 337, 338, 339, 340, 341, 342] (by decide +kernel)
theorem nm_8 : Cond.stringRef "Rangeledger" 323 "a key is not 0 to 99" ∈ lw_tbl := (mU_2 _ (List.mem_of_getElem? (i := 110) rfl))
set_option maxRecDepth 20000 in
theorem nl_9 : ∀ c ∈ litC ("Rangeledger", 325, "a value is not -9999 to 9999", [97, 32, 118, 97, 108, 117, 101, 32, 105, 115, 32, 110, 111, 116, 32, 45, 57, 57, 57, 57, 32, 116, 111, 32, 57, 57, 57, 57]), c ∈ nfl := x_subp [372, 373, 374, 375, 376, 377, 378, 379, 380, 381, 382, 383, 384, 385, 386, 387, 388, 389, 390, 391, 392, 393, 394, 395, 396, 397, 398, 399, 400, 401, 402, 403] (by decide +kernel)
theorem nm_9 : Cond.stringRef "Rangeledger" 325 "a value is not -9999 to 9999" ∈ lw_tbl := (mU_2 _ (List.mem_of_getElem? (i := 192) rfl))
set_option maxRecDepth 20000 in
theorem nl_10 : ∀ c ∈ litC ("Rangeledger", 327, "what is not one of those told", [119, 104, 97, 116, 32, 105, 115, 32, 110, 111, 116, 32, 111, 110, 101, 32, 111, 102, 32, 116, 104, 111, 115, 101, 32, 116, 111, 108, 100]), c ∈ nfl := x_subp [269, 270, 271, 272, 273, 274, 275, 276, 277, 278, 279, 280, 281, 282, 283, 284, 285, 286, 287, 288, 289, 290, 291, 292, 293, 294, 295, 296, 297, 298, 299, 300, 301] (by decide +kernel)
theorem nm_10 : Cond.stringRef "Rangeledger" 327 "what is not one of those told" ∈ lw_tbl := (mU_1 _ (List.mem_of_getElem? (i := 230) rfl))
set_option maxRecDepth 20000 in
theorem nl_11 : ∀ c ∈ litC ("Rangeledger", 329, "both books are the same", [98, 111, 116, 104, 32, 98, 111, 111, 107, 115, 32, 97, 114, 101, 32, 116, 104, 101, 32, 115, 97, 109, 101]), c ∈ nfl := x_subp [503, 504, 505, 506, 507, 508, 509, 510, 511, 512, 513, 514, 515, 516, 517, 518, 519, 520, 521, 522, 523, 524, 525, 526, 527, 528, 529] (by decide +kernel)
theorem nm_11 : Cond.stringRef "Rangeledger" 329 "both books are the same" ∈ lw_tbl := (mU_3 _ (List.mem_of_getElem? (i := 156) rfl))
set_option maxRecDepth 20000 in
theorem nl_12 : ∀ c ∈ litC ("Rangeledger", 88, "by is not -999 to 999", [98, 121, 32, 105, 115, 32, 110, 111, 116, 32, 45, 57, 57, 57, 32, 116, 111, 32, 57, 57, 57]), c ∈ nfl := x_subp [408, 409, 410, 411, 412, 413, 414, 415, 416, 417, 418, 419, 420, 421, 422, 423, 424, 425, 426, 427, 428, 429, 430, 431, 432] (by decide +kernel)
theorem nm_12 : Cond.stringRef "Rangeledger" 88 "by is not -999 to 999" ∈ lw_tbl := (mU_3 _ (List.mem_of_getElem? (i := 91) rfl))
set_option maxRecDepth 20000 in
theorem nl_13 : ∀ c ∈ litC ("Rangeledger", 96, "by is not 2 to 99", [98, 121, 32, 105, 115, 32, 110, 111, 116, 32, 50, 32, 116, 111, 32, 57, 57]), c ∈ nfl := x_subp [438, 439, 440, 441, 442, 443, 444, 445, 446, 447, 448, 449, 450, 451, 452, 453, 454, 455, 456, 457, 458] (by decide +kernel)
theorem nm_13 : Cond.stringRef "Rangeledger" 96 "by is not 2 to 99" ∈ lw_tbl := (mU_3 _ (List.mem_of_getElem? (i := 103) rfl))
set_option maxRecDepth 20000 in
theorem nl_14 : ∀ c ∈ litC ("Rangeledger$Book", 130, ", ", [44, 32]), c ∈ nfl := x_subp [738, 739, 740, 741, 742, 743] (by decide +kernel)
theorem nm_14 : Cond.stringRef "Rangeledger$Book" 130 ", " ∈ lw_tbl := (mU_5 _ (List.mem_of_getElem? (i := 104) rfl))
set_option maxRecDepth 20000 in
theorem nl_15 : ∀ c ∈ litC ("RangeledgerModel", 104, ", ", [44, 32]), c ∈ nfl := x_subp [822, 823, 824, 825, 826, 827] (by decide +kernel)
theorem nm_15 : Cond.stringRef "RangeledgerModel" 104 ", " ∈ lw_tbl := (mU_7 _ (List.mem_of_getElem? (i := 190) rfl))
set_option maxRecDepth 20000 in
theorem nl_16 : ∀ c ∈ litC ("RangeledgerModel", 113, "=", [61]), c ∈ nfl := x_subp [846, 847, 848, 849, 850] (by decide +kernel)
theorem nm_16 : Cond.stringRef "RangeledgerModel" 113 "=" ∈ lw_tbl := (mU_7 _ (List.mem_of_getElem? (i := 193) rfl))
set_option maxRecDepth 20000 in
theorem nl_17 : ∀ c ∈ litC ("RangeledgerModel", 119, "}", [125]), c ∈ nfl := x_subp [870, 871, 872, 873, 874] (by decide +kernel)
theorem nm_17 : Cond.stringRef "RangeledgerModel" 119 "}" ∈ lw_tbl := (mU_7 _ (List.mem_of_getElem? (i := 194) rfl))
set_option maxRecDepth 20000 in
theorem nl_18 : ∀ c ∈ litC ("RangeledgerModel", 210, "", []), c ∈ nfl := x_subp [780, 781, 782, 783] (by decide +kernel)
theorem nm_18 : Cond.stringRef "RangeledgerModel" 210 "" ∈ lw_tbl := (mU_7 _ (List.mem_of_getElem? (i := 171) rfl))
set_option maxRecDepth 20000 in
theorem nl_19 : ∀ c ∈ litC ("RangeledgerModel", 91, "{", [123]), c ∈ nfl := x_subp [800, 801, 802, 803, 804] (by decide +kernel)
theorem nm_19 : Cond.stringRef "RangeledgerModel" 91 "{" ∈ lw_tbl := (mU_7 _ (List.mem_of_getElem? (i := 177) rfl))
set_option maxRecDepth 20000 in
theorem nl_20 : ∀ c ∈ litC ("java/util/Arrays", 337, " > ", [32, 62, 32]), c ∈ nfl := x_subp [758, 759, 760, 761, 762, 763, 764] (by decide +kernel)
theorem nm_20 : Cond.stringRef "java/util/Arrays" 337 " > " ∈ lw_tbl := (mU_5 _ (List.mem_of_getElem? (i := 217) rfl))
theorem lits_ok : ∀ w ∈ xLits, (∀ c ∈ litC w, c ∈ nfl) ∧ Cond.stringRef w.1 w.2.1 w.2.2.1 ∈ lw_tbl ∧ w.2.2.2.length < 2 ^ 31 := (List.forall_mem_cons.mpr ⟨⟨nl_0, nm_0, by decide⟩, (List.forall_mem_cons.mpr ⟨⟨nl_1, nm_1, by decide⟩, (List.forall_mem_cons.mpr ⟨⟨nl_2, nm_2, by decide⟩, (List.forall_mem_cons.mpr ⟨⟨nl_3, nm_3, by decide⟩, (List.forall_mem_cons.mpr ⟨⟨nl_4, nm_4, by decide⟩, (List.forall_mem_cons.mpr ⟨⟨nl_5, nm_5, by decide⟩, (List.forall_mem_cons.mpr ⟨⟨nl_6, nm_6, by decide⟩, (List.forall_mem_cons.mpr ⟨⟨nl_7, nm_7, by decide⟩, (List.forall_mem_cons.mpr ⟨⟨nl_8, nm_8, by decide⟩, (List.forall_mem_cons.mpr ⟨⟨nl_9, nm_9, by decide⟩, (List.forall_mem_cons.mpr ⟨⟨nl_10, nm_10, by decide⟩, (List.forall_mem_cons.mpr ⟨⟨nl_11, nm_11, by decide⟩, (List.forall_mem_cons.mpr ⟨⟨nl_12, nm_12, by decide⟩, (List.forall_mem_cons.mpr ⟨⟨nl_13, nm_13, by decide⟩, (List.forall_mem_cons.mpr ⟨⟨nl_14, nm_14, by decide⟩, (List.forall_mem_cons.mpr ⟨⟨nl_15, nm_15, by decide⟩, (List.forall_mem_cons.mpr ⟨⟨nl_16, nm_16, by decide⟩, (List.forall_mem_cons.mpr ⟨⟨nl_17, nm_17, by decide⟩, (List.forall_mem_cons.mpr ⟨⟨nl_18, nm_18, by decide⟩, (List.forall_mem_cons.mpr ⟨⟨nl_19, nm_19, by decide⟩, (List.forall_mem_cons.mpr ⟨⟨nl_20, nm_20, by decide⟩, (fun _ h => absurd h List.not_mem_nil)⟩)⟩)⟩)⟩)⟩)⟩)⟩)⟩)⟩)⟩)⟩)⟩)⟩)⟩)⟩)⟩)⟩)⟩)⟩)⟩)⟩)
set_option maxRecDepth 20000 in
theorem nd_dgO : ∀ c ∈ digC "DigitOnes" dgO, c ∈ nfl := x_subp [11, 12, 13, 14, 15, 16, 17, 18, 19, 20, 21, 22, 23, 24, 25, 26, 27, 28, 29, 30, 31, 32, 33, 34, 35, 36, 37, 38, 39, 40, 41, 42, 43, 44, 45, 46, 47, 48, 49, 50, 51, 52, 53, 54, 55, 56, 57, 58, 59, 60, 61, 62, 63, 64, 65, 66, 67, 68, 69, 70, 71, 72, 73, 74, 75, 76, 77, 78, 79, 80, 81, 82, 83, 84, 85, 86, 87, 88, 89, 90, 91, 92, 93, 94, 95, 96, 97, 98, 99, 100, 101, 102, 103, 104, 105, 106, 107, 108, 109, 110, 111, 112, 113] (by decide +kernel)
set_option maxRecDepth 20000 in
theorem nd_dgT : ∀ c ∈ digC "DigitTens" dgT, c ∈ nfl := x_subp [114, 115, 116, 117, 118, 119, 120, 121, 122, 123, 124, 125, 126, 127, 128, 129, 130, 131, 132, 133, 134, 135, 136, 137, 138, 139, 140, 141, 142, 143, 144, 145, 146, 147, 148, 149, 150, 151, 152, 153, 154, 155, 156, 157, 158, 159, 160, 161, 162, 163, 164, 165, 166, 167, 168, 169, 170, 171, 172, 173, 174, 175, 176, 177, 178, 179, 180, 181, 182, 183, 184, 185, 186, 187, 188, 189, 190, 191, 192, 193, 194, 195, 196, 197, 198, 199, 200, 201, 202, 203, 204, 205, 206, 207, 208, 209, 210, 211, 212, 213, 214, 215, 216] (by decide +kernel)
def misC : List Cond := [.isRef (.static "java/lang/Throwable" "UNASSIGNED_STACK" "[Ljava/lang/StackTraceElement;"), .isRef (.static "java/lang/Throwable" "SUPPRESSED_SENTINEL" "Ljava/util/List;"), .eq (.static "java/lang/String" "COMPACT_STRINGS" "Z") (.int 1)]
theorem nmis : ∀ c ∈ misC, c ∈ nfl := x_subp [4, 5, 6] (by decide +kernel)
theorem nnot : ∀ c ∈ xNots.map (fun w => Cond.not (.castable w.1 w.2)), c ∈ nfl := x_subp [231, 241, 221, 242, 222, 232] (by decide +kernel)
theorem cls_ok {s : State} {args : Array Value} (hts : ∀ w ∈ lw_tbl, w.before args s = true) : ∀ q ∈ vwCl, ∃ (cC : ClassId) (iS : Nat → Nat), u_Kn s q.1 q.2.1 q.2.2 cC iS := (List.forall_mem_cons.mpr ⟨u_known (C := RJ0) (T := TJ0) (N := 4) (n := 4) (x_selX hts) inJ0 (hts _ (mU_5 _ (List.mem_of_getElem? (i := 182) rfl))), (List.forall_mem_cons.mpr ⟨u_known (C := RJ4) (T := TJ4) (N := 4) (n := 4) (x_selX hts) inJ4 (hts _ (mU_4 _ (List.mem_of_getElem? (i := 225) rfl))), (List.forall_mem_cons.mpr ⟨u_known (C := RX0) (T := TX0) (N := 7) (n := 7) (x_selX hts) inX0 (hts _ (mU_1 _ (List.mem_of_getElem? (i := 34) rfl))), (List.forall_mem_cons.mpr ⟨u_known (C := RX1) (T := TX1) (N := 7) (n := 7) (x_selX hts) inX1 (hts _ (mU_3 _ (List.mem_of_getElem? (i := 196) rfl))), (List.forall_mem_cons.mpr ⟨u_known (C := RX2) (T := TX2) (N := 5) (n := 5) (x_selX hts) inX2 (hts _ (mU_4 _ (List.mem_of_getElem? (i := 74) rfl))), (List.forall_mem_cons.mpr ⟨u_known (C := RX3) (T := TX3) (N := 6) (n := 6) (x_selX hts) inX3 (hts _ (mU_1 _ (List.mem_of_getElem? (i := 25) rfl))), (List.forall_mem_cons.mpr ⟨u_known (C := RX4) (T := TX4) (N := 2) (n := 2) (x_selX hts) inX4 (hts _ (mU_2 _ (List.mem_of_getElem? (i := 164) rfl))), (List.forall_mem_cons.mpr ⟨u_known (C := RX5) (T := TX5) (N := 13) (n := 13) (x_selX hts) inX5 (hts _ (mU_6 _ (List.mem_of_getElem? (i := 39) rfl))), (fun _ h => absurd h List.not_mem_nil)⟩)⟩)⟩)⟩)⟩)⟩)⟩)⟩)
theorem cast_ok {s : State} {args : Array Value} (hts : ∀ w ∈ lw_tbl, w.before args s = true) : ∀ w ∈ xCasts, va_Nw (.castable w.1 w.2) s := (List.forall_mem_cons.mpr ⟨va_Nw.of rfl (hts (.castable "java/lang/IndexOutOfBoundsException" "java/lang/IndexOutOfBoundsException") (mU_2 _ (List.mem_of_getElem? (i := 64) rfl))), (List.forall_mem_cons.mpr ⟨va_Nw.of rfl (hts (.castable "java/lang/IllegalArgumentException" "java/lang/IllegalArgumentException") (mU_1 _ (List.mem_of_getElem? (i := 191) rfl))), (List.forall_mem_cons.mpr ⟨va_Nw.of rfl (hts (.castable "java/lang/IllegalStateException" "java/lang/IllegalStateException") (mU_3 _ (List.mem_of_getElem? (i := 123) rfl))), (List.forall_mem_cons.mpr ⟨va_Nw.of rfl (hts (.castable "[I" "java/lang/Cloneable") (mU_7 _ (List.mem_of_getElem? (i := 78) rfl))), (List.forall_mem_cons.mpr ⟨va_Nw.of rfl (hts (.castable "[B" "java/lang/Cloneable") (mU_5 _ (List.mem_of_getElem? (i := 47) rfl))), (fun _ h => absurd h List.not_mem_nil)⟩)⟩)⟩)⟩)⟩)
theorem decl_ok {s : State} {args : Array Value} (hts : ∀ w ∈ lw_tbl, w.before args s = true) : ∀ w ∈ xDecls, va_Nw (.declares (Bundle.initS w)) s := (List.forall_mem_cons.mpr ⟨va_Nw.of rfl (hts (.declares (Bundle.initS "java/lang/RuntimeException")) (mU_1 _ (List.mem_of_getElem? (i := 193) rfl))), (List.forall_mem_cons.mpr ⟨va_Nw.of rfl (hts (.declares (Bundle.initS "java/lang/Exception")) (mU_1 _ (List.mem_of_getElem? (i := 195) rfl))), (List.forall_mem_cons.mpr ⟨va_Nw.of rfl (hts (.declares (Bundle.initS "java/lang/Throwable")) (mU_1 _ (List.mem_of_getElem? (i := 197) rfl))), (fun _ h => absurd h List.not_mem_nil)⟩)⟩)⟩)
theorem not_ok {s : State} {args : Array Value} (hn : ∀ c ∈ nfl, c.before args s = true) : ∀ w ∈ xNots, va_Nc w.1 w.2 s := fun w hw => va_Nc.of (hn _ (nnot _ (List.mem_map.mpr ⟨w, hw, rfl⟩)))
theorem nest_ok {s : State} {args : Array Value} (hts : ∀ w ∈ lw_tbl, w.before args s = true) : xNest s := ⟨va_Nw.of rfl (hts _ (mU_2 _ (List.mem_of_getElem? (i := 169) rfl))), va_Nw.of rfl (hts _ (mU_2 _ (List.mem_of_getElem? (i := 170) rfl))), va_Nw.of rfl (hts _ (mU_2 _ (List.mem_of_getElem? (i := 165) rfl)))⟩
theorem x_start {s : State} {args : Array Value} (hts : ∀ w ∈ lw_tbl, w.before args s = true) (hgv : (Cond.and given_1 narrow_1).before args s = true) : ∃ G : xG, xS G (xA (fun _ => none) s.heap.size) s s.heap := by
  have hA : ∀ a : Nat, a < s.heap.size → ¬ xA (fun _ => none) s.heap.size a := fun a h h9 => h9.elim (fun h8 => h8 rfl) (fun h8 => by omega)
  have hn : ∀ c ∈ nfl, c.before args s = true := flat_of_before _ hgv
  have hl : ∀ n : Nat, ∃ qv : Nat × Nat, ∀ w, xLits[n]? = some w → xLit qv.1 qv.2 w (xA (fun _ => none) s.heap.size) s s.heap := fun n => by
    cases e : xLits[n]? with
    | none => exact ⟨(0, 0), fun w hw => nomatch hw⟩
    | some w =>
      obtain ⟨k1, k2, k3⟩ := lits_ok w (List.mem_of_getElem? e)
      obtain ⟨q, v, hL⟩ := x_litOf (fun c hc => hn c (k1 c hc)) (hts _ k2) k3 hA
      exact ⟨(q, v), fun w2 h2 => by cases h2; exact hL⟩
  obtain ⟨ad, had⟩ := Classical.axiomOfChoice hl
  have hcl : ∀ k : Nat, ∃ x : ClassId × (Nat → Nat), ∀ q : vw_C, vwCl[k]? = some q → u_Kn s q.1 q.2.1 q.2.2 x.1 x.2 := fun k => by
    cases e : vwCl[k]? with
    | none => exact ⟨(0, fun _ => 0), fun q h => nomatch h⟩
    | some q =>
      obtain ⟨cC, iS, hk⟩ := cls_ok hts q (List.mem_of_getElem? e)
      exact ⟨(cC, iS), fun q2 h2 => by cases h2; exact hk⟩
  obtain ⟨fc, hfc⟩ := Classical.axiomOfChoice hcl
  obtain ⟨c0, k0, m0, a0, a1, a2⟩ := Cond.arrayClass_spec (hts (.arrayClass .byte) (mU_2 _ (List.mem_of_getElem? (i := 16) rfl)))
  obtain ⟨c1, k1, m1, b0, b1, b2⟩ := Cond.arrayClass_spec (hts (.arrayClass .int) (mU_1 _ (List.mem_of_getElem? (i := 61) rfl)))
  obtain ⟨m2, c2, k2, d0, -, d1, d2, d3⟩ := Cond.arrayOver_spec (hts (.arrayOver (.object RX0)) (mU_1 _ (List.mem_of_getElem? (i := 33) rfl)))
  obtain ⟨m3, c3, k3, e0, -, e1, e2, e3⟩ := Cond.arrayOver_spec (hts (.arrayOver (.object RX1)) (mU_1 _ (List.mem_of_getElem? (i := 63) rfl)))
  obtain ⟨m4, c4, k4, f0, f1, f2, f3⟩ := Cond.arrayOver_specA (hts (.arrayOver (.array .int)) (mU_6 _ (List.mem_of_getElem? (i := 45) rfl)))
  let gx : Nat → Nat := fun i => if i < 100 then (if i = 0 then c0 else if i = 1 then c1 else if i = 2 then c2 else if i = 3 then c3 else c4) else if i % 2 = 0 then (ad ((i - 100) / 2)).1 else (ad ((i - 101) / 2)).2
  have g1 : ∀ n : Nat, gx (100 + 2 * n) = (ad n).1 := fun n => by
    show (if 100 + 2 * n < 100 then _ else _) = _
    rw [if_neg (by omega), if_pos (by omega), show (100 + 2 * n - 100) / 2 = n by omega]
  have g2 : ∀ n : Nat, gx (101 + 2 * n) = (ad n).2 := fun n => by
    show (if 101 + 2 * n < 100 then _ else _) = _
    rw [if_neg (by omega), if_neg (by omega), show (101 + 2 * n - 101) / 2 = n by omega]
  obtain ⟨t1, hz1, ht1⟩ := x_digOf (f := dgT) (fun c hc => hn c (nd_dgT c hc)) (hts _ (mU_5 _ (List.mem_of_getElem? (i := 168) rfl))) (hts _ (mU_1 _ (List.mem_of_getElem? (i := 23) rfl))) hA
  obtain ⟨t2, hz2, ht2⟩ := x_digOf (f := dgO) (fun c hc => hn c (nd_dgO c hc)) (hts _ (mU_5 _ (List.mem_of_getElem? (i := 166) rfl))) (hts _ (mU_1 _ (List.mem_of_getElem? (i := 23) rfl))) hA
  refine ⟨((fun k => (fc k).1, fun k => (fc k).2), gx), ⟨hfc, fun k q hq => ?_⟩, ⟨vx_Zqof (hts _ (mU_1 _ (List.mem_of_getElem? (i := 216) rfl))) (hts _ (mU_1 _ (List.mem_of_getElem? (i := 5) rfl))) (hn _ (nmis _ (List.mem_of_getElem? (i := 0) rfl))) hA, vx_Zqof (hts _ (mU_1 _ (List.mem_of_getElem? (i := 218) rfl))) (hts _ (mU_1 _ (List.mem_of_getElem? (i := 5) rfl))) (hn _ (nmis _ (List.mem_of_getElem? (i := 1) rfl))) hA⟩, fun n w hw => ?_, ⟨cast_ok hts, decl_ok hts⟩, not_ok hn, ⟨va_AO.of (hts _ (mU_1 _ (List.mem_of_getElem? (i := 33) rfl))), va_AO.of (hts _ (mU_1 _ (List.mem_of_getElem? (i := 63) rfl))), ?_, nest_ok hts⟩, va_Zof (hts _ (mU_4 _ (List.mem_of_getElem? (i := 234) rfl))) (hts _ (mU_1 _ (List.mem_of_getElem? (i := 17) rfl))) (va_eqt (hn _ (nmis _ (List.mem_of_getElem? (i := 2) rfl)))) hA, t1, t2, dgT, dgO, hz1, ht1, hz2, ht2, fun j => ⟨fit48 _ (Nat.mod_lt _ (by decide)), fit48 _ (Nat.mod_lt _ (by decide))⟩⟩
  · have hall : ∀ q ∈ xTy gx, ArrOfT s q.1 q.2 ∧ va_RA s q.1 q.2 :=
      List.forall_mem_cons.mpr ⟨⟨x_isArr a1 a2, a0⟩, List.forall_mem_cons.mpr ⟨⟨x_isArr b1 b2, b0⟩, List.forall_mem_cons.mpr ⟨⟨x_isArr d1 d2, k2, m2, d1, d2, d0, d3⟩, List.forall_mem_cons.mpr ⟨⟨x_isArr e1 e2, k3, m3, e1, e2, e0, e3⟩, List.forall_mem_cons.mpr ⟨⟨x_isArr f1 f2, f3⟩, fun _ h => absurd h List.not_mem_nil⟩⟩⟩⟩⟩
    exact hall q (List.mem_of_getElem? hq)
  · show xLit (gx (100 + 2 * n)) (gx (101 + 2 * n)) w _ s s.heap
    rw [g1, g2]; exact had n w hw
  · exact hts (.arrayOver (.array .int)) (mU_6 _ (List.mem_of_getElem? (i := 45) rfl))
