theorem vx_ofWH {l : Launch} {y : MethodName} {ws ws' : List Cond} {rm : Room} {Pc : Array Value → State → Prop} {Qc : Array Value → State → Outcome → State → Prop} {XC : String → State → State → Prop} {mc ms : Nat} {free : Addr → Prop} {cc : ByteArray} {maxL : Nat} {ret : Option FieldType} {hh : List (Nat × Nat × Nat × Nat)}
    (hy : plainName y.cls = true) (hw : ws = Cond.codeWith y cc maxL ret hh :: ws')
    (body : ∀ p e s m args below meth c s₁, BodyLoose p l y (headSpec ws rm) cc maxL ret e s m args below meth c s₁ → c.maxLocals = maxL → Pc args s →
      W p l e (headSpec ws rm).room s m args below meth c s.heap [] 0 0 (vx_MQ below Qc XC args s mc ms free) (entryFrame m args maxL)) : vx_Met l y ws rm Pc Qc XC mc ms free := by
  refine MetFree.of_bodyS (code := cc) (maxLocals := maxL) (ret := ret) hy ?_ ?_
  · intro args s m h hn
    obtain ⟨m9, meth, c, hn9, h1, h2, h3, h4, -, h5, h6, -⟩ := Cond.codeWith_spec (atoms_spec (ws := ws) h _ (by rw [hw]; exact List.mem_cons_self))
    cases hn.symm.trans hn9
    exact ⟨meth, c, h1, h2, h3, h4, h5, h6⟩
  · intro p e s m args below meth c s₁ B hml hP _
    have hh0 : s₁.heap = s.heap := by rw [B.state]; rfl
    obtain ⟨t, a1, o, b1, b2, b3⟩ := body p e s m args below meth c s₁ B hml hP s₁ hh0 (Stand.of_body B)
    exact ⟨t, o, a1, b1, b2, b3⟩
/-! ===== END ===== -/

/-! ===== BEGIN printed: names, fields, word lists, decode rows ===== -/
def RX0 : String := "Rangeledger$Book"
def TX0 : u_T := fun k => match k with
  | 0 => ("Rangeledger$Book", "number", "I", true)
  | 1 => ("Rangeledger$Book", "keys", "[I", true)
  | 2 => ("Rangeledger$Book", "values", "[I", true)
  | 3 => ("Rangeledger$Book", "order", "I", false)
  | 4 => ("Rangeledger$Book", "size", "I", false)
  | 5 => ("Rangeledger$Book", "touches", "I", false)
  | _ => ("Rangeledger$Book", "keyChanges", "I", false)
def tyX0 : Nat → FieldType := fun k => match k with
  | 0 => .int
  | 1 => .array .int
  | 2 => .array .int
  | 3 => .int
  | 4 => .int
  | 5 => .int
  | _ => .int
abbrev wsX00 : List Cond := u_ws RX0 TX0 7
theorem nmX0 : ∀ a, a < 7 → ∀ b, b < 7 → a ≠ b → (TX0 a).2.1 ≠ (TX0 b).2.1 := by decide +kernel
theorem tyX0_ok : ∀ k, k < 7 → parseFieldDescriptor (TX0 k).2.2.1 = some (tyX0 k) := by decide +kernel
abbrev cX0_init : ByteArray := prog_2_method_1_code
def yX0_init : MethodName := ⟨RX0, "<init>", "(I)V"⟩
abbrev cX0_number : ByteArray := prog_2_method_2_code
def yX0_number : MethodName := ⟨RX0, "number", "()I"⟩
abbrev cX0_order : ByteArray := prog_2_method_3_code
def yX0_order : MethodName := ⟨RX0, "order", "()I"⟩
abbrev cX0_size : ByteArray := prog_2_method_4_code
def yX0_size : MethodName := ⟨RX0, "size", "()I"⟩
abbrev cX0_touches : ByteArray := prog_2_method_5_code
def yX0_touches : MethodName := ⟨RX0, "touches", "()I"⟩
abbrev cX0_keyChanges : ByteArray := prog_2_method_6_code
def yX0_keyChanges : MethodName := ⟨RX0, "keyChanges", "()I"⟩
abbrev cX0_touch : ByteArray := prog_2_method_7_code
def yX0_touch : MethodName := ⟨RX0, "touch", "()V"⟩
abbrev cX0_isAhead : ByteArray := prog_2_method_8_code
def yX0_isAhead : MethodName := ⟨RX0, "isAhead", "(II)Z"⟩
abbrev cX0_weight : ByteArray := prog_2_method_9_code
def yX0_weight : MethodName := ⟨RX0, "weight", "(I)I"⟩
abbrev cX0_placeOfWeight : ByteArray := prog_2_method_10_code
def yX0_placeOfWeight : MethodName := ⟨RX0, "placeOfWeight", "(I)I"⟩
abbrev cX0_placeOf : ByteArray := prog_2_method_11_code
def yX0_placeOf : MethodName := ⟨RX0, "placeOf", "(I)I"⟩
abbrev cX0_placeBehind : ByteArray := prog_2_method_12_code
def yX0_placeBehind : MethodName := ⟨RX0, "placeBehind", "(I)I"⟩
abbrev cX0_isPlace : ByteArray := prog_2_method_13_code
def yX0_isPlace : MethodName := ⟨RX0, "isPlace", "(I)Z"⟩
abbrev cX0_keyAt : ByteArray := prog_2_method_14_code
def yX0_keyAt : MethodName := ⟨RX0, "keyAt", "(I)I"⟩
abbrev cX0_valueAt : ByteArray := prog_2_method_15_code
def yX0_valueAt : MethodName := ⟨RX0, "valueAt", "(I)I"⟩
abbrev cX0_holds : ByteArray := prog_2_method_16_code
def yX0_holds : MethodName := ⟨RX0, "holds", "(I)Z"⟩
abbrev cX0_valueOf : ByteArray := prog_2_method_17_code
def yX0_valueOf : MethodName := ⟨RX0, "valueOf", "(I)I"⟩
abbrev cX0_firstPlaceOfValue : ByteArray := prog_2_method_18_code
def yX0_firstPlaceOfValue : MethodName := ⟨RX0, "firstPlaceOfValue", "(I)I"⟩
abbrev cX0_countOfValue : ByteArray := prog_2_method_19_code
def yX0_countOfValue : MethodName := ⟨RX0, "countOfValue", "(I)I"⟩
abbrev cX0_unlikeValues : ByteArray := prog_2_method_20_code
def yX0_unlikeValues : MethodName := ⟨RX0, "unlikeValues", "()I"⟩
abbrev cX0_sum : ByteArray := prog_2_method_21_code
def yX0_sum : MethodName := ⟨RX0, "sum", "(II)I"⟩
abbrev cX0_closest : ByteArray := prog_2_method_22_code
def yX0_closest : MethodName := ⟨RX0, "closest", "(IIII)I"⟩
abbrev cX0_enter : ByteArray := prog_2_method_23_code
def yX0_enter : MethodName := ⟨RX0, "enter", "(II)I"⟩
abbrev cX0_insert : ByteArray := prog_2_method_24_code
def yX0_insert : MethodName := ⟨RX0, "insert", "(III)V"⟩
abbrev cX0_removeKey : ByteArray := prog_2_method_25_code
def yX0_removeKey : MethodName := ⟨RX0, "removeKey", "(I)I"⟩
abbrev cX0_removeAt : ByteArray := prog_2_method_26_code
def yX0_removeAt : MethodName := ⟨RX0, "removeAt", "(I)I"⟩
abbrev cX0_removeRange : ByteArray := prog_2_method_27_code
def yX0_removeRange : MethodName := ⟨RX0, "removeRange", "(II)I"⟩
abbrev cX0_putTogether : ByteArray := prog_2_method_28_code
def yX0_putTogether : MethodName := ⟨RX0, "putTogether", "(II)I"⟩
abbrev cX0_growKey : ByteArray := prog_2_method_29_code
def yX0_growKey : MethodName := ⟨RX0, "growKey", "(I)I"⟩
abbrev cX0_halveKey : ByteArray := prog_2_method_30_code
def yX0_halveKey : MethodName := ⟨RX0, "halveKey", "(I)I"⟩
abbrev cX0_doubleKey : ByteArray := prog_2_method_31_code
def yX0_doubleKey : MethodName := ⟨RX0, "doubleKey", "(I)I"⟩
abbrev cX0_enterUnlessZero : ByteArray := prog_2_method_32_code
def yX0_enterUnlessZero : MethodName := ⟨RX0, "enterUnlessZero", "(II)I"⟩
abbrev cX0_raiseAll : ByteArray := prog_2_method_33_code
def yX0_raiseAll : MethodName := ⟨RX0, "raiseAll", "(I)I"⟩
abbrev cX0_removeMultiples : ByteArray := prog_2_method_34_code
def yX0_removeMultiples : MethodName := ⟨RX0, "removeMultiples", "(I)I"⟩
abbrev cX0_removeByOther : ByteArray := prog_2_method_35_code
def yX0_removeByOther : MethodName := ⟨RX0, "removeByOther", "(LRangeledger$Book;Z)I"⟩
abbrev cX0_enterAll : ByteArray := prog_2_method_36_code
def yX0_enterAll : MethodName := ⟨RX0, "enterAll", "(LRangeledger$Book;)V"⟩
abbrev cX0_becomeLike : ByteArray := prog_2_method_37_code
def yX0_becomeLike : MethodName := ⟨RX0, "becomeLike", "(LRangeledger$Book;)V"⟩
abbrev cX0_isLike : ByteArray := prog_2_method_38_code
def yX0_isLike : MethodName := ⟨RX0, "isLike", "(LRangeledger$Book;)Z"⟩
abbrev cX0_hasSameTotals : ByteArray := prog_2_method_39_code
def yX0_hasSameTotals : MethodName := ⟨RX0, "hasSameTotals", "(LRangeledger$Book;)Z"⟩
abbrev cX0_isInOrder : ByteArray := prog_2_method_40_code
def yX0_isInOrder : MethodName := ⟨RX0, "isInOrder", "()Z"⟩
abbrev cX0_text : ByteArray := prog_2_method_41_code
def yX0_text : MethodName := ⟨RX0, "text", "(II)Ljava/lang/String;"⟩
abbrev cX0_textLength : ByteArray := prog_2_method_42_code
def yX0_textLength : MethodName := ⟨RX0, "textLength", "(II)I"⟩
abbrev cX0_signs : ByteArray := prog_2_method_43_code
def yX0_signs : MethodName := ⟨RX0, "signs", "(I)I"⟩
abbrev cX0_bounded : ByteArray := prog_2_method_44_code
def yX0_bounded : MethodName := ⟨RX0, "bounded", "(I)I"⟩
def RX1 : String := "Rangeledger$View"
def TX1 : u_T := fun k => match k with
  | 0 => ("Rangeledger$View", "book", "LRangeledger$Book;", true)
  | 1 => ("Rangeledger$View", "lower", "I", true)
  | 2 => ("Rangeledger$View", "upper", "I", true)
  | 3 => ("Rangeledger$View", "isLowerIn", "Z", true)
  | 4 => ("Rangeledger$View", "isUpperIn", "Z", true)
  | 5 => ("Rangeledger$View", "startWeight", "I", true)
  | _ => ("Rangeledger$View", "endWeight", "I", true)
def tyX1 : Nat → FieldType := fun k => match k with
  | 0 => .object "Rangeledger$Book"
  | 1 => .int
  | 2 => .int
  | 3 => .boolean
  | 4 => .boolean
  | 5 => .int
  | _ => .int
abbrev wsX10 : List Cond := u_ws RX1 TX1 7
theorem nmX1 : ∀ a, a < 7 → ∀ b, b < 7 → a ≠ b → (TX1 a).2.1 ≠ (TX1 b).2.1 := by decide +kernel
theorem tyX1_ok : ∀ k, k < 7 → parseFieldDescriptor (TX1 k).2.2.1 = some (tyX1 k) := by decide +kernel
abbrev cX1_init : ByteArray := prog_3_method_1_code
def yX1_init : MethodName := ⟨RX1, "<init>", "(LRangeledger$Book;IZIZ)V"⟩
abbrev cX1_book : ByteArray := prog_3_method_2_code
def yX1_book : MethodName := ⟨RX1, "book", "()LRangeledger$Book;"⟩
abbrev cX1_lowerBound : ByteArray := prog_3_method_3_code
def yX1_lowerBound : MethodName := ⟨RX1, "lowerBound", "()I"⟩
abbrev cX1_upperBound : ByteArray := prog_3_method_4_code
