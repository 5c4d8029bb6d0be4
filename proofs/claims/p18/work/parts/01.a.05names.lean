abbrev cJ6_getChars_ba4f3 : ByteArray := prog_14_method_12_code
def yJ6_getChars_ba4f3 : MethodName := ⟨RJ6, "getChars", "(II[B)I"⟩
abbrev cJ6_stringSize_0f7a4 : ByteArray := prog_14_method_13_code
def yJ6_stringSize_0f7a4 : MethodName := ⟨RJ6, "stringSize", "(I)I"⟩
def RJ9 : String := "java/lang/Math"
def TJ9 : u_T := fun k => match k with
  | _ => ("", "", "", false)
def tyJ9 : Nat → FieldType := fun k => match k with
  | _ => .int
abbrev wsJ90 : List Cond := u_ws RJ9 TJ9 0
theorem nmJ9 : ∀ a, a < 0 → ∀ b, b < 0 → a ≠ b → (TJ9 a).2.1 ≠ (TJ9 b).2.1 := by decide +kernel
theorem tyJ9_ok : ∀ k, k < 0 → parseFieldDescriptor (TJ9 k).2.2.1 = some (tyJ9 k) := by decide +kernel
abbrev cJ9_abs_0f7a4 : ByteArray := prog_15_method_59_code
def yJ9_abs_0f7a4 : MethodName := ⟨RJ9, "abs", "(I)I"⟩
abbrev cJ9_max_7cf53 : ByteArray := prog_15_method_65_code
def yJ9_max_7cf53 : MethodName := ⟨RJ9, "max", "(II)I"⟩
abbrev cJ9_min_7cf53 : ByteArray := prog_15_method_69_code
def yJ9_min_7cf53 : MethodName := ⟨RJ9, "min", "(II)I"⟩
def RJ0 : String := "java/lang/String"
def TJ0 : u_T := fun k => match k with
  | 0 => ("java/lang/String", "value", "[B", true)
  | 1 => ("java/lang/String", "coder", "B", true)
  | 2 => ("java/lang/String", "hash", "I", false)
  | _ => ("java/lang/String", "hashIsZero", "Z", false)
def tyJ0 : Nat → FieldType := fun k => match k with
  | 0 => .array .byte
  | 1 => .byte
  | 2 => .int
  | _ => .boolean
abbrev wsJ00 : List Cond := u_ws RJ0 TJ0 4
theorem nmJ0 : ∀ a, a < 4 → ∀ b, b < 4 → a ≠ b → (TJ0 a).2.1 ≠ (TJ0 b).2.1 := by decide +kernel
theorem tyJ0_ok : ∀ k, k < 4 → parseFieldDescriptor (TJ0 k).2.2.1 = some (tyJ0 k) := by decide +kernel
abbrev cJ0_init_81219 : ByteArray := prog_17_method_53_code
def yJ0_init_81219 : MethodName := ⟨RJ0, "<init>", "(Ljava/lang/StringBuilder;)V"⟩
abbrev cJ0_length_8abf5 : ByteArray := prog_17_method_54_code
def yJ0_length_8abf5 : MethodName := ⟨RJ0, "length", "()I"⟩
abbrev cJ0_getBytes_840e7 : ByteArray := prog_17_method_147_code
def yJ0_getBytes_840e7 : MethodName := ⟨RJ0, "getBytes", "([BIB)V"⟩
abbrev cJ0_init_db425 : ByteArray := prog_17_method_150_code
def yJ0_init_db425 : MethodName := ⟨RJ0, "<init>", "(Ljava/lang/AbstractStringBuilder;Ljava/lang/Void;)V"⟩
abbrev cJ0_coder_7d493 : ByteArray := prog_17_method_152_code
def yJ0_coder_7d493 : MethodName := ⟨RJ0, "coder", "()B"⟩
abbrev cJ0_checkIndex_df160 : ByteArray := prog_17_method_155_code
def yJ0_checkIndex_df160 : MethodName := ⟨RJ0, "checkIndex", "(II)V"⟩
abbrev cJ0_checkBoundsOffCount_cabcc : ByteArray := prog_17_method_157_code
def yJ0_checkBoundsOffCount_cabcc : MethodName := ⟨RJ0, "checkBoundsOffCount", "(III)I"⟩
abbrev cJ0_checkBoundsBeginEnd_23922 : ByteArray := prog_17_method_158_code
def yJ0_checkBoundsBeginEnd_23922 : MethodName := ⟨RJ0, "checkBoundsBeginEnd", "(III)V"⟩
def RJ4 : String := "java/lang/StringBuilder"
def TJ4 : u_T := fun k => match k with
  | 0 => ("java/lang/AbstractStringBuilder", "value", "[B", false)
  | 1 => ("java/lang/AbstractStringBuilder", "coder", "B", false)
  | 2 => ("java/lang/AbstractStringBuilder", "maybeLatin1", "Z", false)
  | _ => ("java/lang/AbstractStringBuilder", "count", "I", false)
def tyJ4 : Nat → FieldType := fun k => match k with
  | 0 => .array .byte
  | 1 => .byte
  | 2 => .boolean
  | _ => .int
abbrev wsJ40 : List Cond := u_ws RJ4 TJ4 4
theorem nmJ4 : ∀ a, a < 4 → ∀ b, b < 4 → a ≠ b → (TJ4 a).2.1 ≠ (TJ4 b).2.1 := by decide +kernel
theorem tyJ4_ok : ∀ k, k < 4 → parseFieldDescriptor (TJ4 k).2.2.1 = some (tyJ4 k) := by decide +kernel
abbrev cJ4_init_da8c8 : ByteArray := prog_18_method_1_code
def yJ4_init_da8c8 : MethodName := ⟨RJ4, "<init>", "()V"⟩
abbrev cJ4_init_a7421 : ByteArray := prog_18_method_3_code
def yJ4_init_a7421 : MethodName := ⟨RJ4, "<init>", "(Ljava/lang/String;)V"⟩
abbrev cJ4_append_15ec4 : ByteArray := prog_18_method_7_code
def yJ4_append_15ec4 : MethodName := ⟨RJ4, "append", "(Ljava/lang/String;)Ljava/lang/StringBuilder;"⟩
abbrev cJ4_append_cf468 : ByteArray := prog_18_method_14_code
def yJ4_append_cf468 : MethodName := ⟨RJ4, "append", "(C)Ljava/lang/StringBuilder;"⟩
abbrev cJ4_append_bf812 : ByteArray := prog_18_method_15_code
def yJ4_append_bf812 : MethodName := ⟨RJ4, "append", "(I)Ljava/lang/StringBuilder;"⟩
abbrev cJ4_toString_0e30d : ByteArray := prog_18_method_42_code
def yJ4_toString_0e30d : MethodName := ⟨RJ4, "toString", "()Ljava/lang/String;"⟩
abbrev cJ4_append_cf1ce : ByteArray := prog_18_method_80_code
def yJ4_append_cf1ce : MethodName := ⟨RJ4, "append", "(Ljava/lang/String;)Ljava/lang/AbstractStringBuilder;"⟩
abbrev cJ4_length_8abf5 : ByteArray := prog_18_method_93_code
def yJ4_length_8abf5 : MethodName := ⟨RJ4, "length", "()I"⟩
def RJ1 : String := "java/lang/StringLatin1"
def TJ1 : u_T := fun k => match k with
  | _ => ("", "", "", false)
def tyJ1 : Nat → FieldType := fun k => match k with
  | _ => .int
abbrev wsJ10 : List Cond := u_ws RJ1 TJ1 0
theorem nmJ1 : ∀ a, a < 0 → ∀ b, b < 0 → a ≠ b → (TJ1 a).2.1 ≠ (TJ1 b).2.1 := by decide +kernel
theorem tyJ1_ok : ∀ k, k < 0 → parseFieldDescriptor (TJ1 k).2.2.1 = some (tyJ1 k) := by decide +kernel
abbrev cJ1_canEncode_fc78d : ByteArray := prog_19_method_3_code
def yJ1_canEncode_fc78d : MethodName := ⟨RJ1, "canEncode", "(C)Z"⟩
abbrev cJ1_inflate_0e8fd : ByteArray := prog_19_method_50_code
def yJ1_inflate_0e8fd : MethodName := ⟨RJ1, "inflate", "([BI[BII)V"⟩
def RJ2 : String := "java/lang/StringUTF16"
def TJ2 : u_T := fun k => match k with
  | _ => ("", "", "", false)
def tyJ2 : Nat → FieldType := fun k => match k with
  | _ => .int
abbrev wsJ20 : List Cond := u_ws RJ2 TJ2 0
theorem nmJ2 : ∀ a, a < 0 → ∀ b, b < 0 → a ≠ b → (TJ2 a).2.1 ≠ (TJ2 b).2.1 := by decide +kernel
theorem tyJ2_ok : ∀ k, k < 0 → parseFieldDescriptor (TJ2 k).2.2.1 = some (tyJ2 k) := by decide +kernel
abbrev cJ2_newBytesFor_77867 : ByteArray := prog_20_method_2_code
def yJ2_newBytesFor_77867 : MethodName := ⟨RJ2, "newBytesFor", "(I)[B"⟩
abbrev cJ2_newBytesLength_0f7a4 : ByteArray := prog_20_method_3_code
def yJ2_newBytesLength_0f7a4 : MethodName := ⟨RJ2, "newBytesLength", "(I)I"⟩
abbrev cJ2_putChar_b72d1 : ByteArray := prog_20_method_4_code
def yJ2_putChar_b72d1 : MethodName := ⟨RJ2, "putChar", "([BII)V"⟩
abbrev cJ2_getChar_3b067 : ByteArray := prog_20_method_5_code
def yJ2_getChar_3b067 : MethodName := ⟨RJ2, "getChar", "([BI)C"⟩
abbrev cJ2_length_9d52b : ByteArray := prog_20_method_6_code
def yJ2_length_9d52b : MethodName := ⟨RJ2, "length", "([B)I"⟩
abbrev cJ2_coderFromArrayLen_85cad : ByteArray := prog_20_method_15_code
def yJ2_coderFromArrayLen_85cad : MethodName := ⟨RJ2, "coderFromArrayLen", "([BI)B"⟩
abbrev cJ2_compress_39247 : ByteArray := prog_20_method_17_code
def yJ2_compress_39247 : MethodName := ⟨RJ2, "compress", "([BII)[B"⟩
abbrev cJ2_compress_5af95 : ByteArray := prog_20_method_22_code
def yJ2_compress_5af95 : MethodName := ⟨RJ2, "compress", "([BI[BII)I"⟩
abbrev cJ2_putCharSB_b72d1 : ByteArray := prog_20_method_71_code
def yJ2_putCharSB_b72d1 : MethodName := ⟨RJ2, "putCharSB", "([BII)V"⟩
abbrev cJ2_getChars_46870 : ByteArray := prog_20_method_77_code
def yJ2_getChars_46870 : MethodName := ⟨RJ2, "getChars", "(III[B)I"⟩
abbrev cJ2_putCharsAt_cd4e5 : ByteArray := prog_20_method_81_code
def yJ2_putCharsAt_cd4e5 : MethodName := ⟨RJ2, "putCharsAt", "([BICCCC)I"⟩
abbrev cJ2_inflate_0e8fd : ByteArray := prog_20_method_86_code
def yJ2_inflate_0e8fd : MethodName := ⟨RJ2, "inflate", "([BI[BII)V"⟩
abbrev cJ2_getChars_ba4f3 : ByteArray := prog_20_method_89_code
def yJ2_getChars_ba4f3 : MethodName := ⟨RJ2, "getChars", "(II[B)I"⟩
abbrev cJ2_checkIndex_2214a : ByteArray := prog_20_method_91_code
def yJ2_checkIndex_2214a : MethodName := ⟨RJ2, "checkIndex", "(I[B)V"⟩
abbrev cJ2_checkBoundsBeginEnd_d044e : ByteArray := prog_20_method_93_code
def yJ2_checkBoundsBeginEnd_d044e : MethodName := ⟨RJ2, "checkBoundsBeginEnd", "(II[B)V"⟩
abbrev cJ2_checkBoundsOffCount_d044e : ByteArray := prog_20_method_94_code
def yJ2_checkBoundsOffCount_d044e : MethodName := ⟨RJ2, "checkBoundsOffCount", "(II[B)V"⟩
def RJ10 : String := "java/lang/System"
def TJ10 : u_T := fun k => match k with
  | _ => ("", "", "", false)
def tyJ10 : Nat → FieldType := fun k => match k with
  | _ => .int
abbrev wsJ100 : List Cond := u_ws RJ10 TJ10 0
theorem nmJ10 : ∀ a, a < 0 → ∀ b, b < 0 → a ≠ b → (TJ10 a).2.1 ≠ (TJ10 b).2.1 := by decide +kernel
theorem tyJ10_ok : ∀ k, k < 0 → parseFieldDescriptor (TJ10 k).2.2.1 = some (tyJ10 k) := by decide +kernel
def RJ7 : String := "java/util/Arrays"
def TJ7 : u_T := fun k => match k with
  | _ => ("", "", "", false)
def tyJ7 : Nat → FieldType := fun k => match k with
  | _ => .int
abbrev wsJ70 : List Cond := u_ws RJ7 TJ7 0
theorem nmJ7 : ∀ a, a < 0 → ∀ b, b < 0 → a ≠ b → (TJ7 a).2.1 ≠ (TJ7 b).2.1 := by decide +kernel
theorem tyJ7_ok : ∀ k, k < 0 → parseFieldDescriptor (TJ7 k).2.2.1 = some (tyJ7 k) := by decide +kernel
abbrev cJ7_copyOf_9075b : ByteArray := prog_23_method_121_code
def yJ7_copyOf_9075b : MethodName := ⟨RJ7, "copyOf", "([BI)[B"⟩
abbrev cJ7_checkLength_df160 : ByteArray := prog_23_method_131_code
def yJ7_checkLength_df160 : MethodName := ⟨RJ7, "checkLength", "(II)V"⟩
abbrev cJ7_copyOfRange_39247 : ByteArray := prog_23_method_132_code
def yJ7_copyOfRange_39247 : MethodName := ⟨RJ7, "copyOfRange", "([BII)[B"⟩
abbrev cJ7_copyOfRangeByte_39247 : ByteArray := prog_23_method_133_code
def yJ7_copyOfRangeByte_39247 : MethodName := ⟨RJ7, "copyOfRangeByte", "([BII)[B"⟩
def RJ8 : String := "jdk/internal/util/ArraysSupport"
def TJ8 : u_T := fun k => match k with
  | _ => ("", "", "", false)
def tyJ8 : Nat → FieldType := fun k => match k with
  | _ => .int
abbrev wsJ80 : List Cond := u_ws RJ8 TJ8 0
theorem nmJ8 : ∀ a, a < 0 → ∀ b, b < 0 → a ≠ b → (TJ8 a).2.1 ≠ (TJ8 b).2.1 := by decide +kernel
theorem tyJ8_ok : ∀ k, k < 0 → parseFieldDescriptor (TJ8 k).2.2.1 = some (tyJ8 k) := by decide +kernel
abbrev cJ8_newLength_cabcc : ByteArray := prog_24_method_27_code
def yJ8_newLength_cabcc : MethodName := ⟨RJ8, "newLength", "(III)I"⟩
abbrev cJ8_hugeLength_7cf53 : ByteArray := prog_24_method_28_code
def yJ8_hugeLength_7cf53 : MethodName := ⟨RJ8, "hugeLength", "(II)I"⟩
def RJ3 : String := "jdk/internal/util/Preconditions"
def TJ3 : u_T := fun k => match k with
  | _ => ("", "", "", false)
def tyJ3 : Nat → FieldType := fun k => match k with
  | _ => .int
abbrev wsJ30 : List Cond := u_ws RJ3 TJ3 0
theorem nmJ3 : ∀ a, a < 0 → ∀ b, b < 0 → a ≠ b → (TJ3 a).2.1 ≠ (TJ3 b).2.1 := by decide +kernel
theorem tyJ3_ok : ∀ k, k < 0 → parseFieldDescriptor (TJ3 k).2.2.1 = some (tyJ3 k) := by decide +kernel
abbrev cJ3_checkIndex_8e157 : ByteArray := prog_25_method_11_code
def yJ3_checkIndex_8e157 : MethodName := ⟨RJ3, "checkIndex", "(IILjava/util/function/BiFunction;)I"⟩
abbrev cJ3_checkFromToIndex_8c36e : ByteArray := prog_25_method_12_code
def yJ3_checkFromToIndex_8c36e : MethodName := ⟨RJ3, "checkFromToIndex", "(IIILjava/util/function/BiFunction;)I"⟩
abbrev cJ3_checkFromIndexSize_8c36e : ByteArray := prog_25_method_13_code
def yJ3_checkFromIndexSize_8c36e : MethodName := ⟨RJ3, "checkFromIndexSize", "(IIILjava/util/function/BiFunction;)I"⟩
def RL : String := "RangeledgerLaw"
abbrev cL_put : ByteArray := method_2_code
def yL_put : MethodName := ⟨RL, "put", "(LRangeledger;IIILRangeledgerLaw$Out;)I"⟩
abbrev cL_putAbsent : ByteArray := method_3_code
def yL_putAbsent : MethodName := ⟨RL, "putAbsent", "(LRangeledger;IIILRangeledgerLaw$Out;)I"⟩
abbrev cL_replace : ByteArray := method_4_code
def yL_replace : MethodName := ⟨RL, "replace", "(LRangeledger;IIILRangeledgerLaw$Out;)I"⟩
abbrev cL_swap : ByteArray := method_5_code
def yL_swap : MethodName := ⟨RL, "swap", "(LRangeledger;IIIILRangeledgerLaw$Out;)I"⟩
abbrev cL_strike : ByteArray := method_6_code
def yL_strike : MethodName := ⟨RL, "strike", "(LRangeledger;IILRangeledgerLaw$Out;)I"⟩
abbrev cL_strikePair : ByteArray := method_7_code
def yL_strikePair : MethodName := ⟨RL, "strikePair", "(LRangeledger;IIILRangeledgerLaw$Out;)I"⟩
abbrev cL_merge : ByteArray := method_8_code
def yL_merge : MethodName := ⟨RL, "merge", "(LRangeledger;IIILRangeledgerLaw$Out;)I"⟩
abbrev cL_grow : ByteArray := method_9_code
def yL_grow : MethodName := ⟨RL, "grow", "(LRangeledger;IILRangeledgerLaw$Out;)I"⟩
abbrev cL_halve : ByteArray := method_10_code
def yL_halve : MethodName := ⟨RL, "halve", "(LRangeledger;IILRangeledgerLaw$Out;)I"⟩
abbrev cL_twice : ByteArray := method_11_code
def yL_twice : MethodName := ⟨RL, "twice", "(LRangeledger;IILRangeledgerLaw$Out;)I"⟩
abbrev cL_poll : ByteArray := method_12_code
def yL_poll : MethodName := ⟨RL, "poll", "(LRangeledger;IZLRangeledgerLaw$Out;)I"⟩
abbrev cL_raise : ByteArray := method_13_code
def yL_raise : MethodName := ⟨RL, "raise", "(LRangeledger;IILRangeledgerLaw$Out;)I"⟩
abbrev cL_sift : ByteArray := method_14_code
def yL_sift : MethodName := ⟨RL, "sift", "(LRangeledger;IILRangeledgerLaw$Out;)I"⟩
abbrev cL_strikeValue : ByteArray := method_15_code
def yL_strikeValue : MethodName := ⟨RL, "strikeValue", "(LRangeledger;IILRangeledgerLaw$Out;)I"⟩
abbrev cL_clear : ByteArray := method_16_code
def yL_clear : MethodName := ⟨RL, "clear", "(LRangeledger;ILRangeledgerLaw$Out;)I"⟩
abbrev cL_pour : ByteArray := method_17_code
def yL_pour : MethodName := ⟨RL, "pour", "(LRangeledger;IILRangeledgerLaw$Out;)I"⟩
abbrev cL_copy : ByteArray := method_18_code
def yL_copy : MethodName := ⟨RL, "copy", "(LRangeledger;IILRangeledgerLaw$Out;)I"⟩
abbrev cL_thin : ByteArray := method_19_code
def yL_thin : MethodName := ⟨RL, "thin", "(LRangeledger;IIZLRangeledgerLaw$Out;)I"⟩
abbrev cL_head : ByteArray := method_20_code
def yL_head : MethodName := ⟨RL, "head", "(LRangeledger;IIZLRangeledgerLaw$Out;)I"⟩
abbrev cL_tail : ByteArray := method_21_code
def yL_tail : MethodName := ⟨RL, "tail", "(LRangeledger;IIZLRangeledgerLaw$Out;)I"⟩
abbrev cL_sub : ByteArray := method_22_code
def yL_sub : MethodName := ⟨RL, "sub", "(LRangeledger;IIZIZLRangeledgerLaw$Out;)I"⟩
abbrev cL_part : ByteArray := method_23_code
def yL_part : MethodName := ⟨RL, "part", "(LRangeledger;IIZIZLRangeledgerLaw$Out;)I"⟩
abbrev cL_shut : ByteArray := method_24_code
def yL_shut : MethodName := ⟨RL, "shut", "(LRangeledger;ILRangeledgerLaw$Out;)I"⟩
abbrev cL_viewPut : ByteArray := method_25_code
def yL_viewPut : MethodName := ⟨RL, "viewPut", "(LRangeledger;IIILRangeledgerLaw$Out;)I"⟩
abbrev cL_viewStrike : ByteArray := method_26_code
def yL_viewStrike : MethodName := ⟨RL, "viewStrike", "(LRangeledger;IILRangeledgerLaw$Out;)I"⟩
abbrev cL_viewMerge : ByteArray := method_27_code
def yL_viewMerge : MethodName := ⟨RL, "viewMerge", "(LRangeledger;IIILRangeledgerLaw$Out;)I"⟩
abbrev cL_viewPoll : ByteArray := method_28_code
def yL_viewPoll : MethodName := ⟨RL, "viewPoll", "(LRangeledger;IZLRangeledgerLaw$Out;)I"⟩
abbrev cL_viewClear : ByteArray := method_29_code
def yL_viewClear : MethodName := ⟨RL, "viewClear", "(LRangeledger;ILRangeledgerLaw$Out;)I"⟩
abbrev cL_walk : ByteArray := method_30_code
def yL_walk : MethodName := ⟨RL, "walk", "(LRangeledger;ILRangeledgerLaw$Out;)I"⟩
abbrev cL_viewWalk : ByteArray := method_31_code
def yL_viewWalk : MethodName := ⟨RL, "viewWalk", "(LRangeledger;ILRangeledgerLaw$Out;)I"⟩
abbrev cL_step : ByteArray := method_32_code
def yL_step : MethodName := ⟨RL, "step", "(LRangeledger;LRangeledgerLaw$Out;)I"⟩
abbrev cL_write : ByteArray := method_33_code
def yL_write : MethodName := ⟨RL, "write", "(LRangeledger;ILRangeledgerLaw$Out;)I"⟩
abbrev cL_drop : ByteArray := method_34_code
def yL_drop : MethodName := ⟨RL, "drop", "(LRangeledger;LRangeledgerLaw$Out;)I"⟩
abbrev cL_keep : ByteArray := method_35_code
def yL_keep : MethodName := ⟨RL, "keep", "(LRangeledger;IZLRangeledgerLaw$Out;)I"⟩
abbrev cL_brand : ByteArray := method_36_code
def yL_brand : MethodName := ⟨RL, "brand", "(LRangeledger;ILRangeledgerLaw$Out;)I"⟩
abbrev cL_get : ByteArray := method_37_code
def yL_get : MethodName := ⟨RL, "get", "(LRangeledger;IILRangeledgerLaw$Out;)I"⟩
abbrev cL_getOr : ByteArray := method_38_code
def yL_getOr : MethodName := ⟨RL, "getOr", "(LRangeledger;IIILRangeledgerLaw$Out;)I"⟩
abbrev cL_has : ByteArray := method_39_code
def yL_has : MethodName := ⟨RL, "has", "(LRangeledger;IILRangeledgerLaw$Out;)I"⟩
abbrev cL_hasValue : ByteArray := method_40_code
def yL_hasValue : MethodName := ⟨RL, "hasValue", "(LRangeledger;IILRangeledgerLaw$Out;)I"⟩
abbrev cL_ofBook : ByteArray := method_41_code
def yL_ofBook : MethodName := ⟨RL, "ofBook", "(LRangeledger;IILRangeledgerLaw$Out;)I"⟩
abbrev cL_near : ByteArray := method_42_code
def yL_near : MethodName := ⟨RL, "near", "(LRangeledger;IIILRangeledgerLaw$Out;)I"⟩
abbrev cL_place : ByteArray := method_43_code
def yL_place : MethodName := ⟨RL, "place", "(LRangeledger;IILRangeledgerLaw$Out;)I"⟩
abbrev cL_at : ByteArray := method_44_code
def yL_at : MethodName := ⟨RL, "at", "(LRangeledger;IILRangeledgerLaw$Out;)I"⟩
abbrev cL_row : ByteArray := method_45_code
def yL_row : MethodName := ⟨RL, "row", "(LRangeledger;ILRangeledgerLaw$Out;)I"⟩
abbrev cL_same : ByteArray := method_46_code
def yL_same : MethodName := ⟨RL, "same", "(LRangeledger;IILRangeledgerLaw$Out;)I"⟩
abbrev cL_viewGet : ByteArray := method_47_code
def yL_viewGet : MethodName := ⟨RL, "viewGet", "(LRangeledger;IILRangeledgerLaw$Out;)I"⟩
abbrev cL_ofView : ByteArray := method_48_code
def yL_ofView : MethodName := ⟨RL, "ofView", "(LRangeledger;IILRangeledgerLaw$Out;)I"⟩
abbrev cL_viewNear : ByteArray := method_49_code
def yL_viewNear : MethodName := ⟨RL, "viewNear", "(LRangeledger;IIILRangeledgerLaw$Out;)I"⟩
abbrev cL_viewRow : ByteArray := method_50_code
def yL_viewRow : MethodName := ⟨RL, "viewRow", "(LRangeledger;ILRangeledgerLaw$Out;)I"⟩
abbrev cL_ledger : ByteArray := method_51_code
def yL_ledger : MethodName := ⟨RL, "ledger", "(LRangeledger;ILRangeledgerLaw$Out;)I"⟩
abbrev cL_law : ByteArray := code
def yL_law : MethodName := ⟨RL, "law", "([I)Z"⟩
noncomputable def xwd0 : Cond := Cond.code yX0_init cX0_init 2 none
noncomputable def xwd1 : Cond := Cond.methodLink RX0 3 objectInit
noncomputable def xwd2 : Cond := Cond.instanceMethod objectInit
noncomputable def xwd3 : Cond := Cond.code objectInit ⟨#[0xb1]⟩ 1 none
noncomputable def xwd4 : Cond := Cond.fieldLink RX0 9 "Rangeledger$Book" "number" "I"
noncomputable def xwd5 : Cond := Cond.arrayClass .int
noncomputable def xwd6 : Cond := Cond.fieldLink RX0 15 "Rangeledger$Book" "keys" "[I"
noncomputable def xwd7 : Cond := Cond.fieldLink RX0 19 "Rangeledger$Book" "values" "[I"
noncomputable def xwd8 : Cond := Cond.fieldLink RX0 22 "Rangeledger$Book" "order" "I"
noncomputable def wsX0_init : List Cond := (@List.cons Cond xwd0 (HAppend.hAppend (α := List Cond) (β := List Cond) (γ := List Cond) (@List.cons Cond xwd1 (@List.cons Cond xwd2 (@List.cons Cond xwd3 (@List.cons Cond xwd4 (@List.cons Cond xwd5 (@List.cons Cond xwd6 (@List.cons Cond xwd7 (@List.cons Cond xwd8 (@List.nil Cond))))))))) wsX00))
noncomputable def xwd9 : Cond := Cond.code yX0_number cX0_number 1 (some .int)
noncomputable def wsX0_number : List Cond := (@List.cons Cond xwd9 (HAppend.hAppend (α := List Cond) (β := List Cond) (γ := List Cond) (@List.cons Cond xwd4 (@List.nil Cond)) wsX00))
noncomputable def xwd10 : Cond := Cond.code yX0_order cX0_order 1 (some .int)
noncomputable def wsX0_order : List Cond := (@List.cons Cond xwd10 (HAppend.hAppend (α := List Cond) (β := List Cond) (γ := List Cond) (@List.cons Cond xwd8 (@List.nil Cond)) wsX00))
noncomputable def xwd11 : Cond := Cond.code yX0_size cX0_size 1 (some .int)
noncomputable def xwd12 : Cond := Cond.fieldLink RX0 25 "Rangeledger$Book" "size" "I"
noncomputable def wsX0_size : List Cond := (@List.cons Cond xwd11 (HAppend.hAppend (α := List Cond) (β := List Cond) (γ := List Cond) (@List.cons Cond xwd12 (@List.nil Cond)) wsX00))
noncomputable def xwd13 : Cond := Cond.code yX0_touches cX0_touches 1 (some .int)
noncomputable def xwd14 : Cond := Cond.fieldLink RX0 28 "Rangeledger$Book" "touches" "I"
noncomputable def wsX0_touches : List Cond := (@List.cons Cond xwd13 (HAppend.hAppend (α := List Cond) (β := List Cond) (γ := List Cond) (@List.cons Cond xwd14 (@List.nil Cond)) wsX00))
noncomputable def xwd15 : Cond := Cond.code yX0_keyChanges cX0_keyChanges 1 (some .int)
noncomputable def xwd16 : Cond := Cond.fieldLink RX0 31 "Rangeledger$Book" "keyChanges" "I"
noncomputable def wsX0_keyChanges : List Cond := (@List.cons Cond xwd15 (HAppend.hAppend (α := List Cond) (β := List Cond) (γ := List Cond) (@List.cons Cond xwd16 (@List.nil Cond)) wsX00))
noncomputable def xwd17 : Cond := Cond.code yX0_touch cX0_touch 1 none
noncomputable def wsX0_touch : List Cond := (@List.cons Cond xwd17 (HAppend.hAppend (α := List Cond) (β := List Cond) (γ := List Cond) (@List.cons Cond xwd14 (@List.nil Cond)) wsX00))
noncomputable def xwd18 : Cond := Cond.code yX0_weight cX0_weight 4 (some .int)
noncomputable def wsX0_weight : List Cond := (@List.cons Cond xwd18 (HAppend.hAppend (α := List Cond) (β := List Cond) (γ := List Cond) (@List.cons Cond xwd8 (@List.nil Cond)) wsX00))
noncomputable def xwd19 : Cond := Cond.code yX0_isAhead cX0_isAhead 3 (some .boolean)
noncomputable def xwd20 : Cond := Cond.methodLink RX0 34 yX0_weight
noncomputable def xwd21 : Cond := Cond.instanceMethod yX0_weight
noncomputable def xwd22 : Cond := Cond.selects RX0 yX0_weight yX0_weight
noncomputable def xwd23 : Cond := Cond.initialized RX0
noncomputable def wsX0_isAhead : List Cond := (@List.cons Cond xwd19 (HAppend.hAppend (α := List Cond) (β := List Cond) (γ := List Cond) (@List.cons Cond xwd20 (@List.cons Cond xwd21 (@List.cons Cond xwd22 (@List.cons Cond xwd23 (@List.cons Cond xwd18 (@List.cons Cond xwd8 (@List.nil Cond))))))) wsX00))
noncomputable def xwd24 : Cond := Cond.code yX0_placeOfWeight cX0_placeOfWeight 6 (some .int)
noncomputable def wsX0_placeOfWeight : List Cond := (@List.cons Cond xwd24 (HAppend.hAppend (α := List Cond) (β := List Cond) (γ := List Cond) (@List.cons Cond xwd12 (@List.cons Cond xwd6 (@List.cons Cond xwd20 (@List.cons Cond xwd21 (@List.cons Cond xwd22 (@List.cons Cond xwd23 (@List.cons Cond xwd18 (@List.cons Cond xwd8 (@List.nil Cond))))))))) wsX00))
noncomputable def xwd25 : Cond := Cond.code yX0_placeOf cX0_placeOf 2 (some .int)
noncomputable def xwd26 : Cond := Cond.methodLink RX0 38 yX0_placeOfWeight
noncomputable def xwd27 : Cond := Cond.instanceMethod yX0_placeOfWeight
noncomputable def xwd28 : Cond := Cond.selects RX0 yX0_placeOfWeight yX0_placeOfWeight
noncomputable def wsX0_placeOf : List Cond := (@List.cons Cond xwd25 (HAppend.hAppend (α := List Cond) (β := List Cond) (γ := List Cond) (@List.cons Cond xwd20 (@List.cons Cond xwd21 (@List.cons Cond xwd22 (@List.cons Cond xwd23 (@List.cons Cond xwd18 (@List.cons Cond xwd8 (@List.cons Cond xwd26 (@List.cons Cond xwd27 (@List.cons Cond xwd28 (@List.cons Cond xwd24 (@List.cons Cond xwd12 (@List.cons Cond xwd6 (@List.nil Cond))))))))))))) wsX00))
noncomputable def xwd29 : Cond := Cond.code yX0_placeBehind cX0_placeBehind 2 (some .int)
noncomputable def wsX0_placeBehind : List Cond := (@List.cons Cond xwd29 (HAppend.hAppend (α := List Cond) (β := List Cond) (γ := List Cond) (@List.cons Cond xwd20 (@List.cons Cond xwd21 (@List.cons Cond xwd22 (@List.cons Cond xwd23 (@List.cons Cond xwd18 (@List.cons Cond xwd8 (@List.cons Cond xwd26 (@List.cons Cond xwd27 (@List.cons Cond xwd28 (@List.cons Cond xwd24 (@List.cons Cond xwd12 (@List.cons Cond xwd6 (@List.nil Cond))))))))))))) wsX00))
noncomputable def xwd30 : Cond := Cond.code yX0_isPlace cX0_isPlace 2 (some .boolean)
noncomputable def wsX0_isPlace : List Cond := (@List.cons Cond xwd30 (HAppend.hAppend (α := List Cond) (β := List Cond) (γ := List Cond) (@List.cons Cond xwd12 (@List.nil Cond)) wsX00))
noncomputable def xwd31 : Cond := Cond.code yX0_keyAt cX0_keyAt 2 (some .int)
noncomputable def xwd32 : Cond := Cond.methodLink RX0 41 yX0_isPlace
noncomputable def xwd33 : Cond := Cond.instanceMethod yX0_isPlace
noncomputable def xwd34 : Cond := Cond.selects RX0 yX0_isPlace yX0_isPlace
noncomputable def wsX0_keyAt : List Cond := (@List.cons Cond xwd31 (HAppend.hAppend (α := List Cond) (β := List Cond) (γ := List Cond) (@List.cons Cond xwd6 (@List.cons Cond xwd32 (@List.cons Cond xwd33 (@List.cons Cond xwd34 (@List.cons Cond xwd23 (@List.cons Cond xwd30 (@List.cons Cond xwd12 (@List.nil Cond)))))))) wsX00))
noncomputable def xwd35 : Cond := Cond.code yX0_valueAt cX0_valueAt 2 (some .int)
noncomputable def wsX0_valueAt : List Cond := (@List.cons Cond xwd35 (HAppend.hAppend (α := List Cond) (β := List Cond) (γ := List Cond) (@List.cons Cond xwd7 (@List.cons Cond xwd32 (@List.cons Cond xwd33 (@List.cons Cond xwd34 (@List.cons Cond xwd23 (@List.cons Cond xwd30 (@List.cons Cond xwd12 (@List.nil Cond)))))))) wsX00))
noncomputable def xwd36 : Cond := Cond.methodLink RX0 48 yX0_placeOf
noncomputable def xwd37 : Cond := Cond.instanceMethod yX0_placeOf
noncomputable def xwd38 : Cond := Cond.selects RX0 yX0_placeOf yX0_placeOf
noncomputable def xwd39 : Cond := Cond.methodLink RX0 51 yX0_keyAt
noncomputable def xwd40 : Cond := Cond.instanceMethod yX0_keyAt
noncomputable def xwd41 : Cond := Cond.selects RX0 yX0_keyAt yX0_keyAt
noncomputable def wsX0_valueOf_r1 : List Cond := (@List.cons Cond xwd36 (@List.cons Cond xwd37 (@List.cons Cond xwd38 (@List.cons Cond xwd23 (@List.cons Cond xwd25 (@List.cons Cond xwd20 (@List.cons Cond xwd21 (@List.cons Cond xwd22 (@List.cons Cond xwd18 (@List.cons Cond xwd8 (@List.cons Cond xwd26 (@List.cons Cond xwd27 (@List.cons Cond xwd28 (@List.cons Cond xwd24 (@List.cons Cond xwd12 (@List.cons Cond xwd6 (@List.cons Cond xwd39 (@List.cons Cond xwd40 (@List.cons Cond xwd41 (@List.cons Cond xwd31 (@List.cons Cond xwd32 (@List.cons Cond xwd33 (@List.cons Cond xwd34 (@List.cons Cond xwd30 (@List.nil Cond)))))))))))))))))))))))))
noncomputable def xwd42 : Cond := Cond.methodLink RX0 54 yX0_valueAt
noncomputable def xwd43 : Cond := Cond.instanceMethod yX0_valueAt
noncomputable def xwd44 : Cond := Cond.selects RX0 yX0_valueAt yX0_valueAt
noncomputable def wsX0_valueOf_r2 : List Cond := (@List.cons Cond xwd42 (@List.cons Cond xwd43 (@List.cons Cond xwd44 (@List.cons Cond xwd35 (@List.cons Cond xwd7 (@List.nil Cond))))))
noncomputable def xwd45 : Cond := Cond.code yX0_valueOf cX0_valueOf 3 (some .int)
noncomputable def wsX0_valueOf : List Cond := (@List.cons Cond xwd45 (HAppend.hAppend (α := List Cond) (β := List Cond) (γ := List Cond) (HAppend.hAppend (α := List Cond) (β := List Cond) (γ := List Cond) wsX0_valueOf_r1 wsX0_valueOf_r2) wsX00))
noncomputable def xwd46 : Cond := Cond.methodLink RX0 45 yX0_valueOf
noncomputable def xwd47 : Cond := Cond.instanceMethod yX0_valueOf
noncomputable def xwd48 : Cond := Cond.selects RX0 yX0_valueOf yX0_valueOf
noncomputable def wsX0_holds_r1 : List Cond := (@List.cons Cond xwd46 (@List.cons Cond xwd47 (@List.cons Cond xwd48 (@List.cons Cond xwd23 (@List.cons Cond xwd45 (@List.cons Cond xwd36 (@List.cons Cond xwd37 (@List.cons Cond xwd38 (@List.cons Cond xwd25 (@List.cons Cond xwd20 (@List.cons Cond xwd21 (@List.cons Cond xwd22 (@List.cons Cond xwd18 (@List.cons Cond xwd8 (@List.cons Cond xwd26 (@List.cons Cond xwd27 (@List.cons Cond xwd28 (@List.cons Cond xwd24 (@List.cons Cond xwd12 (@List.cons Cond xwd6 (@List.cons Cond xwd39 (@List.cons Cond xwd40 (@List.cons Cond xwd41 (@List.cons Cond xwd31 (@List.nil Cond)))))))))))))))))))))))))
noncomputable def wsX0_holds_r2 : List Cond := (@List.cons Cond xwd32 (@List.cons Cond xwd33 (@List.cons Cond xwd34 (@List.cons Cond xwd30 (@List.cons Cond xwd42 (@List.cons Cond xwd43 (@List.cons Cond xwd44 (@List.cons Cond xwd35 (@List.cons Cond xwd7 (@List.nil Cond))))))))))
noncomputable def xwd49 : Cond := Cond.code yX0_holds cX0_holds 2 (some .boolean)
noncomputable def wsX0_holds : List Cond := (@List.cons Cond xwd49 (HAppend.hAppend (α := List Cond) (β := List Cond) (γ := List Cond) (HAppend.hAppend (α := List Cond) (β := List Cond) (γ := List Cond) wsX0_holds_r1 wsX0_holds_r2) wsX00))
noncomputable def xwd50 : Cond := Cond.code yX0_firstPlaceOfValue cX0_firstPlaceOfValue 3 (some .int)
noncomputable def wsX0_firstPlaceOfValue : List Cond := (@List.cons Cond xwd50 (HAppend.hAppend (α := List Cond) (β := List Cond) (γ := List Cond) (@List.cons Cond xwd12 (@List.cons Cond xwd7 (@List.nil Cond))) wsX00))
noncomputable def xwd51 : Cond := Cond.code yX0_countOfValue cX0_countOfValue 4 (some .int)
noncomputable def wsX0_countOfValue : List Cond := (@List.cons Cond xwd51 (HAppend.hAppend (α := List Cond) (β := List Cond) (γ := List Cond) (@List.cons Cond xwd12 (@List.cons Cond xwd7 (@List.nil Cond))) wsX00))
noncomputable def xwd52 : Cond := Cond.code yX0_unlikeValues cX0_unlikeValues 3 (some .int)
noncomputable def xwd53 : Cond := Cond.methodLink RX0 57 yX0_firstPlaceOfValue
noncomputable def xwd54 : Cond := Cond.instanceMethod yX0_firstPlaceOfValue
noncomputable def xwd55 : Cond := Cond.selects RX0 yX0_firstPlaceOfValue yX0_firstPlaceOfValue
noncomputable def wsX0_unlikeValues : List Cond := (@List.cons Cond xwd52 (HAppend.hAppend (α := List Cond) (β := List Cond) (γ := List Cond) (@List.cons Cond xwd12 (@List.cons Cond xwd7 (@List.cons Cond xwd53 (@List.cons Cond xwd54 (@List.cons Cond xwd55 (@List.cons Cond xwd23 (@List.cons Cond xwd50 (@List.nil Cond)))))))) wsX00))
noncomputable def xwd56 : Cond := Cond.code yX0_sum cX0_sum 5 (some .int)
noncomputable def wsX0_sum : List Cond := (@List.cons Cond xwd56 (HAppend.hAppend (α := List Cond) (β := List Cond) (γ := List Cond) (@List.cons Cond xwd7 (@List.cons Cond xwd32 (@List.cons Cond xwd33 (@List.cons Cond xwd34 (@List.cons Cond xwd23 (@List.cons Cond xwd30 (@List.cons Cond xwd12 (@List.nil Cond)))))))) wsX00))
noncomputable def xwd57 : Cond := Cond.methodLink RX0 60 Lib.Math.min.name
noncomputable def xwd58 : Cond := Cond.static Lib.Math.min.name
noncomputable def xwd59 : Cond := Cond.initialized "java/lang/Math"
noncomputable def xwd60 : Cond := Cond.code Lib.Math.min.name Lib.Math.min.code 2 (some .int)
noncomputable def xwd61 : Cond := Cond.methodLink RX0 69 Lib.Math.max.name
noncomputable def xwd62 : Cond := Cond.static Lib.Math.max.name
noncomputable def xwd63 : Cond := Cond.code Lib.Math.max.name Lib.Math.max.code 2 (some .int)
noncomputable def wsX0_closest_r1 : List Cond := (@List.cons Cond xwd57 (@List.cons Cond xwd58 (@List.cons Cond xwd59 (@List.cons Cond xwd60 (@List.cons Cond xwd61 (@List.cons Cond xwd62 (@List.cons Cond xwd63 (@List.cons Cond xwd36 (@List.cons Cond xwd37 (@List.cons Cond xwd38 (@List.cons Cond xwd23 (@List.cons Cond xwd25 (@List.cons Cond xwd20 (@List.cons Cond xwd21 (@List.cons Cond xwd22 (@List.cons Cond xwd18 (@List.cons Cond xwd8 (@List.cons Cond xwd26 (@List.cons Cond xwd27 (@List.cons Cond xwd28 (@List.cons Cond xwd24 (@List.cons Cond xwd12 (@List.cons Cond xwd6 (@List.cons Cond xwd39 (@List.nil Cond)))))))))))))))))))))))))
noncomputable def xwd64 : Cond := Cond.methodLink RX0 66 yX0_placeBehind
noncomputable def xwd65 : Cond := Cond.instanceMethod yX0_placeBehind
noncomputable def xwd66 : Cond := Cond.selects RX0 yX0_placeBehind yX0_placeBehind
noncomputable def wsX0_closest_r2 : List Cond := (@List.cons Cond xwd40 (@List.cons Cond xwd41 (@List.cons Cond xwd31 (@List.cons Cond xwd32 (@List.cons Cond xwd33 (@List.cons Cond xwd34 (@List.cons Cond xwd30 (@List.cons Cond xwd64 (@List.cons Cond xwd65 (@List.cons Cond xwd66 (@List.cons Cond xwd29 (@List.nil Cond))))))))))))
noncomputable def xwd67 : Cond := Cond.code yX0_closest cX0_closest 8 (some .int)
noncomputable def wsX0_closest : List Cond := (@List.cons Cond xwd67 (HAppend.hAppend (α := List Cond) (β := List Cond) (γ := List Cond) (HAppend.hAppend (α := List Cond) (β := List Cond) (γ := List Cond) wsX0_closest_r1 wsX0_closest_r2) wsX00))
noncomputable def xwd68 : Cond := Cond.code yX0_insert cX0_insert 4 none
noncomputable def xwd69 : Cond := Cond.methodLink RX0 76 arraycopyName
noncomputable def xwd70 : Cond := Cond.native arraycopyName
noncomputable def xwd71 : Cond := Cond.static arraycopyName
noncomputable def xwd72 : Cond := Cond.initialized "java/lang/System"
noncomputable def wsX0_insert : List Cond := (@List.cons Cond xwd68 (HAppend.hAppend (α := List Cond) (β := List Cond) (γ := List Cond) (@List.cons Cond xwd12 (@List.cons Cond xwd6 (@List.cons Cond xwd69 (@List.cons Cond xwd70 (@List.cons Cond xwd71 (@List.cons Cond xwd72 (@List.cons Cond xwd7 (@List.cons Cond xwd16 (@List.nil Cond))))))))) wsX00))
noncomputable def xwd73 : Cond := Cond.methodLink RX0 72 yX0_insert
noncomputable def xwd74 : Cond := Cond.instanceMethod yX0_insert
noncomputable def xwd75 : Cond := Cond.selects RX0 yX0_insert yX0_insert
noncomputable def wsX0_enter_r1 : List Cond := (@List.cons Cond xwd6 (@List.cons Cond xwd7 (@List.cons Cond xwd36 (@List.cons Cond xwd37 (@List.cons Cond xwd38 (@List.cons Cond xwd23 (@List.cons Cond xwd25 (@List.cons Cond xwd20 (@List.cons Cond xwd21 (@List.cons Cond xwd22 (@List.cons Cond xwd18 (@List.cons Cond xwd8 (@List.cons Cond xwd26 (@List.cons Cond xwd27 (@List.cons Cond xwd28 (@List.cons Cond xwd24 (@List.cons Cond xwd12 (@List.cons Cond xwd32 (@List.cons Cond xwd33 (@List.cons Cond xwd34 (@List.cons Cond xwd30 (@List.cons Cond xwd73 (@List.cons Cond xwd74 (@List.cons Cond xwd75 (@List.nil Cond)))))))))))))))))))))))))
noncomputable def wsX0_enter_r2 : List Cond := (@List.cons Cond xwd68 (@List.cons Cond xwd69 (@List.cons Cond xwd70 (@List.cons Cond xwd71 (@List.cons Cond xwd72 (@List.cons Cond xwd16 (@List.nil Cond)))))))
noncomputable def xwd76 : Cond := Cond.code yX0_enter cX0_enter 5 (some .int)
noncomputable def wsX0_enter : List Cond := (@List.cons Cond xwd76 (HAppend.hAppend (α := List Cond) (β := List Cond) (γ := List Cond) (HAppend.hAppend (α := List Cond) (β := List Cond) (γ := List Cond) wsX0_enter_r1 wsX0_enter_r2) wsX00))
noncomputable def xwd77 : Cond := Cond.code yX0_removeRange cX0_removeRange 3 (some .int)
noncomputable def wsX0_removeRange : List Cond := (@List.cons Cond xwd77 (HAppend.hAppend (α := List Cond) (β := List Cond) (γ := List Cond) (@List.cons Cond xwd12 (@List.cons Cond xwd6 (@List.cons Cond xwd69 (@List.cons Cond xwd70 (@List.cons Cond xwd71 (@List.cons Cond xwd72 (@List.cons Cond xwd7 (@List.cons Cond xwd16 (@List.nil Cond))))))))) wsX00))
noncomputable def wsX0_removeKey_r1 : List Cond := (@List.cons Cond xwd36 (@List.cons Cond xwd37 (@List.cons Cond xwd38 (@List.cons Cond xwd23 (@List.cons Cond xwd25 (@List.cons Cond xwd20 (@List.cons Cond xwd21 (@List.cons Cond xwd22 (@List.cons Cond xwd18 (@List.cons Cond xwd8 (@List.cons Cond xwd26 (@List.cons Cond xwd27 (@List.cons Cond xwd28 (@List.cons Cond xwd24 (@List.cons Cond xwd12 (@List.cons Cond xwd6 (@List.cons Cond xwd39 (@List.cons Cond xwd40 (@List.cons Cond xwd41 (@List.cons Cond xwd31 (@List.cons Cond xwd32 (@List.cons Cond xwd33 (@List.cons Cond xwd34 (@List.cons Cond xwd30 (@List.nil Cond)))))))))))))))))))))))))
noncomputable def xwd78 : Cond := Cond.methodLink RX0 82 yX0_removeRange
noncomputable def xwd79 : Cond := Cond.instanceMethod yX0_removeRange
noncomputable def xwd80 : Cond := Cond.selects RX0 yX0_removeRange yX0_removeRange
noncomputable def wsX0_removeKey_r2 : List Cond := (@List.cons Cond xwd42 (@List.cons Cond xwd43 (@List.cons Cond xwd44 (@List.cons Cond xwd35 (@List.cons Cond xwd7 (@List.cons Cond xwd78 (@List.cons Cond xwd79 (@List.cons Cond xwd80 (@List.cons Cond xwd77 (@List.cons Cond xwd69 (@List.cons Cond xwd70 (@List.cons Cond xwd71 (@List.cons Cond xwd72 (@List.cons Cond xwd16 (@List.nil Cond)))))))))))))))
noncomputable def xwd81 : Cond := Cond.code yX0_removeKey cX0_removeKey 4 (some .int)
noncomputable def wsX0_removeKey : List Cond := (@List.cons Cond xwd81 (HAppend.hAppend (α := List Cond) (β := List Cond) (γ := List Cond) (HAppend.hAppend (α := List Cond) (β := List Cond) (γ := List Cond) wsX0_removeKey_r1 wsX0_removeKey_r2) wsX00))
noncomputable def xwd82 : Cond := Cond.code yX0_removeAt cX0_removeAt 3 (some .int)
noncomputable def wsX0_removeAt : List Cond := (@List.cons Cond xwd82 (HAppend.hAppend (α := List Cond) (β := List Cond) (γ := List Cond) (@List.cons Cond xwd39 (@List.cons Cond xwd40 (@List.cons Cond xwd41 (@List.cons Cond xwd23 (@List.cons Cond xwd31 (@List.cons Cond xwd6 (@List.cons Cond xwd32 (@List.cons Cond xwd33 (@List.cons Cond xwd34 (@List.cons Cond xwd30 (@List.cons Cond xwd12 (@List.cons Cond xwd78 (@List.cons Cond xwd79 (@List.cons Cond xwd80 (@List.cons Cond xwd77 (@List.cons Cond xwd69 (@List.cons Cond xwd70 (@List.cons Cond xwd71 (@List.cons Cond xwd72 (@List.cons Cond xwd7 (@List.cons Cond xwd16 (@List.nil Cond)))))))))))))))))))))) wsX00))
noncomputable def xwd83 : Cond := Cond.code yX0_bounded cX0_bounded 1 (some .int)
noncomputable def wsX0_bounded : List Cond := (@List.cons Cond xwd83 (@List.cons Cond xwd57 (@List.cons Cond xwd58 (@List.cons Cond xwd59 (@List.cons Cond xwd60 (@List.cons Cond xwd61 (@List.cons Cond xwd62 (@List.cons Cond xwd63 (@List.nil Cond)))))))))
noncomputable def xwd84 : Cond := Cond.methodLink RX0 97 yX0_removeKey
noncomputable def xwd85 : Cond := Cond.instanceMethod yX0_removeKey
noncomputable def xwd86 : Cond := Cond.selects RX0 yX0_removeKey yX0_removeKey
noncomputable def wsX0_enterUnlessZero_r1 : List Cond := (@List.cons Cond xwd84 (@List.cons Cond xwd85 (@List.cons Cond xwd86 (@List.cons Cond xwd23 (@List.cons Cond xwd81 (@List.cons Cond xwd36 (@List.cons Cond xwd37 (@List.cons Cond xwd38 (@List.cons Cond xwd25 (@List.cons Cond xwd20 (@List.cons Cond xwd21 (@List.cons Cond xwd22 (@List.cons Cond xwd18 (@List.cons Cond xwd8 (@List.cons Cond xwd26 (@List.cons Cond xwd27 (@List.cons Cond xwd28 (@List.cons Cond xwd24 (@List.cons Cond xwd12 (@List.cons Cond xwd6 (@List.cons Cond xwd39 (@List.cons Cond xwd40 (@List.cons Cond xwd41 (@List.cons Cond xwd31 (@List.nil Cond)))))))))))))))))))))))))
noncomputable def xwd87 : Cond := Cond.methodLink RX0 88 yX0_enter
noncomputable def xwd88 : Cond := Cond.instanceMethod yX0_enter
noncomputable def xwd89 : Cond := Cond.selects RX0 yX0_enter yX0_enter
noncomputable def wsX0_enterUnlessZero_r2 : List Cond := (@List.cons Cond xwd32 (@List.cons Cond xwd33 (@List.cons Cond xwd34 (@List.cons Cond xwd30 (@List.cons Cond xwd42 (@List.cons Cond xwd43 (@List.cons Cond xwd44 (@List.cons Cond xwd35 (@List.cons Cond xwd7 (@List.cons Cond xwd78 (@List.cons Cond xwd79 (@List.cons Cond xwd80 (@List.cons Cond xwd77 (@List.cons Cond xwd69 (@List.cons Cond xwd70 (@List.cons Cond xwd71 (@List.cons Cond xwd72 (@List.cons Cond xwd16 (@List.cons Cond xwd87 (@List.cons Cond xwd88 (@List.cons Cond xwd89 (@List.cons Cond xwd76 (@List.cons Cond xwd73 (@List.cons Cond xwd74 (@List.nil Cond)))))))))))))))))))))))))
noncomputable def wsX0_enterUnlessZero_r3 : List Cond := (@List.cons Cond xwd75 (@List.cons Cond xwd68 (@List.nil Cond)))
noncomputable def xwd90 : Cond := Cond.code yX0_enterUnlessZero cX0_enterUnlessZero 3 (some .int)
noncomputable def wsX0_enterUnlessZero : List Cond := (@List.cons Cond xwd90 (HAppend.hAppend (α := List Cond) (β := List Cond) (γ := List Cond) (HAppend.hAppend (α := List Cond) (β := List Cond) (γ := List Cond) wsX0_enterUnlessZero_r1 (HAppend.hAppend (α := List Cond) (β := List Cond) (γ := List Cond) wsX0_enterUnlessZero_r2 wsX0_enterUnlessZero_r3)) wsX00))
noncomputable def xwd91 : Cond := Cond.methodLink RX0 85 yX0_holds
noncomputable def xwd92 : Cond := Cond.instanceMethod yX0_holds
noncomputable def xwd93 : Cond := Cond.selects RX0 yX0_holds yX0_holds
noncomputable def wsX0_putTogether_r1 : List Cond := (@List.cons Cond xwd91 (@List.cons Cond xwd92 (@List.cons Cond xwd93 (@List.cons Cond xwd23 (@List.cons Cond xwd49 (@List.cons Cond xwd46 (@List.cons Cond xwd47 (@List.cons Cond xwd48 (@List.cons Cond xwd45 (@List.cons Cond xwd36 (@List.cons Cond xwd37 (@List.cons Cond xwd38 (@List.cons Cond xwd25 (@List.cons Cond xwd20 (@List.cons Cond xwd21 (@List.cons Cond xwd22 (@List.cons Cond xwd18 (@List.cons Cond xwd8 (@List.cons Cond xwd26 (@List.cons Cond xwd27 (@List.cons Cond xwd28 (@List.cons Cond xwd24 (@List.cons Cond xwd12 (@List.cons Cond xwd6 (@List.nil Cond)))))))))))))))))))))))))
noncomputable def wsX0_putTogether_r2 : List Cond := (@List.cons Cond xwd39 (@List.cons Cond xwd40 (@List.cons Cond xwd41 (@List.cons Cond xwd31 (@List.cons Cond xwd32 (@List.cons Cond xwd33 (@List.cons Cond xwd34 (@List.cons Cond xwd30 (@List.cons Cond xwd42 (@List.cons Cond xwd43 (@List.cons Cond xwd44 (@List.cons Cond xwd35 (@List.cons Cond xwd7 (@List.cons Cond xwd87 (@List.cons Cond xwd88 (@List.cons Cond xwd89 (@List.cons Cond xwd76 (@List.cons Cond xwd73 (@List.cons Cond xwd74 (@List.cons Cond xwd75 (@List.cons Cond xwd68 (@List.cons Cond xwd69 (@List.cons Cond xwd70 (@List.cons Cond xwd71 (@List.nil Cond)))))))))))))))))))))))))
noncomputable def xwd94 : Cond := Cond.methodLink RX0 91 yX0_bounded
noncomputable def xwd95 : Cond := Cond.static yX0_bounded
noncomputable def xwd96 : Cond := Cond.methodLink RX0 94 yX0_enterUnlessZero
noncomputable def xwd97 : Cond := Cond.instanceMethod yX0_enterUnlessZero
noncomputable def xwd98 : Cond := Cond.selects RX0 yX0_enterUnlessZero yX0_enterUnlessZero
noncomputable def wsX0_putTogether_r3 : List Cond := (@List.cons Cond xwd72 (@List.cons Cond xwd16 (@List.cons Cond xwd94 (@List.cons Cond xwd95 (@List.cons Cond xwd83 (@List.cons Cond xwd57 (@List.cons Cond xwd58 (@List.cons Cond xwd59 (@List.cons Cond xwd60 (@List.cons Cond xwd61 (@List.cons Cond xwd62 (@List.cons Cond xwd63 (@List.cons Cond xwd96 (@List.cons Cond xwd97 (@List.cons Cond xwd98 (@List.cons Cond xwd90 (@List.cons Cond xwd84 (@List.cons Cond xwd85 (@List.cons Cond xwd86 (@List.cons Cond xwd81 (@List.cons Cond xwd78 (@List.cons Cond xwd79 (@List.cons Cond xwd80 (@List.cons Cond xwd77 (@List.nil Cond)))))))))))))))))))))))))
noncomputable def xwd99 : Cond := Cond.code yX0_putTogether cX0_putTogether 4 (some .int)
noncomputable def wsX0_putTogether : List Cond := (@List.cons Cond xwd99 (HAppend.hAppend (α := List Cond) (β := List Cond) (γ := List Cond) (HAppend.hAppend (α := List Cond) (β := List Cond) (γ := List Cond) wsX0_putTogether_r1 (HAppend.hAppend (α := List Cond) (β := List Cond) (γ := List Cond) wsX0_putTogether_r2 wsX0_putTogether_r3)) wsX00))
noncomputable def wsX0_growKey_r1 : List Cond := (@List.cons Cond xwd91 (@List.cons Cond xwd92 (@List.cons Cond xwd93 (@List.cons Cond xwd23 (@List.cons Cond xwd49 (@List.cons Cond xwd46 (@List.cons Cond xwd47 (@List.cons Cond xwd48 (@List.cons Cond xwd45 (@List.cons Cond xwd36 (@List.cons Cond xwd37 (@List.cons Cond xwd38 (@List.cons Cond xwd25 (@List.cons Cond xwd20 (@List.cons Cond xwd21 (@List.cons Cond xwd22 (@List.cons Cond xwd18 (@List.cons Cond xwd8 (@List.cons Cond xwd26 (@List.cons Cond xwd27 (@List.cons Cond xwd28 (@List.cons Cond xwd24 (@List.cons Cond xwd12 (@List.cons Cond xwd6 (@List.nil Cond)))))))))))))))))))))))))
noncomputable def wsX0_growKey_r2 : List Cond := (@List.cons Cond xwd39 (@List.cons Cond xwd40 (@List.cons Cond xwd41 (@List.cons Cond xwd31 (@List.cons Cond xwd32 (@List.cons Cond xwd33 (@List.cons Cond xwd34 (@List.cons Cond xwd30 (@List.cons Cond xwd42 (@List.cons Cond xwd43 (@List.cons Cond xwd44 (@List.cons Cond xwd35 (@List.cons Cond xwd7 (@List.cons Cond xwd87 (@List.cons Cond xwd88 (@List.cons Cond xwd89 (@List.cons Cond xwd76 (@List.cons Cond xwd73 (@List.cons Cond xwd74 (@List.cons Cond xwd75 (@List.cons Cond xwd68 (@List.cons Cond xwd69 (@List.cons Cond xwd70 (@List.cons Cond xwd71 (@List.nil Cond)))))))))))))))))))))))))
noncomputable def wsX0_growKey_r3 : List Cond := (@List.cons Cond xwd72 (@List.cons Cond xwd16 (@List.nil Cond)))
noncomputable def xwd100 : Cond := Cond.code yX0_growKey cX0_growKey 2 (some .int)
noncomputable def wsX0_growKey : List Cond := (@List.cons Cond xwd100 (HAppend.hAppend (α := List Cond) (β := List Cond) (γ := List Cond) (HAppend.hAppend (α := List Cond) (β := List Cond) (γ := List Cond) wsX0_growKey_r1 (HAppend.hAppend (α := List Cond) (β := List Cond) (γ := List Cond) wsX0_growKey_r2 wsX0_growKey_r3)) wsX00))
noncomputable def wsX0_halveKey_r1 : List Cond := (@List.cons Cond xwd91 (@List.cons Cond xwd92 (@List.cons Cond xwd93 (@List.cons Cond xwd23 (@List.cons Cond xwd49 (@List.cons Cond xwd46 (@List.cons Cond xwd47 (@List.cons Cond xwd48 (@List.cons Cond xwd45 (@List.cons Cond xwd36 (@List.cons Cond xwd37 (@List.cons Cond xwd38 (@List.cons Cond xwd25 (@List.cons Cond xwd20 (@List.cons Cond xwd21 (@List.cons Cond xwd22 (@List.cons Cond xwd18 (@List.cons Cond xwd8 (@List.cons Cond xwd26 (@List.cons Cond xwd27 (@List.cons Cond xwd28 (@List.cons Cond xwd24 (@List.cons Cond xwd12 (@List.cons Cond xwd6 (@List.nil Cond)))))))))))))))))))))))))
noncomputable def wsX0_halveKey_r2 : List Cond := (@List.cons Cond xwd39 (@List.cons Cond xwd40 (@List.cons Cond xwd41 (@List.cons Cond xwd31 (@List.cons Cond xwd32 (@List.cons Cond xwd33 (@List.cons Cond xwd34 (@List.cons Cond xwd30 (@List.cons Cond xwd42 (@List.cons Cond xwd43 (@List.cons Cond xwd44 (@List.cons Cond xwd35 (@List.cons Cond xwd7 (@List.cons Cond xwd96 (@List.cons Cond xwd97 (@List.cons Cond xwd98 (@List.cons Cond xwd90 (@List.cons Cond xwd84 (@List.cons Cond xwd85 (@List.cons Cond xwd86 (@List.cons Cond xwd81 (@List.cons Cond xwd78 (@List.cons Cond xwd79 (@List.cons Cond xwd80 (@List.nil Cond)))))))))))))))))))))))))
noncomputable def wsX0_halveKey_r3 : List Cond := (@List.cons Cond xwd77 (@List.cons Cond xwd69 (@List.cons Cond xwd70 (@List.cons Cond xwd71 (@List.cons Cond xwd72 (@List.cons Cond xwd16 (@List.cons Cond xwd87 (@List.cons Cond xwd88 (@List.cons Cond xwd89 (@List.cons Cond xwd76 (@List.cons Cond xwd73 (@List.cons Cond xwd74 (@List.cons Cond xwd75 (@List.cons Cond xwd68 (@List.nil Cond)))))))))))))))
noncomputable def xwd101 : Cond := Cond.code yX0_halveKey cX0_halveKey 2 (some .int)
noncomputable def wsX0_halveKey : List Cond := (@List.cons Cond xwd101 (HAppend.hAppend (α := List Cond) (β := List Cond) (γ := List Cond) (HAppend.hAppend (α := List Cond) (β := List Cond) (γ := List Cond) wsX0_halveKey_r1 (HAppend.hAppend (α := List Cond) (β := List Cond) (γ := List Cond) wsX0_halveKey_r2 wsX0_halveKey_r3)) wsX00))
noncomputable def wsX0_doubleKey_r1 : List Cond := (@List.cons Cond xwd46 (@List.cons Cond xwd47 (@List.cons Cond xwd48 (@List.cons Cond xwd23 (@List.cons Cond xwd45 (@List.cons Cond xwd36 (@List.cons Cond xwd37 (@List.cons Cond xwd38 (@List.cons Cond xwd25 (@List.cons Cond xwd20 (@List.cons Cond xwd21 (@List.cons Cond xwd22 (@List.cons Cond xwd18 (@List.cons Cond xwd8 (@List.cons Cond xwd26 (@List.cons Cond xwd27 (@List.cons Cond xwd28 (@List.cons Cond xwd24 (@List.cons Cond xwd12 (@List.cons Cond xwd6 (@List.cons Cond xwd39 (@List.cons Cond xwd40 (@List.cons Cond xwd41 (@List.cons Cond xwd31 (@List.nil Cond)))))))))))))))))))))))))
noncomputable def wsX0_doubleKey_r2 : List Cond := (@List.cons Cond xwd32 (@List.cons Cond xwd33 (@List.cons Cond xwd34 (@List.cons Cond xwd30 (@List.cons Cond xwd42 (@List.cons Cond xwd43 (@List.cons Cond xwd44 (@List.cons Cond xwd35 (@List.cons Cond xwd7 (@List.cons Cond xwd87 (@List.cons Cond xwd88 (@List.cons Cond xwd89 (@List.cons Cond xwd76 (@List.cons Cond xwd73 (@List.cons Cond xwd74 (@List.cons Cond xwd75 (@List.cons Cond xwd68 (@List.cons Cond xwd69 (@List.cons Cond xwd70 (@List.cons Cond xwd71 (@List.cons Cond xwd72 (@List.cons Cond xwd16 (@List.cons Cond xwd84 (@List.cons Cond xwd85 (@List.nil Cond)))))))))))))))))))))))))
noncomputable def wsX0_doubleKey_r3 : List Cond := (@List.cons Cond xwd86 (@List.cons Cond xwd81 (@List.cons Cond xwd78 (@List.cons Cond xwd79 (@List.cons Cond xwd80 (@List.cons Cond xwd77 (@List.nil Cond)))))))
noncomputable def xwd102 : Cond := Cond.code yX0_doubleKey cX0_doubleKey 3 (some .int)
noncomputable def wsX0_doubleKey : List Cond := (@List.cons Cond xwd102 (HAppend.hAppend (α := List Cond) (β := List Cond) (γ := List Cond) (HAppend.hAppend (α := List Cond) (β := List Cond) (γ := List Cond) wsX0_doubleKey_r1 (HAppend.hAppend (α := List Cond) (β := List Cond) (γ := List Cond) wsX0_doubleKey_r2 wsX0_doubleKey_r3)) wsX00))
noncomputable def xwd103 : Cond := Cond.code yX0_raiseAll cX0_raiseAll 5 (some .int)
noncomputable def wsX0_raiseAll : List Cond := (@List.cons Cond xwd103 (HAppend.hAppend (α := List Cond) (β := List Cond) (γ := List Cond) (@List.cons Cond xwd12 (@List.cons Cond xwd7 (@List.cons Cond xwd94 (@List.cons Cond xwd95 (@List.cons Cond xwd23 (@List.cons Cond xwd83 (@List.cons Cond xwd57 (@List.cons Cond xwd58 (@List.cons Cond xwd59 (@List.cons Cond xwd60 (@List.cons Cond xwd61 (@List.cons Cond xwd62 (@List.cons Cond xwd63 (@List.nil Cond)))))))))))))) wsX00))
noncomputable def xwd104 : Cond := Cond.methodLink RX0 100 yX0_removeAt
noncomputable def xwd105 : Cond := Cond.instanceMethod yX0_removeAt
noncomputable def xwd106 : Cond := Cond.selects RX0 yX0_removeAt yX0_removeAt
noncomputable def wsX0_removeMultiples_r1 : List Cond := (@List.cons Cond xwd12 (@List.cons Cond xwd42 (@List.cons Cond xwd43 (@List.cons Cond xwd44 (@List.cons Cond xwd23 (@List.cons Cond xwd35 (@List.cons Cond xwd7 (@List.cons Cond xwd32 (@List.cons Cond xwd33 (@List.cons Cond xwd34 (@List.cons Cond xwd30 (@List.cons Cond xwd104 (@List.cons Cond xwd105 (@List.cons Cond xwd106 (@List.cons Cond xwd82 (@List.cons Cond xwd39 (@List.cons Cond xwd40 (@List.cons Cond xwd41 (@List.cons Cond xwd31 (@List.cons Cond xwd6 (@List.cons Cond xwd78 (@List.cons Cond xwd79 (@List.cons Cond xwd80 (@List.cons Cond xwd77 (@List.nil Cond)))))))))))))))))))))))))
noncomputable def wsX0_removeMultiples_r2 : List Cond := (@List.cons Cond xwd69 (@List.cons Cond xwd70 (@List.cons Cond xwd71 (@List.cons Cond xwd72 (@List.cons Cond xwd16 (@List.nil Cond))))))
noncomputable def xwd107 : Cond := Cond.code yX0_removeMultiples cX0_removeMultiples 4 (some .int)
noncomputable def wsX0_removeMultiples : List Cond := (@List.cons Cond xwd107 (HAppend.hAppend (α := List Cond) (β := List Cond) (γ := List Cond) (HAppend.hAppend (α := List Cond) (β := List Cond) (γ := List Cond) wsX0_removeMultiples_r1 wsX0_removeMultiples_r2) wsX00))
noncomputable def wsX0_removeByOther_r1 : List Cond := (@List.cons Cond xwd12 (@List.cons Cond xwd39 (@List.cons Cond xwd40 (@List.cons Cond xwd41 (@List.cons Cond xwd23 (@List.cons Cond xwd31 (@List.cons Cond xwd6 (@List.cons Cond xwd32 (@List.cons Cond xwd33 (@List.cons Cond xwd34 (@List.cons Cond xwd30 (@List.cons Cond xwd91 (@List.cons Cond xwd92 (@List.cons Cond xwd93 (@List.cons Cond xwd49 (@List.cons Cond xwd46 (@List.cons Cond xwd47 (@List.cons Cond xwd48 (@List.cons Cond xwd45 (@List.cons Cond xwd36 (@List.cons Cond xwd37 (@List.cons Cond xwd38 (@List.cons Cond xwd25 (@List.cons Cond xwd20 (@List.nil Cond)))))))))))))))))))))))))
noncomputable def wsX0_removeByOther_r2 : List Cond := (@List.cons Cond xwd21 (@List.cons Cond xwd22 (@List.cons Cond xwd18 (@List.cons Cond xwd8 (@List.cons Cond xwd26 (@List.cons Cond xwd27 (@List.cons Cond xwd28 (@List.cons Cond xwd24 (@List.cons Cond xwd42 (@List.cons Cond xwd43 (@List.cons Cond xwd44 (@List.cons Cond xwd35 (@List.cons Cond xwd7 (@List.cons Cond xwd104 (@List.cons Cond xwd105 (@List.cons Cond xwd106 (@List.cons Cond xwd82 (@List.cons Cond xwd78 (@List.cons Cond xwd79 (@List.cons Cond xwd80 (@List.cons Cond xwd77 (@List.cons Cond xwd69 (@List.cons Cond xwd70 (@List.cons Cond xwd71 (@List.nil Cond)))))))))))))))))))))))))
noncomputable def wsX0_removeByOther_r3 : List Cond := (@List.cons Cond xwd72 (@List.cons Cond xwd16 (@List.nil Cond)))
noncomputable def xwd108 : Cond := Cond.code yX0_removeByOther cX0_removeByOther 5 (some .int)
noncomputable def wsX0_removeByOther : List Cond := (@List.cons Cond xwd108 (HAppend.hAppend (α := List Cond) (β := List Cond) (γ := List Cond) (HAppend.hAppend (α := List Cond) (β := List Cond) (γ := List Cond) wsX0_removeByOther_r1 (HAppend.hAppend (α := List Cond) (β := List Cond) (γ := List Cond) wsX0_removeByOther_r2 wsX0_removeByOther_r3)) wsX00))
noncomputable def xwd109 : Cond := Cond.methodLink RX0 103 yX0_size
noncomputable def xwd110 : Cond := Cond.instanceMethod yX0_size
noncomputable def xwd111 : Cond := Cond.selects RX0 yX0_size yX0_size
noncomputable def wsX0_enterAll_r1 : List Cond := (@List.cons Cond xwd109 (@List.cons Cond xwd110 (@List.cons Cond xwd111 (@List.cons Cond xwd23 (@List.cons Cond xwd11 (@List.cons Cond xwd12 (@List.cons Cond xwd39 (@List.cons Cond xwd40 (@List.cons Cond xwd41 (@List.cons Cond xwd31 (@List.cons Cond xwd6 (@List.cons Cond xwd32 (@List.cons Cond xwd33 (@List.cons Cond xwd34 (@List.cons Cond xwd30 (@List.cons Cond xwd42 (@List.cons Cond xwd43 (@List.cons Cond xwd44 (@List.cons Cond xwd35 (@List.cons Cond xwd7 (@List.cons Cond xwd87 (@List.cons Cond xwd88 (@List.cons Cond xwd89 (@List.cons Cond xwd76 (@List.nil Cond)))))))))))))))))))))))))
noncomputable def wsX0_enterAll_r2 : List Cond := (@List.cons Cond xwd36 (@List.cons Cond xwd37 (@List.cons Cond xwd38 (@List.cons Cond xwd25 (@List.cons Cond xwd20 (@List.cons Cond xwd21 (@List.cons Cond xwd22 (@List.cons Cond xwd18 (@List.cons Cond xwd8 (@List.cons Cond xwd26 (@List.cons Cond xwd27 (@List.cons Cond xwd28 (@List.cons Cond xwd24 (@List.cons Cond xwd73 (@List.cons Cond xwd74 (@List.cons Cond xwd75 (@List.cons Cond xwd68 (@List.cons Cond xwd69 (@List.cons Cond xwd70 (@List.cons Cond xwd71 (@List.cons Cond xwd72 (@List.cons Cond xwd16 (@List.nil Cond)))))))))))))))))))))))
noncomputable def xwd112 : Cond := Cond.code yX0_enterAll cX0_enterAll 3 none
noncomputable def wsX0_enterAll : List Cond := (@List.cons Cond xwd112 (HAppend.hAppend (α := List Cond) (β := List Cond) (γ := List Cond) (HAppend.hAppend (α := List Cond) (β := List Cond) (γ := List Cond) wsX0_enterAll_r1 wsX0_enterAll_r2) wsX00))
noncomputable def xwd113 : Cond := Cond.methodLink RX0 106 yX0_order
noncomputable def xwd114 : Cond := Cond.instanceMethod yX0_order
noncomputable def xwd115 : Cond := Cond.selects RX0 yX0_order yX0_order
noncomputable def xwd116 : Cond := Cond.methodLink RX0 108 yX0_enterAll
noncomputable def xwd117 : Cond := Cond.instanceMethod yX0_enterAll
noncomputable def xwd118 : Cond := Cond.selects RX0 yX0_enterAll yX0_enterAll
noncomputable def wsX0_becomeLike_r1 : List Cond := (@List.cons Cond xwd12 (@List.cons Cond xwd8 (@List.cons Cond xwd78 (@List.cons Cond xwd79 (@List.cons Cond xwd80 (@List.cons Cond xwd23 (@List.cons Cond xwd77 (@List.cons Cond xwd6 (@List.cons Cond xwd69 (@List.cons Cond xwd70 (@List.cons Cond xwd71 (@List.cons Cond xwd72 (@List.cons Cond xwd7 (@List.cons Cond xwd16 (@List.cons Cond xwd113 (@List.cons Cond xwd114 (@List.cons Cond xwd115 (@List.cons Cond xwd10 (@List.cons Cond xwd116 (@List.cons Cond xwd117 (@List.cons Cond xwd118 (@List.cons Cond xwd112 (@List.cons Cond xwd109 (@List.cons Cond xwd110 (@List.nil Cond)))))))))))))))))))))))))
noncomputable def wsX0_becomeLike_r2 : List Cond := (@List.cons Cond xwd111 (@List.cons Cond xwd11 (@List.cons Cond xwd39 (@List.cons Cond xwd40 (@List.cons Cond xwd41 (@List.cons Cond xwd31 (@List.cons Cond xwd32 (@List.cons Cond xwd33 (@List.cons Cond xwd34 (@List.cons Cond xwd30 (@List.cons Cond xwd42 (@List.cons Cond xwd43 (@List.cons Cond xwd44 (@List.cons Cond xwd35 (@List.cons Cond xwd87 (@List.cons Cond xwd88 (@List.cons Cond xwd89 (@List.cons Cond xwd76 (@List.cons Cond xwd36 (@List.cons Cond xwd37 (@List.cons Cond xwd38 (@List.cons Cond xwd25 (@List.cons Cond xwd20 (@List.cons Cond xwd21 (@List.nil Cond)))))))))))))))))))))))))
noncomputable def wsX0_becomeLike_r3 : List Cond := (@List.cons Cond xwd22 (@List.cons Cond xwd18 (@List.cons Cond xwd26 (@List.cons Cond xwd27 (@List.cons Cond xwd28 (@List.cons Cond xwd24 (@List.cons Cond xwd73 (@List.cons Cond xwd74 (@List.cons Cond xwd75 (@List.cons Cond xwd68 (@List.nil Cond)))))))))))
noncomputable def xwd119 : Cond := Cond.code yX0_becomeLike cX0_becomeLike 2 none
noncomputable def wsX0_becomeLike : List Cond := (@List.cons Cond xwd119 (HAppend.hAppend (α := List Cond) (β := List Cond) (γ := List Cond) (HAppend.hAppend (α := List Cond) (β := List Cond) (γ := List Cond) wsX0_becomeLike_r1 (HAppend.hAppend (α := List Cond) (β := List Cond) (γ := List Cond) wsX0_becomeLike_r2 wsX0_becomeLike_r3)) wsX00))
noncomputable def wsX0_isLike_r1 : List Cond := (@List.cons Cond xwd12 (@List.cons Cond xwd6 (@List.cons Cond xwd7 (@List.cons Cond xwd109 (@List.cons Cond xwd110 (@List.cons Cond xwd111 (@List.cons Cond xwd23 (@List.cons Cond xwd11 (@List.cons Cond xwd46 (@List.cons Cond xwd47 (@List.cons Cond xwd48 (@List.cons Cond xwd45 (@List.cons Cond xwd36 (@List.cons Cond xwd37 (@List.cons Cond xwd38 (@List.cons Cond xwd25 (@List.cons Cond xwd20 (@List.cons Cond xwd21 (@List.cons Cond xwd22 (@List.cons Cond xwd18 (@List.cons Cond xwd8 (@List.cons Cond xwd26 (@List.cons Cond xwd27 (@List.cons Cond xwd28 (@List.nil Cond)))))))))))))))))))))))))
noncomputable def wsX0_isLike_r2 : List Cond := (@List.cons Cond xwd24 (@List.cons Cond xwd39 (@List.cons Cond xwd40 (@List.cons Cond xwd41 (@List.cons Cond xwd31 (@List.cons Cond xwd32 (@List.cons Cond xwd33 (@List.cons Cond xwd34 (@List.cons Cond xwd30 (@List.cons Cond xwd42 (@List.cons Cond xwd43 (@List.cons Cond xwd44 (@List.cons Cond xwd35 (@List.nil Cond))))))))))))))
noncomputable def xwd120 : Cond := Cond.code yX0_isLike cX0_isLike 3 (some .boolean)
noncomputable def wsX0_isLike : List Cond := (@List.cons Cond xwd120 (HAppend.hAppend (α := List Cond) (β := List Cond) (γ := List Cond) (HAppend.hAppend (α := List Cond) (β := List Cond) (γ := List Cond) wsX0_isLike_r1 wsX0_isLike_r2) wsX00))
noncomputable def xwd121 : Cond := Cond.code yX0_hasSameTotals cX0_hasSameTotals 2 (some .boolean)
noncomputable def xwd122 : Cond := Cond.methodLink RX0 112 yX0_sum
noncomputable def xwd123 : Cond := Cond.instanceMethod yX0_sum
noncomputable def xwd124 : Cond := Cond.selects RX0 yX0_sum yX0_sum
noncomputable def wsX0_hasSameTotals : List Cond := (@List.cons Cond xwd121 (HAppend.hAppend (α := List Cond) (β := List Cond) (γ := List Cond) (@List.cons Cond xwd12 (@List.cons Cond xwd109 (@List.cons Cond xwd110 (@List.cons Cond xwd111 (@List.cons Cond xwd23 (@List.cons Cond xwd11 (@List.cons Cond xwd122 (@List.cons Cond xwd123 (@List.cons Cond xwd124 (@List.cons Cond xwd56 (@List.cons Cond xwd7 (@List.cons Cond xwd32 (@List.cons Cond xwd33 (@List.cons Cond xwd34 (@List.cons Cond xwd30 (@List.nil Cond)))))))))))))))) wsX00))
noncomputable def xwd125 : Cond := Cond.methodLink RX0 115 yX0_isAhead
noncomputable def xwd126 : Cond := Cond.instanceMethod yX0_isAhead
noncomputable def xwd127 : Cond := Cond.selects RX0 yX0_isAhead yX0_isAhead
noncomputable def xwd128 : Cond := Cond.methodLink RX0 119 yX0_closest
noncomputable def xwd129 : Cond := Cond.instanceMethod yX0_closest
noncomputable def xwd130 : Cond := Cond.selects RX0 yX0_closest yX0_closest
noncomputable def wsX0_isInOrder_r1 : List Cond := (@List.cons Cond xwd12 (@List.cons Cond xwd39 (@List.cons Cond xwd40 (@List.cons Cond xwd41 (@List.cons Cond xwd23 (@List.cons Cond xwd31 (@List.cons Cond xwd6 (@List.cons Cond xwd32 (@List.cons Cond xwd33 (@List.cons Cond xwd34 (@List.cons Cond xwd30 (@List.cons Cond xwd125 (@List.cons Cond xwd126 (@List.cons Cond xwd127 (@List.cons Cond xwd19 (@List.cons Cond xwd20 (@List.cons Cond xwd21 (@List.cons Cond xwd22 (@List.cons Cond xwd18 (@List.cons Cond xwd8 (@List.cons Cond xwd128 (@List.cons Cond xwd129 (@List.cons Cond xwd130 (@List.cons Cond xwd67 (@List.nil Cond)))))))))))))))))))))))))
noncomputable def wsX0_isInOrder_r2 : List Cond := (@List.cons Cond xwd57 (@List.cons Cond xwd58 (@List.cons Cond xwd59 (@List.cons Cond xwd60 (@List.cons Cond xwd61 (@List.cons Cond xwd62 (@List.cons Cond xwd63 (@List.cons Cond xwd36 (@List.cons Cond xwd37 (@List.cons Cond xwd38 (@List.cons Cond xwd25 (@List.cons Cond xwd26 (@List.cons Cond xwd27 (@List.cons Cond xwd28 (@List.cons Cond xwd24 (@List.cons Cond xwd64 (@List.cons Cond xwd65 (@List.cons Cond xwd66 (@List.cons Cond xwd29 (@List.nil Cond))))))))))))))))))))
noncomputable def xwd131 : Cond := Cond.code yX0_isInOrder cX0_isInOrder 4 (some .boolean)
noncomputable def wsX0_isInOrder : List Cond := (@List.cons Cond xwd131 (HAppend.hAppend (α := List Cond) (β := List Cond) (γ := List Cond) (HAppend.hAppend (α := List Cond) (β := List Cond) (γ := List Cond) wsX0_isInOrder_r1 wsX0_isInOrder_r2) wsX00))
noncomputable def xwd132 : Cond := Cond.code yJ2_newBytesLength_0f7a4 cJ2_newBytesLength_0f7a4 1 (some .int)
noncomputable def xwd133 : Cond := Cond.constant RJ2 20 (1073741823)
noncomputable def wsJ2_newBytesLength_0f7a4 : List Cond := (@List.cons Cond xwd132 (@List.cons Cond xwd133 (@List.nil Cond)))
noncomputable def xwd134 : Cond := Cond.code yJ2_newBytesFor_77867 cJ2_newBytesFor_77867 1 (some (.array .byte))
noncomputable def xwd135 : Cond := Cond.arrayClass .byte
noncomputable def xwd136 : Cond := Cond.methodLink RJ2 11 yJ2_newBytesLength_0f7a4
