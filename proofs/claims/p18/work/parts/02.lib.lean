/-! The prover's own calculus over the kit's rows: ints by their numbers (iN), a heap as a map from addresses to cells (HM), contracts over such maps. -/
section XLIB
/-- an int by its number -/
def iN (z : Int) : Int32 := Int32.ofInt z
theorem iN_add (a b : Int) : iN a + iN b = iN (a + b) := (Int32.ofInt_add a b).symm
theorem iN_sub (a b : Int) : iN a - iN b = iN (a - b) := (Int32.ofInt_sub a b).symm
theorem iN_mul (a b : Int) : iN a * iN b = iN (a * b) := (Int32.ofInt_mul a b).symm
theorem iN_neg (a : Int) : -iN a = iN (-a) := (Int32.ofInt_neg a).symm
theorem iN_asI (x : Int32) : iN x.toInt = x := Int32.ofInt_toInt x
/-- the numbers of ints -/
abbrev rI (z : Int) : Prop := -2147483648 ≤ z ∧ z ≤ 2147483647
theorem iN_rng (x : Int32) : -2147483648 ≤ x.toInt ∧ x.toInt ≤ 2147483647 := by
  have h1 := Int32.le_toInt x
  have h2 := Int32.toInt_lt x
  exact ⟨by omega, by omega⟩
theorem iN_toInt {z : Int} (h : rI z) : (iN z).toInt = z := Int32.toInt_ofInt_of_le (by have := h.1; omega) (by have := h.2; omega)
theorem iN_le {a b : Int} (ha : rI a) (hb : rI b) : iN a ≤ iN b ↔ a ≤ b := by rw [Int32.le_iff_toInt_le, iN_toInt ha, iN_toInt hb]
theorem iN_lt {a b : Int} (ha : rI a) (hb : rI b) : iN a < iN b ↔ a < b := by rw [Int32.lt_iff_toInt_lt, iN_toInt ha, iN_toInt hb]
theorem iN_eq {a b : Int} (ha : rI a) (hb : rI b) : iN a = iN b ↔ a = b := by rw [← Int32.toInt_inj, iN_toInt ha, iN_toInt hb]
theorem iN_0 : iN 0 = 0 := rfl
theorem iN_clamp {z : Int} (h0 : 0 ≤ z) (h1 : z ≤ 2147483647) : (iN z).toNatClampNeg = z.toNat := Int32.toNatClampNeg_ofInt_of_le (by omega) (by omega)
theorem iN_in {z : Int} {N : Nat} (h0 : 0 ≤ z) (h1 : z ≤ 2147483647) (h2 : z < N) : vp_in (iN z) N := vp_in_iff.mpr (by rw [iN_toInt ⟨by omega, h1⟩]; exact ⟨h0, h2⟩)
theorem iN_nat (n : Nat) : Int32.ofNat n = iN n := Int32.ofInt_eq_ofNat.symm
theorem x_tdiv_rng {a b : Int} (h : rI a) (hb : b ≠ 0 ∧ b ≠ -1) : rI (a.tdiv b) := by
  have h3 : (a.tdiv b).natAbs ≤ a.natAbs := by rw [Int.natAbs_tdiv]; exact Nat.div_le_self _ _
  have h4 := h.1
  have h5 := h.2
  by_cases e : a = -2147483648
  · by_cases e1 : b = 1
    · rw [e1, Int.tdiv_one]; exact h
    · have h6 : 1 < b.natAbs := by omega
      have h7 : (a.tdiv b).natAbs < a.natAbs := by rw [Int.natAbs_tdiv]; exact Nat.div_lt_self (by omega) h6
      generalize a.tdiv b = q at h7 ⊢
      constructor <;> omega
  · generalize a.tdiv b = q at h3 ⊢
    constructor <;> omega
theorem iN_div {a b : Int} (ha : rI a) (hb : rI b) (h : b ≠ 0) (h2 : b ≠ -1) : iN a / iN b = iN (a.tdiv b) := by
  apply Int32.toInt_inj.mp
  rw [Int32.toInt_div_of_ne_right _ _ (fun e => h2 ((iN_eq hb ⟨by decide, by decide⟩).mp (show iN b = iN (-1) from e))), iN_toInt ha, iN_toInt hb, iN_toInt (x_tdiv_rng ha ⟨h, h2⟩)]
theorem iN_rem {a b : Int} (ha : rI a) (hb : rI b) (h : b ≠ 0) (h2 : b ≠ -1) : iN a - iN a / iN b * iN b = iN (a.tmod b) := by
  rw [iN_div ha hb h h2, iN_mul, iN_sub]
  congr 1
  have := Int.tdiv_mul_add_tmod a b
  omega
/-- nothing -/
def xd : va_E := .inr (0, [])
/-- a heap: what lies at an address -/
abbrev HM : Type := Nat → Option va_E
def xL (M : HM) : Nat → va_E := fun a => (M a).getD xd
def xTy (dA : Nat → ClassId) : List (ClassId × FieldType) := [(dA 0, .byte), (dA 1, .int), (dA 2, .object RX0), (dA 3, .object RX1), (dA 4, .array .int)]
/-- the classes' numbers, the fields' slots, the array classes' numbers -/
abbrev xG : Type := va_G × (Nat → ClassId)
/-- the heap H holds the map's cells; they are of the kind A -/
def xPW (G : xG) (A : Nat → Prop) (M : HM) (H : Heap) : Prop := ∃ L : List Nat, (∀ a, a ∈ L ↔ M a ≠ none) ∧ va_P G.1 vwCl (va_pl L (xL M)) H ∧ va_D A (va_pl L (xL M))
/-- which cells a method may change: the map's, and those that it makes -/
def xA (M : HM) (sz : Nat) : Nat → Prop := fun q => M q ≠ none ∨ sz ≤ q
def xLits : List (String × Nat × String × List Int32) := [("Rangeledger", 106, "several keys have the value", [115, 101, 118, 101, 114, 97, 108, 32, 107, 101, 121, 115, 32, 104, 97, 118, 101, 32, 116, 104, 101, 32, 118, 97, 108, 117, 101]), ("Rangeledger", 190, "nothing is at hand", [110, 111, 116, 104, 105, 110, 103, 32, 105, 115, 32, 97, 116, 32, 104, 97, 110, 100]), ("Rangeledger", 196, "no step came to a pair that is not dropped", [110, 111, 32, 115, 116, 101, 112, 32, 99, 97, 109, 101, 32, 116, 111, 32, 97, 32, 112, 97, 105, 114, 32, 116, 104, 97, 116, 32, 105, 115, 32, 110, 111, 116, 32, 100, 114, 111, 112, 112, 101, 100]), ("Rangeledger", 232, "place is below 0", [112, 108, 97, 99, 101, 32, 105, 115, 32, 98, 101, 108, 111, 119, 32, 48]), ("Rangeledger", 311, "no such book", [110, 111, 32, 115, 117, 99, 104, 32, 98, 111, 111, 107]), ("Rangeledger", 314, "no such view is open", [110, 111, 32, 115, 117, 99, 104, 32, 118, 105, 101, 119, 32, 105, 115, 32, 111, 112, 101, 110]), ("Rangeledger", 316, "there is no walk, or it is broken", [116, 104, 101, 114, 101, 32, 105, 115, 32, 110, 111, 32, 119, 97, 108, 107, 44, 32, 111, 114, 32, 105, 116, 32, 105, 115, 32, 98, 114, 111, 107, 101, 110]), ("Rangeledger", 321, "4 views are open", [52, 32, 118, 105, 101, 119, 115, 32, 97, 114, 101, 32, 111, 112, 101, 110]), ("Rangeledger", 323, "a key is not 0 to 99", [97, 32, 107, 101, 121, 32, 105, 115, 32, 110, 111, 116, 32, 48, 32, 116, 111, 32, 57, 57]), ("Rangeledger", 325, "a value is not -9999 to 9999", [97, 32, 118, 97, 108, 117, 101, 32, 105, 115, 32, 110, 111, 116, 32, 45, 57, 57, 57, 57, 32, 116, 111, 32, 57, 57, 57, 57]), ("Rangeledger", 327, "what is not one of those told", [119, 104, 97, 116, 32, 105, 115, 32, 110, 111, 116, 32, 111, 110, 101, 32, 111, 102, 32, 116, 104, 111, 115, 101, 32, 116, 111, 108, 100]), ("Rangeledger", 329, "both books are the same", [98, 111, 116, 104, 32, 98, 111, 111, 107, 115, 32, 97, 114, 101, 32, 116, 104, 101, 32, 115, 97, 109, 101]), ("Rangeledger", 88, "by is not -999 to 999", [98, 121, 32, 105, 115, 32, 110, 111, 116, 32, 45, 57, 57, 57, 32, 116, 111, 32, 57, 57, 57]), ("Rangeledger", 96, "by is not 2 to 99", [98, 121, 32, 105, 115, 32, 110, 111, 116, 32, 50, 32, 116, 111, 32, 57, 57]), ("Rangeledger$Book", 130, ", ", [44, 32]), ("RangeledgerModel", 104, ", ", [44, 32]), ("RangeledgerModel", 113, "=", [61]), ("RangeledgerModel", 119, "}", [125]), ("RangeledgerModel", 210, "", []), ("RangeledgerModel", 91, "{", [123]), ("java/util/Arrays", 337, " > ", [32, 62, 32])]
/-- a String constant: resolved, its object, its bytes -/
def xLit (q v : Nat) (w : String × Nat × String × List Int32) (A : Nat → Prop) (U : State) (H : Heap) : Prop := vk_R w.1 w.2.1 w.2.2.1 q U ∧ va_O "java/lang/String" q A U H ∧ va_OF "java/lang/String" "coder" "B" (.int 0) q A U H ∧ va_OF "java/lang/String" "value" "[B" (.ref v) q A U H ∧ va_T .byte v w.2.2.2.length (fun j => .int (w.2.2.2.getD j 0)) A U H
theorem xLit.kept {q v : Nat} {w : String × Nat × String × List Int32} {A : Nat → Prop} {U : State} {H H1 : Heap} (h : xLit q v w A U H) (hq : ∀ a : Nat, a < H.size → ¬ A a → H1[a]? = H[a]?) : xLit q v w A U H1 := by
  obtain ⟨h1, h2, h3, h4, h5⟩ := h
  exact ⟨h1, h2.kept hq, h3.kept hq, h4.kept hq, h5.kept hq⟩
theorem xLit.narrow {q v : Nat} {w : String × Nat × String × List Int32} {A B : Nat → Prop} {U : State} {H : Heap} (h : xLit q v w A U H) (hAB : ∀ q, B q → A q) : xLit q v w B U H := by
  obtain ⟨h1, h2, h3, h4, h5⟩ := h
  exact ⟨h1, h2.narrow hAB, h3.narrow hAB, h4.narrow hAB, h5.narrow hAB⟩
theorem xLit.moved {q v : Nat} {w : String × Nat × String × List Int32} {A : Nat → Prop} {u U : State} {H : Heap} (hW : u.WarmedH U.vm) (h : xLit q v w A u H) : xLit q v w A U H := by
  obtain ⟨h1, h2, h3, h4, h5⟩ := h
  exact ⟨vk_R.warm hW h1, va_O.moved hW.alike h2, va_OF.moved hW.alike h3, va_OF.moved hW.alike h4, va_T.moved hW.alike h5⟩
def xIO : String := "java/lang/IndexOutOfBoundsException"
def xIA : String := "java/lang/IllegalArgumentException"
def xIS : String := "java/lang/IllegalStateException"
/-- the casts that succeed, those that don't -/
def xCasts : List (String × String) := [("java/lang/IndexOutOfBoundsException", "java/lang/IndexOutOfBoundsException"), ("java/lang/IllegalArgumentException", "java/lang/IllegalArgumentException"), ("java/lang/IllegalStateException", "java/lang/IllegalStateException"), ("[I", "java/lang/Cloneable"), ("[B", "java/lang/Cloneable")]
def xNots : List (String × String) := [("java/lang/IndexOutOfBoundsException", "java/lang/IllegalArgumentException"), ("java/lang/IndexOutOfBoundsException", "java/lang/IllegalStateException"), ("java/lang/IllegalArgumentException", "java/lang/IndexOutOfBoundsException"), ("java/lang/IllegalArgumentException", "java/lang/IllegalStateException"), ("java/lang/IllegalStateException", "java/lang/IndexOutOfBoundsException"), ("java/lang/IllegalStateException", "java/lang/IllegalArgumentException")]
def xDecls : List String := ["java/lang/RuntimeException", "java/lang/Exception", "java/lang/Throwable"]
/-- the JDK's statics -/
def xJs (A : Nat → Prop) (U : State) (H : Heap) : Prop := va_Z "java/lang/String" "COMPACT_STRINGS" "Z" (.int 1) A U H ∧ ∃ (t1 t2 : Nat) (f1 f2 : Nat → Int32), va_Z "java/lang/Integer" "DigitTens" "[B" (.ref t1) A U H ∧ va_T .byte t1 100 (fun j => .int (f1 j)) A U H ∧ va_Z "java/lang/Integer" "DigitOnes" "[B" (.ref t2) A U H ∧ va_T .byte t2 100 (fun j => .int (f2 j)) A U H ∧ ∀ j, fits .byte (.int (f1 j)) = true ∧ fits .byte (.int (f2 j)) = true
/-- what the law's nest lets it do: Out's two fields, Out's constructor -/
def xNest (U : State) : Prop := va_Nw (.fieldLinkNest "RangeledgerLaw" 13 "RangeledgerLaw$Out" "n" "J" "RangeledgerLaw") U ∧ va_Nw (.fieldLinkNest "RangeledgerLaw" 164 "RangeledgerLaw$Out" "s" "Ljava/lang/String;" "RangeledgerLaw") U ∧ va_Nw (.methodLinkNest "RangeledgerLaw" 190 ⟨"RangeledgerLaw$Out", "<init>", "()V"⟩ "RangeledgerLaw") U
theorem xNest.moved {u U : State} (hW : u.WarmedH U.vm) (h : xNest u) : xNest U := ⟨va_Nw.warmF hW h.1, va_Nw.warmF hW h.2.1, va_Nw.warmM hW h.2.2⟩
theorem va_AOA.moved {ty : FieldType} {u U : State} (hvm : u.vm.Alike U.vm) (h : va_AOA ty u) : va_AOA ty U := by
  have h1 := Cond.arrayOver_setVmC (args := #[]) hvm (.array ty)
  have h2 : (Cond.arrayOver (.array ty)).before #[] (u.setVm U.vm) = true := h1.trans h
  exact h2
/-- what the tables and the JDK's statics hold -/
def xS (G : xG) (A : Nat → Prop) (U : State) (H : Heap) : Prop :=
  va_K G.1 vwCl (xTy G.2) U ∧ (vx_Zq Bundle.tN "UNASSIGNED_STACK" Bundle.steD A U H ∧ vx_Zq Bundle.tN "SUPPRESSED_SENTINEL" Bundle.listD A U H) ∧ (∀ (n : Nat) (w : String × Nat × String × List Int32), xLits[n]? = some w → xLit (G.2 (100 + 2 * n)) (G.2 (101 + 2 * n)) w A U H) ∧ ((∀ w ∈ xCasts, va_Nw (.castable w.1 w.2) U) ∧ ∀ w ∈ xDecls, va_Nw (.declares (Bundle.initS w)) U) ∧ (∀ w ∈ xNots, va_Nc w.1 w.2 U) ∧ (va_AO RX0 U ∧ va_AO RX1 U ∧ va_AOA .int U ∧ xNest U) ∧ xJs A U H
theorem xS.kept {G : xG} {A : Nat → Prop} {U : State} {H H1 : Heap} (h : xS G A U H) (hq : ∀ a : Nat, a < H.size → ¬ A a → H1[a]? = H[a]?) : xS G A U H1 := by
  obtain ⟨h1, h2, h3, h4, h5, h6, h7, t1, t2, f1, f2, h8, h9, h10, h11, h12⟩ := h
  exact ⟨h1, ⟨h2.1.kept hq, h2.2.kept hq⟩, fun n w hw => (h3 n w hw).kept hq, h4, h5, h6, h7.kept hq, t1, t2, f1, f2, h8.kept hq, h9.kept hq, h10.kept hq, h11.kept hq, h12⟩
theorem xS.narrow {G : xG} {A B : Nat → Prop} {U : State} {H : Heap} (h : xS G A U H) (hAB : ∀ q, B q → A q) : xS G B U H := by
  obtain ⟨h1, h2, h3, h4, h5, h6, h7, t1, t2, f1, f2, h8, h9, h10, h11, h12⟩ := h
  exact ⟨h1, ⟨h2.1.narrow hAB, h2.2.narrow hAB⟩, fun n w hw => (h3 n w hw).narrow hAB, h4, h5, h6, h7.narrow hAB, t1, t2, f1, f2, h8.narrow hAB, h9.narrow hAB, h10.narrow hAB, h11.narrow hAB, h12⟩
theorem xS.moved {G : xG} {A : Nat → Prop} {u U : State} {H : Heap} (hW : u.WarmedH U.vm) (h : xS G A u H) : xS G A U H := by
  obtain ⟨h1, h2, h3, h4, h5, h6, h7, t1, t2, f1, f2, h8, h9, h10, h11, h12⟩ := h
  have e := hW.alike
  exact ⟨va_K.moved e h1, ⟨vx_Zq.moved e h2.1, vx_Zq.moved e h2.2⟩, fun n w hw => (h3 n w hw).moved hW, ⟨fun w hw => va_Nw.warmC hW (h4.1 w hw), fun w hw => va_Nw.warmD hW (h4.2 w hw)⟩, fun w hw => va_Nc.moved e (h5 w hw), ⟨va_AO.moved e h6.1, va_AO.moved e h6.2.1, va_AOA.moved e h6.2.2.1, xNest.moved hW h6.2.2.2⟩, va_Z.moved e h7, t1, t2, f1, f2, va_Z.moved e h8, va_T.moved e h9, va_Z.moved e h10, va_T.moved e h11, h12⟩
theorem xPW.weaken {G : xG} {A B : Nat → Prop} {M : HM} {H : Heap} (h : xPW G A M H) (hAB : ∀ q, A q → B q) : xPW G B M H := by
  obtain ⟨L, h1, h2, h3⟩ := h
  exact ⟨L, h1, h2, h3.weaken (fun _ _ _ q => hAB _ q)⟩
theorem xPW.at {G : xG} {A : Nat → Prop} {M : HM} {H : Heap} (h : xPW G A M H) {a : Nat} {e : va_E} (he : M a = some e) : va_at G.1 vwCl (a, e) H ∧ A a := by
  obtain ⟨L, h1, h2, h3⟩ := h
  obtain ⟨k, hk⟩ := va_pl_get (X := []) (f := xL M) ((h1 a).mpr (by rw [he]; exact fun q => nomatch q))
  have e1 : xL M a = e := by simp [xL, he]
  rw [e1] at hk
  exact ⟨h2 k _ hk, h3.2 k _ hk⟩
theorem xPW.in {G : xG} {A : Nat → Prop} {M : HM} {H : Heap} (h : xPW G A M H) {a : Nat} (he : M a ≠ none) : A a := by
  cases e : M a with
  | none => exact absurd e he
  | some e1 => exact (h.at e).2
theorem xPW.self {G : xG} {A : Nat → Prop} {M : HM} {H : Heap} (sz : Nat) (h : xPW G A M H) : xPW G (xA M sz) M H := by
  obtain ⟨L, h1, h2, h3⟩ := h
  refine ⟨L, h1, h2, h3.1, fun k q hk => Or.inl ?_⟩
  obtain ⟨a, ha, rfl⟩ := List.mem_map.mp (List.mem_of_getElem? hk)
  exact (h1 a).mp ha
theorem xPW.get {G : xG} {A : Nat → Prop} {M : HM} {H : Heap} (h : xPW G A M H) {a : Nat} {e : va_E} (he : M a = some e) : ∃ (L : List Nat) (k : Nat), (∀ a, a ∈ L ↔ M a ≠ none) ∧ va_P G.1 vwCl (va_pl L (xL M)) H ∧ va_D A (va_pl L (xL M)) ∧ a ∈ L ∧ (va_pl L (xL M))[k]? = some (a, e) ∧ ∀ e2 : va_E, (va_pl L (xL M)).set k (a, e2) = va_pl L (xL (va_up M a (some e2))) := by
  obtain ⟨L, h1, h2, h3⟩ := h
  have hL : a ∈ L := (h1 a).mpr (by rw [he]; exact fun q => nomatch q)
  obtain ⟨k, hk⟩ := va_pl_get (X := []) (f := xL M) hL
  have e1 : xL M a = e := by simp [xL, he]
  have hk2 : (va_pl L (xL M))[k]? = some (a, xL M a) := hk
  refine ⟨L, k, h1, h2, h3, hL, by rw [hk2, e1], fun e2 => ?_⟩
  have h5 := va_pl_set (X := []) (e := e2) h3 hL hk2
  rw [List.nil_append, List.nil_append] at h5
  rw [h5]
  refine va_pl_congr (fun b => ?_)
  by_cases hb : b = a
  · subst hb; simp [xL, va_up]
  · simp [xL, va_up, hb]
theorem xPW.of {G : xG} {A : Nat → Prop} {M : HM} {H : Heap} {a : Nat} {e e2 : va_E} {L : List Nat} (h1 : ∀ a, a ∈ L ↔ M a ≠ none) (he : M a = some e) (h2 : va_P G.1 vwCl (va_pl L (xL (va_up M a (some e2)))) H) (h3 : va_D A (va_pl L (xL (va_up M a (some e2))))) : xPW G A (va_up M a (some e2)) H := by
  refine ⟨L, fun b => ?_, h2, h3⟩
  by_cases hb : b = a
  · subst hb; rw [va_up_self, h1 b, he]; simp
  · rw [va_up_ne _ _ hb]; exact h1 b
theorem xPW.new {G : xG} {A : Nat → Prop} {M : HM} {H : Heap} {L : List Nat} {q : Nat} {e : va_E} (h1 : ∀ a, a ∈ L ↔ M a ≠ none) (h2 : va_P G.1 vwCl (va_pl L (xL M) ++ [(q, e)]) H) (h3 : va_D A (va_pl L (xL M) ++ [(q, e)])) : M q = none ∧ xPW G A (va_up M q (some e)) H := by
  have hq : q ∉ L := by
    intro hq
    obtain ⟨i, hi⟩ := List.getElem?_of_mem (show (q, xL M q) ∈ va_pl L (xL M) from List.mem_map.mpr ⟨q, hq, rfl⟩)
    have hil := (List.getElem?_eq_some_iff.mp hi).1
    have h4 := h3.1 i (va_pl L (xL M)).length (q, xL M q) (q, e) (by rw [List.getElem?_append_left hil]; exact hi) (by rw [List.getElem?_append_right (Nat.le_refl _), Nat.sub_self]; rfl) rfl
    omega
  have hM : M q = none := by
    cases e1 : M q with
    | none => rfl
    | some z => exact absurd ((h1 q).mpr (by rw [e1]; exact fun h => nomatch h)) hq
  rw [va_pl_push hq] at h2 h3
  have hc : va_pl (L ++ [q]) (va_up (xL M) q e) = va_pl (L ++ [q]) (xL (va_up M q (some e))) := va_pl_congr (fun b => by
    by_cases hb : b = q
    · subst hb; simp [xL, va_up]
    · simp [xL, va_up, hb])
  rw [hc] at h2 h3
  refine ⟨hM, L ++ [q], fun b => ?_, h2, h3⟩
  by_cases hb : b = q
  · subst hb; simp [va_up]
  · simp [va_up, hb, h1 b]
/-- a method's start -/
def xPc (G : xG) (M : HM) (av : List Value) (sz : Nat) : Array Value → State → Prop := va_Pc av (fun U => U.heap.size = sz ∧ xS G (xA M sz) U U.heap ∧ xPW G (fun _ => True) M U.heap)
/-- its end -/
def xQc (G : xG) (M : HM) (sz : Nat) (Q : Option Value → HM → Prop) : Array Value → State → Outcome → State → Prop := fun _ st oc t => (∃ (r : Option Value) (M1 : HM), oc = .returned r ∧ Q r M1 ∧ xPW G (xA M sz) M1 t.heap) ∧ va_F (xA M sz) st t
/-- its end by a throw -/
def xXc (G : xG) (M : HM) (sz : Nat) (QX : String → HM → Prop) : String → State → State → Prop := fun E st t => (∃ M1 : HM, QX E M1 ∧ xPW G (xA M sz) M1 t.heap) ∧ va_F (xA M sz) st t
/-- a contract: from the map M with these arguments the method returns, Q holds of answer and new map -/
def xMet (l : Launch) (G : xG) (y : MethodName) (ws : List Cond) (fr lo mc ms : Nat) (av : List Value) (M : HM) (Q : Option Value → HM → Prop) : Prop :=
  ∀ sz : Nat, Met l y ws { frames := fr, cells := mc, slots := ms, locals := lo } (xPc G M av sz) (xQc G M sz Q) mc ms (xA M sz)
/-- .. or it throws, and QX holds of the class and the new map -/
def xMetX (l : Launch) (G : xG) (y : MethodName) (ws : List Cond) (fr lo mc ms : Nat) (av : List Value) (M : HM) (Q : Option Value → HM → Prop) (QX : String → HM → Prop) : Prop :=
  ∀ sz : Nat, vx_Met l y ws { frames := fr, cells := mc, slots := ms, locals := lo } (xPc G M av sz) (xQc G M sz Q) (xXc G M sz QX) mc ms (xA M sz)
/-- what stays true all through a method's body -/
def xB (p : Program) (s : State) (m : MethodId) (args : Array Value) (meth : Method) (c : Code) (cc : ByteArray) (nL : Nat) (own nm : String) (Ts : List Cond) (ret : Option FieldType) (G : xG) (A : Nat → Prop) : Prop :=
  p.tables.exec = Jvm.exec ∧ c.code = cc ∧ c.maxLocals = nL ∧ s.vm.findClass own = some m.cls ∧ (∀ w ∈ Ts, w.before args s = true) ∧ meth.sig.returnType = ret ∧ meth.locks = false ∧ meth.name = nm ∧ xS G A s s.heap ∧ ∀ q : Nat, s.heap.size ≤ q → A q
/-- what changes: the map, the heap, what was written -/
def xD (G : xG) (A : Nat → Prop) (s : State) (M : HM) (H : Heap) (locs : List Loc) : Prop := xPW G A M H ∧ va_S A s.heap H locs
section XROWS
variable {p : Program} {l : Launch} {e : Env} {R : Room} {s : State} {m : MethodId} {args : Array Value} {below : List Frame} {meth : Method} {c : Code} {H : Heap} {locs : List Loc} {cells slots : Nat} {Q : State → Prop}
variable {cc : ByteArray} {pc nL : Nat} {ls : Array Slot} {st rest : List Value} {G : xG} {A : Nat → Prop} {a : Nat} {M : HM} {own nm : String} {Ts : List Cond} {ret : Option FieldType}
theorem x_blind {av : List Value} {sz : Nat} : FrameBlind (xPc G M av sz) := by
  intro a U g mk h
  obtain ⟨h1, h2, h3, h4⟩ := h
  exact ⟨h1, h2, xS.moved (State.WarmedH.refl U) h3, h4⟩
theorem x_pre (hC : xB p s m args meth c cc nL own nm Ts ret G A) (hw : xD G A s M H locs) (av : List Value) : ∀ U : State, U.heap = H → s.WarmedH U.vm → xPc G M av H.size av.toArray U := by
  intro U hU hW
  obtain ⟨-, -, -, -, -, -, -, -, hS, hA⟩ := hC
  refine ⟨rfl, by rw [hU], ?_, by rw [hU]; exact hw.1.weaken (fun _ _ => trivial)⟩
  rw [hU]
  refine (xS.moved hW (hS.kept (fun a h1 h2 => hw.2.2.1 a h1 h2))).narrow (fun q h => ?_)
  rcases h with h | h
  · exact hw.1.in h
  · exact hA q (Nat.le_trans hw.2.1 h)
theorem x_sub (hC : xB p s m args meth c cc nL own nm Ts ret G A) (hw : xD G A s M H locs) : ∀ q, xA M H.size q → A q := by
  intro q h
  rcases h with h | h
  · exact hw.1.in h
  · exact hC.2.2.2.2.2.2.2.2.2 q (Nat.le_trans hw.2.1 h)
/-- behind a call -/
theorem x_goes {mc ms : Nat} {a0 : Array Value} {Q1 : Option Value → HM → Prop} (hC : xB p s m args meth c cc nL own nm Ts ret G A) (hw : xD G A s M H locs)
    (hr : va_Run p l e R s m args below meth c H locs cells slots mc ms (F0 m pc ls st) rest (xQc G M H.size Q1 a0) (xA M H.size))
    (kk : ∀ (r : Option Value) (M1 : HM) (H1 : Heap) (locs1 : List Loc), Q1 r M1 → xD G A s M1 H1 locs1 → W p l e R s m args below meth c H1 locs1 (cells + mc) (slots + ms) Q (F0 m (pc + 3) ls (r.toList ++ rest))) : W p l e R s m args below meth c H locs cells slots Q (F0 m pc ls st) := by
  have hA := x_sub hC hw
  intro T hT X
  obtain ⟨v, st₀, t, T', L, h0, X', hL, e1, e2, ⟨⟨r, M1, hv, hq, hP⟩, hF⟩, st⟩ := hr T hT X
  cases hv
  obtain ⟨k1, k2, k3⟩ := vx_keep h0 e1 hw.2 (fun q _ h => hA q h) hA hL hF
  obtain ⟨t2, a1, b1⟩ := kk v M1 T'.heap (locs ++ L) hq ⟨by rw [e1]; exact hP.weaken hA, k3⟩ T' rfl X'
  exact ⟨t2, st t2 a1, b1⟩
theorem x_goesX {mc ms : Nat} {a0 : Array Value} {Q1 : Option Value → HM → Prop} {QX : String → HM → Prop} (hC : xB p s m args meth c cc nL own nm Ts ret G A) (hw : xD G A s M H locs)
    (hr : vx_Run p l e R s m args below meth c H locs cells slots mc ms (F0 m pc ls st) rest (xQc G M H.size Q1 a0) (xXc G M H.size QX) (xA M H.size))
    (kx : ∀ (E : String) (ce : Cell) (q9 : Addr) (M1 : HM) (H1 : Heap) (locs1 : List Loc), QX E M1 → xD G A s M1 H1 locs1 → H1[q9]? = some ce → ce.vm = .none → s.vm.findClass E = some ce.cls → vx_W p l e R s m args below meth c H1 locs1 (cells + mc) (slots + ms) Q (F0 m pc ls rest) q9)
    (kk : ∀ (r : Option Value) (M1 : HM) (H1 : Heap) (locs1 : List Loc), Q1 r M1 → xD G A s M1 H1 locs1 → W p l e R s m args below meth c H1 locs1 (cells + mc) (slots + ms) Q (F0 m (pc + 3) ls (r.toList ++ rest))) : W p l e R s m args below meth c H locs cells slots Q (F0 m pc ls st) := by
  have hA := x_sub hC hw
  intro T hT X
  rcases hr T hT X with ⟨v, st₀, t, T', L, h0, X', hL, e1, e2, ⟨⟨r, M1, hv, hq, hP⟩, hF⟩, st⟩ | ⟨q, st₀, t, T', L, E, ce, h0, X', hL, e1, e2, ⟨⟨M1, hq, hP⟩, hF⟩, hce, hcv, hcl, st⟩
  · cases hv
    obtain ⟨k1, k2, k3⟩ := vx_keep h0 e1 hw.2 (fun q _ h => hA q h) hA hL hF
    obtain ⟨t2, a1, b1⟩ := kk v M1 T'.heap (locs ++ L) hq ⟨by rw [e1]; exact hP.weaken hA, k3⟩ T' rfl X'
    exact ⟨t2, st t2 a1, b1⟩
  · obtain ⟨k1, k2, k3⟩ := vx_keep h0 e1 hw.2 (fun q _ h => hA q h) hA hL hF
    obtain ⟨t2, a1, b1⟩ := kx E ce q M1 T'.heap (locs ++ L) hq ⟨by rw [e1]; exact hP.weaken hA, k3⟩ (by rw [e1]; exact hce) hcv hcl T' rfl X'
    exact ⟨t2, st.trans a1, b1⟩
theorem x_recv (hC : xB p s m args meth c cc nL own nm Ts ret G A) (hw : xD G A s M H locs) {b ci : Nat} {fs : List Value} {q : vw_C} (hb : M b = some (.inr (ci, fs))) (hc : vwCl[ci]? = some q) : ∃ cell : Cell, H[b]? = some cell ∧ cell.vm.isStatics = false ∧ s.vm.findClass q.1 = some cell.cls := by
  obtain ⟨L, k, -, hP, -, -, hk, -⟩ := hw.1.get hb
  exact va_recv (hC.2.2.2.2.2.2.2.2.1).1 hP hc hk
variable {y : MethodName} {wy wy' : List Cond} {bytes : ByteArray} {maxL : Nat} {ry : Option FieldType} {fr lo mc ms idx : Nat} {C : String} {As : List Value} {b ci : Nat} {fs : List Value} {T : u_T} {N : Nat} {Q1 : Option Value → HM → Prop} {QX : String → HM → Prop}
/-- an instance method -/
theorem x_callV (hC : xB p s m args meth c cc nL own nm Ts ret G A) (hw : xD G A s M H locs) (hls : ls.size = nL) (hM : xMet l G y wy fr lo mc ms (.ref b :: As) M Q1)
    (hg : GoodIn Ts (wsV own idx C y wy)) (hwy : wy = Cond.code y bytes maxL ry :: wy') (hd : y.cls = C ∧ y.cls ≠ "java/lang/invoke/MethodHandle" ∧ y.cls ≠ "java/lang/invoke/VarHandle" ∧ (parseMethodDescriptor y.desc).map (fun d => d.parameters.length) = some As.length)
    (hb : M b = some (.inr (ci, fs))) (hc : vwCl[ci]? = some (C, T, N)) (hst : st = As.reverse ++ .ref b :: rest) (hrest : (rest.map fun v => v.category).sum ≤ 8)
    (hfr : fr + 1 ≤ R.frames) (hlo : 8 + (maxL + 11) + lo ≤ R.locals) (hcl : cells + mc ≤ R.cells) (hsl : slots + ms ≤ R.slots) (hdg : decode cc pc = .ok (.invokevirtual idx, 3))
    (kk : ∀ (r : Option Value) (M1 : HM) (H1 : Heap) (locs1 : List Loc), Q1 r M1 → xD G A s M1 H1 locs1 → W p l e R s m args below meth c H1 locs1 (cells + mc) (slots + ms) Q (F0 m (pc + 3) ls (r.toList ++ rest))) : W p l e R s m args below meth c H locs cells slots Q (F0 m pc ls st) :=
  x_goes hC hw (va_runV (As := As) (rest := rest) ⟨hC.1, hC.2.1, hC.2.2.1, hC.2.2.2.1, hC.2.2.2.2.1⟩ (hM H.size) (cwV As.length hC.2.2.2.2.1 hg hwy rfl rfl hd ⟨hfr, hlo⟩) ⟨x_blind, x_recv hC hw hb hc, x_pre hC hw (.ref b :: As)⟩ rfl rfl hls hst (lv_room hrest) hdg ⟨hcl, hsl⟩) kk
theorem x_callVX (hC : xB p s m args meth c cc nL own nm Ts ret G A) (hw : xD G A s M H locs) (hls : ls.size = nL) (hM : xMetX l G y wy fr lo mc ms (.ref b :: As) M Q1 QX)
    (hg : GoodIn Ts (wsV own idx C y wy)) (hwy : wy = Cond.code y bytes maxL ry :: wy') (hd : y.cls = C ∧ y.cls ≠ "java/lang/invoke/MethodHandle" ∧ y.cls ≠ "java/lang/invoke/VarHandle" ∧ (parseMethodDescriptor y.desc).map (fun d => d.parameters.length) = some As.length)
    (hb : M b = some (.inr (ci, fs))) (hc : vwCl[ci]? = some (C, T, N)) (hst : st = As.reverse ++ .ref b :: rest) (hrest : (rest.map fun v => v.category).sum ≤ 8)
    (hfr : fr + 1 ≤ R.frames) (hlo : 8 + (maxL + 11) + lo ≤ R.locals) (hcl : cells + mc ≤ R.cells) (hsl : slots + ms ≤ R.slots) (hdg : decode cc pc = .ok (.invokevirtual idx, 3))
    (kx : ∀ (E : String) (ce : Cell) (q9 : Addr) (M1 : HM) (H1 : Heap) (locs1 : List Loc), QX E M1 → xD G A s M1 H1 locs1 → H1[q9]? = some ce → ce.vm = .none → s.vm.findClass E = some ce.cls → vx_W p l e R s m args below meth c H1 locs1 (cells + mc) (slots + ms) Q (F0 m pc ls rest) q9)
    (kk : ∀ (r : Option Value) (M1 : HM) (H1 : Heap) (locs1 : List Loc), Q1 r M1 → xD G A s M1 H1 locs1 → W p l e R s m args below meth c H1 locs1 (cells + mc) (slots + ms) Q (F0 m (pc + 3) ls (r.toList ++ rest))) : W p l e R s m args below meth c H locs cells slots Q (F0 m pc ls st) :=
  x_goesX hC hw (vx_runV (As := As) (rest := rest) ⟨hC.1, hC.2.1, hC.2.2.1, hC.2.2.2.1, hC.2.2.2.2.1⟩ (hM H.size) (cwV As.length hC.2.2.2.2.1 hg hwy rfl rfl hd ⟨hfr, hlo⟩) ⟨x_blind, x_recv hC hw hb hc, x_pre hC hw (.ref b :: As)⟩ rfl rfl hls hst (lv_room hrest) hdg ⟨hcl, hsl⟩) kx kk
/-- a static method -/
theorem x_callS (hC : xB p s m args meth c cc nL own nm Ts ret G A) (hw : xD G A s M H locs) (hls : ls.size = nL) (hM : xMet l G y wy fr lo mc ms As M Q1)
    (hg : GoodIn Ts (va_wsS own idx y wy)) (hwy : wy = Cond.code y bytes maxL ry :: wy') (hd : y.cls ≠ "java/lang/invoke/MethodHandle" ∧ y.cls ≠ "java/lang/invoke/VarHandle" ∧ (parseMethodDescriptor y.desc).map (fun d => d.parameters.length) = some As.length)
    (hst : st = As.reverse ++ rest) (hrest : (rest.map fun v => v.category).sum ≤ 8)
    (hfr : fr + 1 ≤ R.frames) (hlo : 8 + (maxL + 11) + lo ≤ R.locals) (hcl : cells + mc ≤ R.cells) (hsl : slots + ms ≤ R.slots) (hdg : decode cc pc = .ok (.invokestatic idx, 3))
    (kk : ∀ (r : Option Value) (M1 : HM) (H1 : Heap) (locs1 : List Loc), Q1 r M1 → xD G A s M1 H1 locs1 → W p l e R s m args below meth c H1 locs1 (cells + mc) (slots + ms) Q (F0 m (pc + 3) ls (r.toList ++ rest))) : W p l e R s m args below meth c H locs cells slots Q (F0 m pc ls st) :=
  x_goes hC hw (va_runS (As := As) (rest := rest) ⟨hC.1, hC.2.1, hC.2.2.1, hC.2.2.2.1, hC.2.2.2.2.1⟩ (hM H.size) (va_cwS As.length hC.2.2.2.2.1 hg hwy rfl rfl hd ⟨hfr, hlo⟩) ⟨x_blind, x_pre hC hw As⟩ rfl rfl hls hst (lv_room hrest) hdg ⟨hcl, hsl⟩) kk
theorem x_callSX (hC : xB p s m args meth c cc nL own nm Ts ret G A) (hw : xD G A s M H locs) (hls : ls.size = nL) (hM : xMetX l G y wy fr lo mc ms As M Q1 QX)
    (hg : GoodIn Ts (va_wsS own idx y wy)) (hwy : wy = Cond.code y bytes maxL ry :: wy') (hd : y.cls ≠ "java/lang/invoke/MethodHandle" ∧ y.cls ≠ "java/lang/invoke/VarHandle" ∧ (parseMethodDescriptor y.desc).map (fun d => d.parameters.length) = some As.length)
    (hst : st = As.reverse ++ rest) (hrest : (rest.map fun v => v.category).sum ≤ 8)
    (hfr : fr + 1 ≤ R.frames) (hlo : 8 + (maxL + 11) + lo ≤ R.locals) (hcl : cells + mc ≤ R.cells) (hsl : slots + ms ≤ R.slots) (hdg : decode cc pc = .ok (.invokestatic idx, 3))
    (kx : ∀ (E : String) (ce : Cell) (q9 : Addr) (M1 : HM) (H1 : Heap) (locs1 : List Loc), QX E M1 → xD G A s M1 H1 locs1 → H1[q9]? = some ce → ce.vm = .none → s.vm.findClass E = some ce.cls → vx_W p l e R s m args below meth c H1 locs1 (cells + mc) (slots + ms) Q (F0 m pc ls rest) q9)
    (kk : ∀ (r : Option Value) (M1 : HM) (H1 : Heap) (locs1 : List Loc), Q1 r M1 → xD G A s M1 H1 locs1 → W p l e R s m args below meth c H1 locs1 (cells + mc) (slots + ms) Q (F0 m (pc + 3) ls (r.toList ++ rest))) : W p l e R s m args below meth c H locs cells slots Q (F0 m pc ls st) :=
  x_goesX hC hw (vx_runS (As := As) (rest := rest) ⟨hC.1, hC.2.1, hC.2.2.1, hC.2.2.2.1, hC.2.2.2.2.1⟩ (hM H.size) (va_cwS As.length hC.2.2.2.2.1 hg hwy rfl rfl hd ⟨hfr, hlo⟩) ⟨x_blind, x_pre hC hw As⟩ rfl rfl hls hst (lv_room hrest) hdg ⟨hcl, hsl⟩) kx kk
/-- a constructor -/
theorem x_callI (hC : xB p s m args meth c cc nL own nm Ts ret G A) (hw : xD G A s M H locs) (hls : ls.size = nL) (hM : xMet l G y wy fr lo mc ms (.ref b :: As) M Q1)
    (hg : GoodIn Ts wy) (hwy : wy = Cond.code y bytes maxL none :: wy') (h1 : Cond.initialized y.cls ∈ Ts) (h2 : Cond.methodLink own idx y ∈ Ts) (h3 : Cond.instanceMethod y ∈ Ts) (hy1 : y.name = "<init>") (hd : y.cls ≠ "java/lang/invoke/MethodHandle" ∧ y.cls ≠ "java/lang/invoke/VarHandle" ∧ (parseMethodDescriptor y.desc).map (fun d => d.parameters.length) = some As.length)
    (hst : st = As.reverse ++ .ref b :: rest) (hrest : (rest.map fun v => v.category).sum ≤ 8)
    (hfr : fr + 1 ≤ R.frames) (hlo : 8 + (maxL + 11) + lo ≤ R.locals) (hcl : cells + mc ≤ R.cells) (hsl : slots + ms ≤ R.slots) (hdg : decode cc pc = .ok (.invokespecial idx, 3))
    (kk : ∀ (r : Option Value) (M1 : HM) (H1 : Heap) (locs1 : List Loc), Q1 r M1 → xD G A s M1 H1 locs1 → W p l e R s m args below meth c H1 locs1 (cells + mc) (slots + ms) Q (F0 m (pc + 3) ls (r.toList ++ rest))) : W p l e R s m args below meth c H locs cells slots Q (F0 m pc ls st) :=
  x_goes hC hw (va_runI (As := As) (rest := rest) ⟨hC.1, hC.2.1, hC.2.2.1, hC.2.2.2.1, hC.2.2.2.2.1⟩ (hM H.size) (cwI As.length hC.2.2.2.2.1 hg hwy rfl rfl (hC.2.2.2.2.1 _ h1) (hC.2.2.2.2.1 _ h2) (hC.2.2.2.2.1 _ h3) hy1 hd ⟨hfr, hlo⟩) ⟨x_blind, x_pre hC hw (.ref b :: As)⟩ rfl rfl hls hst (lv_room hrest) hdg ⟨hcl, hsl⟩) kk
end XROWS
end XLIB
