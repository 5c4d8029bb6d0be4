/-! the pure part: a view's tuple, which keys are within, the first free number -/
section FVIEW
/-- a view: its book, its bounds, whether they are in -/
abbrev VT : Type := Nat × Int × Int × Int × Int
abbrev VT.b (t : VT) : Nat := t.1
abbrev VT.lo (t : VT) : Int := t.2.1
abbrev VT.up (t : VT) : Int := t.2.2.1
abbrev VT.li (t : VT) : Int := t.2.2.2.1
abbrev VT.ui (t : VT) : Int := t.2.2.2.2
def VT.ok (t : VT) : Prop := t.b < 3 ∧ (t.lo = -10000 ∨ (0 ≤ t.lo ∧ t.lo ≤ 99)) ∧ (t.up = -10000 ∨ (0 ≤ t.up ∧ t.up ≤ 99)) ∧ (t.li = 0 ∨ t.li = 1) ∧ (t.ui = 0 ∨ t.ui = 1)
/-- the class's weights of a view -/
def swN (o : Nat) (lo li : Int) : Int := if lo = -10000 then 0 else cwN o lo.toNat + 1 - li
def ewN (o : Nat) (lo li up ui : Int) : Int := if swN o lo li ≤ (if up = -10000 then 1024 else cwN o up.toNat + ui) then (if up = -10000 then 1024 else cwN o up.toNat + ui) else swN o lo li
/-- within, as the class says it and as the reference does -/
def inC (o : Nat) (t : VT) (k : Nat) : Prop := swN o t.lo t.li ≤ cwN o k ∧ (cwN o k : Int) < ewN o t.lo t.li t.up t.ui
def inM (o : Nat) (t : VT) (k : Nat) : Prop := (t.lo = -10000 ∨ (mwN o t.lo.toNat : Int) + 1 - t.li ≤ mwN o k) ∧ (t.up = -10000 ∨ (mwN o k : Int) ≤ mwN o t.up.toNat - 1 + t.ui)
theorem cw_lt {o a : Nat} (ho : o < 3) (ha : a < 100) : cwN o a < 1024 := (cw_lt0 o ho a ha).1
theorem mw_le {o a : Nat} (ho : o < 3) (ha : a < 100) : mwN o a ≤ 999 := (cw_lt0 o ho a ha).2
theorem swN_rng {o : Nat} (ho : o < 3) {t : VT} (h : t.ok) : 0 ≤ swN o t.lo t.li ∧ swN o t.lo t.li ≤ 1024 := by
  obtain ⟨h1, h2, h3, h4, h5⟩ := h
  simp only [swN]
  split
  · omega
  · have := cw_lt ho (a := t.lo.toNat) (by omega)
    omega
theorem ewN_rng {o : Nat} (ho : o < 3) {t : VT} (h : t.ok) : 0 ≤ ewN o t.lo t.li t.up t.ui ∧ ewN o t.lo t.li t.up t.ui ≤ 1024 := by
  have hs := swN_rng ho h
  obtain ⟨h1, h2, h3, h4, h5⟩ := h
  simp only [ewN]
  by_cases e : t.up = -10000
  · simp only [if_pos e]; split <;> omega
  · simp only [if_neg e]
    have := cw_lt ho (a := t.up.toNat) (by omega)
    split <;> omega
theorem in_eq {o k : Nat} (ho : o < 3) {t : VT} (h : t.ok) (hk : k < 100) : inC o t k ↔ inM o t k := by
  obtain ⟨h1, h2, h3, h4, h5⟩ := h
  have hc := cw_lt ho hk
  have lo : swN o t.lo t.li ≤ cwN o k ↔ (t.lo = -10000 ∨ (mwN o t.lo.toNat : Int) + 1 - t.li ≤ mwN o k) := by
    simp only [swN]
    by_cases e : t.lo = -10000
    · rw [if_pos e]; omega
    · rw [if_neg e]
      have a1 := cw_mw ho (a := t.lo.toNat) (by omega) hk
      have a2 := cw_mw ho hk (b := t.lo.toNat) (by omega)
      omega
  have up : ((cwN o k : Int) < (if t.up = -10000 then 1024 else cwN o t.up.toNat + t.ui)) ↔ (t.up = -10000 ∨ (mwN o k : Int) ≤ mwN o t.up.toNat - 1 + t.ui) := by
    by_cases e : t.up = -10000
    · rw [if_pos e]; omega
    · rw [if_neg e]
      have a1 := cw_mw ho (a := t.up.toNat) (by omega) hk
      have a2 := cw_mw ho hk (b := t.up.toNat) (by omega)
      omega
  simp only [inC, inM, ewN]
  rw [← lo, ← up]
  generalize (if t.up = -10000 then (1024 : Int) else cwN o t.up.toNat + t.ui) = e9
  constructor
  · rintro ⟨q1, q2⟩
    refine ⟨q1, ?_⟩
    by_cases e : swN o t.lo t.li ≤ e9
    · rw [if_pos e] at q2; exact q2
    · rw [if_neg e] at q2; omega
  · rintro ⟨q1, q2⟩
    refine ⟨q1, ?_⟩
    rw [if_pos (by omega)]; exact q2
/-- the first free number, 4 if there is none -/
abbrev VW := Nat → Option VT
def frN (W : VW) : Nat := if W 0 = none then 0 else if W 1 = none then 1 else if W 2 = none then 2 else if W 3 = none then 3 else 4
theorem frN_at {W : VW} {j : Nat} (hj : j < 4) (h1 : W j = none) (h2 : ∀ i, i < j → W i ≠ none) : frN W = j := by
  rcases (show j = 0 ∨ j = 1 ∨ j = 2 ∨ j = 3 by omega) with rfl | rfl | rfl | rfl
  · simp only [frN]; rw [if_pos h1]
  · simp only [frN]; rw [if_neg (h2 0 (by omega)), if_pos h1]
  · simp only [frN]; rw [if_neg (h2 0 (by omega)), if_neg (h2 1 (by omega)), if_pos h1]
  · simp only [frN]; rw [if_neg (h2 0 (by omega)), if_neg (h2 1 (by omega)), if_neg (h2 2 (by omega)), if_pos h1]
theorem frN_no {W : VW} (h2 : ∀ i, i < 4 → W i ≠ none) : frN W = 4 := by
  simp only [frN]; rw [if_neg (h2 0 (by omega)), if_neg (h2 1 (by omega)), if_neg (h2 2 (by omega)), if_neg (h2 3 (by omega))]
def upW (W : VW) (j : Nat) (x : Option VT) : VW := fun i => if i = j then x else W i
theorem upW_s (W : VW) (j : Nat) (x : Option VT) : upW W j x j = x := if_pos rfl
theorem upW_n (W : VW) {i j : Nat} (x : Option VT) (h : i ≠ j) : upW W j x i = W i := if_neg h
/-- copy() shuts the views onto a book -/
def shW (W : VW) (b : Nat) : VW := fun i => match W i with
  | none => none
  | some t => if t.b = b then none else some t
def upO (O : Nat → Nat) (j o : Nat) : Nat → Nat := fun i => if i = j then o else O i
theorem upO_s (O : Nat → Nat) (j o : Nat) : upO O j o j = o := if_pos rfl
theorem upO_n (O : Nat → Nat) {i j : Nat} (o : Nat) (h : i ≠ j) : upO O j o i = O i := if_neg h
set_option maxRecDepth 100000 in
/-- the shift in the class's third order -/
theorem shl_k : ∀ k, k < 100 → ∀ s, s < 4 → iN (k : Nat) <<< (iN ((2 * s : Nat) : Int) &&& 31) = iN ((k * 4 ^ s : Nat) : Int) := by decide +kernel
theorem shl_eq {p z y : Int} (hp : 0 ≤ p ∧ p ≤ 99) (hz : iN z = iN p <<< (iN y &&& 31)) (hr : -2147483648 ≤ z ∧ z ≤ 2147483647) (hy : y = 0 ∨ y = 2 ∨ y = 4 ∨ y = 6) : (y = 0 → z = p) ∧ (y = 2 → z = p * 4) ∧ (y = 4 → z = p * 16) ∧ (y = 6 → z = p * 64) := by
  obtain ⟨k, rfl⟩ : ∃ k : Nat, p = k := ⟨p.toNat, by omega⟩
  have e0 := shl_k k (by omega) 0 (by omega)
  have e1 := shl_k k (by omega) 1 (by omega)
  have e2 := shl_k k (by omega) 2 (by omega)
  have e3 := shl_k k (by omega) 3 (by omega)
  rcases hy with rfl | rfl | rfl | rfl
  · have e := (iN_eq hr (show rI ((k * 4 ^ 0 : Nat) : Int) from ⟨by omega, by omega⟩)).mp (hz.trans e0)
    omega
  · have e := (iN_eq hr (show rI ((k * 4 ^ 1 : Nat) : Int) from ⟨by omega, by omega⟩)).mp (hz.trans e1)
    omega
  · have e := (iN_eq hr (show rI ((k * 4 ^ 2 : Nat) : Int) from ⟨by omega, by omega⟩)).mp (hz.trans e2)
    omega
  · have e := (iN_eq hr (show rI ((k * 4 ^ 3 : Nat) : Int) from ⟨by omega, by omega⟩)).mp (hz.trans e3)
    omega
end FVIEW
