/-! the steps of the abstract state: orders O, views W -/
section FSTEP
/-- whether something is there -/
def opN (x : Option VT) : Nat := match x with
  | none => 0
  | some _ => 1
theorem opN_some {x : Option VT} {t : VT} (h : x = some t) : opN x = 1 := by rw [h]; rfl
theorem opN_none {x : Option VT} (h : x = none) : opN x = 0 := by rw [h]; rfl
theorem opN_ex {x : Option VT} (h : opN x = 1) : ∃ t, x = some t := by
  rcases x with _ | t
  · cases h
  · exact ⟨t, rfl⟩
/-- the first n numbers: views onto the book b are shut -/
def shN (W : VW) (b n : Nat) : VW := fun i => if i < n then (match W i with
  | none => none
  | some t => if t.b = b then none else some t) else W i
theorem shN_0 (W : VW) (b : Nat) : W = shN W b 0 := by
  funext i; simp only [shN]; rw [if_neg (Nat.not_lt_zero i)]
theorem shN_at {W W1 : VW} {b j : Nat} (h : W1 = shN W b j) : W1 j = W j := by
  rw [h]; simp only [shN]; rw [if_neg (Nat.lt_irrefl j)]
theorem shN_nil {W W1 : VW} {b j : Nat} (h : W1 = shN W b j) (hn : W1 j = none) : W1 = shN W b (j + 1) := by
  rw [shN_at h] at hn
  rw [h]
  funext i
  simp only [shN]
  by_cases e : i < j
  · rw [if_pos e, if_pos (by omega)]
  · rw [if_neg e]
    by_cases e2 : i = j
    · subst e2; rw [if_pos (by omega), hn]
    · rw [if_neg (by omega)]
theorem shN_keep {W W1 : VW} {b j : Nat} {t : VT} (h : W1 = shN W b j) (hn : W1 j = some t) (hb : t.b ≠ b) : W1 = shN W b (j + 1) := by
  rw [shN_at h] at hn
  rw [h]
  funext i
  simp only [shN]
  by_cases e : i < j
  · rw [if_pos e, if_pos (by omega)]
  · rw [if_neg e]
    by_cases e2 : i = j
    · subst e2; rw [if_pos (by omega), hn]; simp only; rw [if_neg hb]
    · rw [if_neg (by omega)]
theorem shN_drop {W W1 : VW} {b j : Nat} {t : VT} (h : W1 = shN W b j) (hn : W1 j = some t) (hb : t.b = b) : upW W1 j none = shN W b (j + 1) := by
  rw [shN_at h] at hn
  rw [h]
  funext i
  by_cases e2 : i = j
  · subst e2; rw [upW_s]; simp only [shN]; rw [if_pos (by omega), hn]; simp only; rw [if_pos hb]
  · rw [upW_n _ _ e2]
    simp only [shN]
    by_cases e : i < j
    · rw [if_pos e, if_pos (by omega)]
    · rw [if_neg e, if_neg (by omega)]
theorem shN_ne {W : VW} {b n j : Nat} {t : VT} (hj : j < n) (h : shN W b n j = some t) : t.b ≠ b := by
  simp only [shN] at h
  rw [if_pos hj] at h
  cases e : W j with
  | none => rw [e] at h; cases h
  | some u =>
    rw [e] at h
    simp only at h
    by_cases q : u.b = b
    · rw [if_pos q] at h; cases h
    · rw [if_neg q] at h; cases h; exact q
abbrev OW := Nat → Nat
def st_head (O : OW) (W : VW) (p0 p1 p2 z : Int) (O1 : OW) (W1 : VW) : Prop := O1 = O ∧ z = frN W ∧ W1 = upW W (frN W) (some (p0.toNat, -10000, p1, 0, p2))
def st_tail (O : OW) (W : VW) (p0 p1 p2 z : Int) (O1 : OW) (W1 : VW) : Prop := O1 = O ∧ z = frN W ∧ W1 = upW W (frN W) (some (p0.toNat, p1, -10000, p2, 0))
def st_sub (O : OW) (W : VW) (p0 p1 p2 p3 p4 z : Int) (O1 : OW) (W1 : VW) : Prop := O1 = O ∧ ((mwN (O p0.toNat) p3.toNat < mwN (O p0.toNat) p1.toNat ∧ z = -20000 ∧ W1 = W) ∨ (¬ mwN (O p0.toNat) p3.toNat < mwN (O p0.toNat) p1.toNat ∧ z = frN W ∧ W1 = upW W (frN W) (some (p0.toNat, p1, p3, p2, p4))))
/-- whether a part may be opened -/
def paOk (O : OW) (t : VT) (p1 p3 : Int) : Prop := (inM (O t.b) t p1.toNat ∧ inM (O t.b) t p3.toNat) ∧ ¬ mwN (O t.b) p3.toNat < mwN (O t.b) p1.toNat
def st_part (O : OW) (W : VW) (p0 p1 p2 p3 p4 z : Int) (O1 : OW) (W1 : VW) : Prop := O1 = O ∧ ∃ t, W p0.toNat = some t ∧ ((¬ paOk O t p1 p3 ∧ z = -20000 ∧ W1 = W) ∨ (paOk O t p1 p3 ∧ z = frN W ∧ W1 = upW W (frN W) (some (t.b, p1, p3, p2, p4))))
def st_shut (O : OW) (W : VW) (p0 : Int) (O1 : OW) (W1 : VW) : Prop := O1 = O ∧ W1 = upW W p0.toNat none
def st_copy (O : OW) (W : VW) (p0 p1 : Int) (O1 : OW) (W1 : VW) : Prop := O1 = upO O p1.toNat (O p0.toNat) ∧ W1 = shN W p1.toNat 4
theorem det_head {O : OW} {W : VW} {p0 p1 p2 z z2 : Int} {O1 O2 : OW} {W1 W2 : VW} (h : st_head O W p0 p1 p2 z O1 W1) (g : st_head O W p0 p1 p2 z2 O2 W2) : O2 = O1 ∧ W2 = W1 ∧ z = z2 := by
  obtain ⟨h1, h2, h3⟩ := h; obtain ⟨g1, g2, g3⟩ := g
  exact ⟨by rw [h1, g1], by rw [h3, g3], by rw [h2, g2]⟩
theorem det_tail {O : OW} {W : VW} {p0 p1 p2 z z2 : Int} {O1 O2 : OW} {W1 W2 : VW} (h : st_tail O W p0 p1 p2 z O1 W1) (g : st_tail O W p0 p1 p2 z2 O2 W2) : O2 = O1 ∧ W2 = W1 ∧ z = z2 := by
  obtain ⟨h1, h2, h3⟩ := h; obtain ⟨g1, g2, g3⟩ := g
  exact ⟨by rw [h1, g1], by rw [h3, g3], by rw [h2, g2]⟩
theorem det_sub {O : OW} {W : VW} {p0 p1 p2 p3 p4 z z2 : Int} {O1 O2 : OW} {W1 W2 : VW} (h : st_sub O W p0 p1 p2 p3 p4 z O1 W1) (g : st_sub O W p0 p1 p2 p3 p4 z2 O2 W2) : O2 = O1 ∧ W2 = W1 ∧ z = z2 := by
  obtain ⟨h1, ⟨ha, h2, h3⟩ | ⟨ha, h2, h3⟩⟩ := h <;> obtain ⟨g1, ⟨ga, g2, g3⟩ | ⟨ga, g2, g3⟩⟩ := g
  · exact ⟨by rw [h1, g1], by rw [h3, g3], by rw [h2, g2]⟩
  · exact absurd ha ga
  · exact absurd ga ha
  · exact ⟨by rw [h1, g1], by rw [h3, g3], by rw [h2, g2]⟩
theorem det_part {O : OW} {W : VW} {p0 p1 p2 p3 p4 z z2 : Int} {O1 O2 : OW} {W1 W2 : VW} (h : st_part O W p0 p1 p2 p3 p4 z O1 W1) (g : st_part O W p0 p1 p2 p3 p4 z2 O2 W2) : O2 = O1 ∧ W2 = W1 ∧ z = z2 := by
  obtain ⟨h1, t, ht, hh⟩ := h
  obtain ⟨g1, u, hu, gg⟩ := g
  have e : t = u := by rw [ht] at hu; cases hu; rfl
  subst e
  rcases hh with ⟨ha, h2, h3⟩ | ⟨ha, h2, h3⟩ <;> rcases gg with ⟨ga, g2, g3⟩ | ⟨ga, g2, g3⟩
  · exact ⟨by rw [h1, g1], by rw [h3, g3], by rw [h2, g2]⟩
  · exact absurd ga ha
  · exact absurd ha ga
  · exact ⟨by rw [h1, g1], by rw [h3, g3], by rw [h2, g2]⟩
theorem det_shut {O : OW} {W : VW} {p0 : Int} {O1 O2 : OW} {W1 W2 : VW} (h : st_shut O W p0 O1 W1) (g : st_shut O W p0 O2 W2) : O2 = O1 ∧ W2 = W1 := ⟨by rw [h.1, g.1], by rw [h.2, g.2]⟩
theorem det_copy {O : OW} {W : VW} {p0 p1 : Int} {O1 O2 : OW} {W1 W2 : VW} (h : st_copy O W p0 p1 O1 W1) (g : st_copy O W p0 p1 O2 W2) : O2 = O1 ∧ W2 = W1 := ⟨by rw [h.1, g.1], by rw [h.2, g.2]⟩
end FSTEP
