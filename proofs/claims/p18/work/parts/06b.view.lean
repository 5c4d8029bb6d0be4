/-! the pure part: places of a view -/
section FPLACE
variable {o n : Nat} {V : Nat → Int} {fk fv : Nat → Int32} {sz : Int}
theorem sw_le_ew (o : Nat) (t : VT) : swN o t.lo t.li ≤ ewN o t.lo t.li t.up t.ui := by
  simp only [ewN]; split <;> omega
theorem pl_mono {w1 w2 a b : Int} (h : plW o sz.toNat fk w1 a.toNat) (g : plW o sz.toNat fk w2 b.toNat) (hw : w1 ≤ w2) : a.toNat ≤ b.toNat := by
  by_cases e : a.toNat ≤ b.toNat
  · exact e
  · have h1 := h.1; have h2 := h.2 b.toNat (by omega); have g2 := g.2 b.toNat (by omega)
    omega
/-- each weight has a place -/
theorem plW_ex (hV : BV o V sz.toNat fk fv) (hs : 0 ≤ sz) (w : Int) : ∃ z : Int, 0 ≤ z ∧ plW o sz.toNat fk w z.toNat := by
  have g : ∀ m : Nat, m ≤ sz.toNat → ∃ z : Nat, z ≤ m ∧ ∀ q, q < m → ((cwN o (kN fk q) : Int) < w ↔ q < z) := fun m => by
    induction m with
    | zero => intro _; exact ⟨0, Nat.le_refl 0, fun q hq => absurd hq (Nat.not_lt_zero q)⟩
    | succ m ih =>
      intro hm
      obtain ⟨z, h1, h2⟩ := ih (by omega)
      by_cases e : (cwN o (kN fk m) : Int) < w
      · refine ⟨m + 1, Nat.le_refl _, fun q hq => ⟨fun _ => hq, fun _ => ?_⟩⟩
        by_cases e2 : q = m
        · subst e2; exact e
        · have := hV.so (p := q) (q := m) (by omega) (by omega)
          omega
      · refine ⟨z, by omega, fun q hq => ?_⟩
        by_cases e2 : q = m
        · subst e2; constructor <;> intro _ <;> omega
        · exact h2 q (by omega)
  obtain ⟨z, h1, h2⟩ := g sz.toNat (Nat.le_refl _)
  exact ⟨z, by omega, by rw [Int.toNat_natCast]; exact ⟨h1, h2⟩⟩
end FPLACE
