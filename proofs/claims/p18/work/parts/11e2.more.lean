/-! truth values by 'or'; the ledger's row -/
section
variable {p : Program} {l : Launch} {e : Env} {R : Room} {s : State} {m : MethodId} {args : Array Value} {below : List Frame} {meth : Method} {c : Code} {H : Heap} {locs : List Loc} {cells slots : Nat} {Q : State → Prop}
variable {cc : ByteArray} {pc nL : Nat} {ls : Array Slot} {rest : List Value} {G : xG} {A : Nat → Prop} {own nm : String} {Ts : List Cond} {ret : Option FieldType}
theorem x_iorB (hC : xB p s m args meth c cc nL own nm Ts ret G A) {x y : Int} (hx : x = 0 ∨ x = 1) (hy : y = 0 ∨ y = 1) (hdg : decode cc pc = .ok (.ior, 1)) (kk : ∀ z : Int, (z = 0 ∨ z = 1) ∧ (z = 0 ↔ x = 0 ∧ y = 0) → W p l e R s m args below meth c H locs cells slots Q (F0 m (pc + 1) ls (.int (iN z) :: rest))) : W p l e R s m args below meth c H locs cells slots Q (F0 m pc ls (.int (iN y) :: .int (iN x) :: rest)) := by
  refine lv_ior hC.1 hC.2.1 hdg ?_
  rcases hx with rfl | rfl
  · rcases hy with rfl | rfl
    · rw [show iN 0 ||| iN 0 = iN 0 by decide]; exact kk 0 (by omega)
    · rw [show iN 0 ||| iN 1 = iN 1 by decide]; exact kk 1 (by omega)
  · rcases hy with rfl | rfl
    · rw [show iN 1 ||| iN 0 = iN 1 by decide]; exact kk 1 (by omega)
    · rw [show iN 1 ||| iN 1 = iN 1 by decide]; exact kk 1 (by omega)
end
theorem led_sel {a0 a1 a2 a3 a4 a5 a6 z p0 : Int} (hp : 0 ≤ p0 ∧ p0 ≤ 6) (h0 : -2147483648 ≤ a0 ∧ a0 ≤ 2147483647) (h1 : -2147483648 ≤ a1 ∧ a1 ≤ 2147483647) (h2 : -2147483648 ≤ a2 ∧ a2 ≤ 2147483647) (h3 : -2147483648 ≤ a3 ∧ a3 ≤ 2147483647) (h4 : -2147483648 ≤ a4 ∧ a4 ≤ 2147483647) (h5 : -2147483648 ≤ a5 ∧ a5 ≤ 2147483647) (h6 : -2147483648 ≤ a6 ∧ a6 ≤ 2147483647)
    (hz : z = ((upd (upd (upd (upd (upd (upd (upd (fun _ => 0) (0 : Int).toNat (iN a0)) (1 : Int).toNat (iN a1)) (2 : Int).toNat (iN a2)) (3 : Int).toNat (iN a3)) (4 : Int).toNat (iN a4)) (5 : Int).toNat (iN a5)) (6 : Int).toNat (iN a6)) p0.toNat).toInt) :
    (p0 = 0 ∧ z = a0) ∨ (p0 = 1 ∧ z = a1) ∨ (p0 = 2 ∧ z = a2) ∨ (p0 = 3 ∧ z = a3) ∨ (p0 = 4 ∧ z = a4) ∨ (p0 = 5 ∧ z = a5) ∨ (p0 = 6 ∧ z = a6) := by
  rcases (show p0 = 0 ∨ p0 = 1 ∨ p0 = 2 ∨ p0 = 3 ∨ p0 = 4 ∨ p0 = 5 ∨ p0 = 6 by omega) with rfl | rfl | rfl | rfl | rfl | rfl | rfl
  · have e8 : z = (iN a0).toInt := hz
    rw [iN_toInt h0] at e8; exact Or.inl ⟨rfl, e8⟩
  · have e8 : z = (iN a1).toInt := hz
    rw [iN_toInt h1] at e8; exact Or.inr (Or.inl ⟨rfl, e8⟩)
  · have e8 : z = (iN a2).toInt := hz
    rw [iN_toInt h2] at e8; exact Or.inr (Or.inr (Or.inl ⟨rfl, e8⟩))
  · have e8 : z = (iN a3).toInt := hz
    rw [iN_toInt h3] at e8; exact Or.inr (Or.inr (Or.inr (Or.inl ⟨rfl, e8⟩)))
  · have e8 : z = (iN a4).toInt := hz
    rw [iN_toInt h4] at e8; exact Or.inr (Or.inr (Or.inr (Or.inr (Or.inl ⟨rfl, e8⟩))))
  · have e8 : z = (iN a5).toInt := hz
    rw [iN_toInt h5] at e8; exact Or.inr (Or.inr (Or.inr (Or.inr (Or.inr (Or.inl ⟨rfl, e8⟩)))))
  · have e8 : z = (iN a6).toInt := hz
    rw [iN_toInt h6] at e8; exact Or.inr (Or.inr (Or.inr (Or.inr (Or.inr (Or.inr ⟨rfl, e8⟩)))))
