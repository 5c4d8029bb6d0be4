/-! the law's rows -/
/-- the state at the law's loop: the class's object beside Out beside the model's -/
def LwS (G : xG) (M : HM) (h0 a o : Nat) (rf : Int32) (S : Nat → Bool) : Prop := ∃ (A B : HM) (d : Int64) (sv : Value), M = xU (xU A (xO o d sv)) B ∧ RG G A h0 rf ∧ MGm G B a rf S ∧ xDis A (xO o d sv) ∧ xDis (xU A (xO o d sv)) B
def sAdd (S : Nat → Bool) (x : Nat) : Nat → Bool := fun k => S k || decide (k = x)
theorem sAdd_s (S : Nat → Bool) (x : Nat) : sAdd S x x = true := by simp [sAdd]
theorem mC_add (S : Nat → Bool) (x : Nat) : ∀ n, mC (sAdd S x) n ≤ mC S n + (if x < n then 1 else 0)
  | 0 => by simp [mC]
  | n + 1 => by
    have h := mC_add S x n
    simp only [mC]
    by_cases e : x = n
    · subst e
      have e1 : ¬ x < x := Nat.lt_irrefl x
      rw [if_neg e1] at h
      rw [if_pos (sAdd_s S x), if_pos (Nat.lt_succ_self x)]
      split <;> omega
    · have e2 : sAdd S x n = S n := by
        show (S n || decide (n = x)) = S n
        rw [decide_eq_false (fun q => e q.symm), Bool.or_false]
      rw [e2]
      by_cases e3 : x < n
      · rw [if_pos e3] at h; rw [if_pos (Nat.lt_succ_of_lt e3)]; split <;> omega
      · rw [if_neg e3] at h; rw [if_neg (show ¬ x < n + 1 by omega)]; split <;> omega
theorem mC_add1 (S : Nat → Bool) (x : Nat) : mC (sAdd S x) 100 ≤ mC S 100 + 1 := by
  have h := mC_add S x 100
  split at h <;> omega
theorem MGm.add {G : xG} {M : HM} {a : Nat} {rf : Int32} {S : Nat → Bool} (h : MGm G M a rf S) (x : Nat) : MGm G M a rf (sAdd S x) := by
  obtain ⟨a1, a2, a3, a4, a5, a6, a7, a8, a9, b1, b2, b3, b4, b5, b6, b7, b8, b9, c1, c2, h⟩ := h
  exact ⟨a1, a2, a3, a4, a5, a6, a7, a8, a9, b1, b2, b3, b4, b5, b6, b7, b8, b9, c1, c2, h.more (fun k hk => by simp [sAdd, hk])⟩
theorem xU_new {A : HM} {q : Nat} {x : va_E} (h : A q = none) : va_up A q (some x) = xU (va_up (fun _ => none) q (some x)) A ∧ xDis (va_up (fun _ => none) q (some x)) A := by
  refine ⟨?_, fun a ha => ?_⟩
  · funext a
    by_cases e : a = q
    · subst e; rw [va_up_self, xU_l (va_up_self _ _ _)]
    · rw [va_up_ne _ _ e, xU_r (va_up_ne _ _ e)]
  · by_cases e : a = q
    · subst e; exact h
    · rw [va_up_ne _ _ e] at ha; exact absurd rfl ha
theorem xO_eq (o : Nat) (d : Int64) (sv : Value) : xO o d sv = va_up (fun _ => none) o (some (.inr (6, [.long d, sv]))) := by
  funext a; simp only [xO, va_up]
section LROWS
variable {p : Program} {l : Launch} {e : Env} {R : Room} {s : State} {m : MethodId} {args : Array Value} {below : List Frame} {meth : Method} {c : Code} {H : Heap} {locs : List Loc} {cells slots : Nat} {Q : State → Prop}
variable {cc : ByteArray} {pc nL : Nat} {ls : Array Slot} {st rest : List Value} {G : xG} {A : Nat → Prop} {a b L : Nat} {M M0 : HM} {own nm : String} {Ts : List Cond} {ret : Option FieldType} {xs : Nat → Int32} {z : Int}
variable {x y : MethodName} {wy wy' : List Cond} {bytes : ByteArray} {maxL : Nat} {ry : Option FieldType} {fr lo mc ms idx : Nat} {As : List Value} {Q1 : Option Value → HM → Prop} {hh : List (Nat × Nat × Nat × Nat)}
theorem x_sld (hC : xB p s m args meth c cc nL own nm Ts ret G A) (hw : xD G A s M H locs) (hX : va_X b L xs s s.heap) (hbl : b < s.heap.size) (hbA : ¬ A b) (h0 : 0 ≤ z) (h1 : z ≤ 2147483647) (h2 : z < L) (hdg : decode cc pc = .ok (.iaload, 1))
    (kk : W p l e R s m args below meth c H locs cells slots Q (F0 m (pc + 1) ls (.int (iN (xs z.toNat).toInt) :: rest))) : W p l e R s m args below meth c H locs cells slots Q (F0 m pc ls (.int (iN z) :: .ref b :: rest)) := by
  refine va_sld hC.1 hC.2.1 hX hbl hbA hw.2 (iN_in h0 h1 h2) hdg ?_
  rw [iN_clamp h0 h1]
  rw [iN_asI] at kk
  exact kk
theorem x_slen (hC : xB p s m args meth c cc nL own nm Ts ret G A) (hw : xD G A s M H locs) (hX : va_X b L xs s s.heap) (hbl : b < s.heap.size) (hbA : ¬ A b) (hdg : decode cc pc = .ok (.arraylength, 1))
    (kk : W p l e R s m args below meth c H locs cells slots Q (F0 m (pc + 1) ls (.int (iN L) :: rest))) : W p l e R s m args below meth c H locs cells slots Q (F0 m pc ls (.ref b :: rest)) := by
  refine va_slen hC.1 hC.2.1 hX hbl hbA hw.2 hdg ?_
  rw [iN_nat]; exact kk
theorem x_iand (hC : xB p s m args meth c cc nL own nm Ts ret G A) {x y : Int} (hdg : decode cc pc = .ok (.iand, 1)) (kk : ∀ z : Int, (-2147483648 ≤ z ∧ z ≤ 2147483647) → W p l e R s m args below meth c H locs cells slots Q (F0 m (pc + 1) ls (.int (iN z) :: rest))) : W p l e R s m args below meth c H locs cells slots Q (F0 m pc ls (.int (iN y) :: .int (iN x) :: rest)) := by
  refine lv_iand hC.1 hC.2.1 hdg ?_
  have h := kk _ (iN_rng (iN x &&& iN y))
  rw [iN_asI] at h
  exact h
/-- a static method with handlers -/
theorem x_callSW (hC : xB p s m args meth c cc nL own nm Ts ret G A) (hw : xD G A s M H locs) (hls : ls.size = nL) (hM : xMet l G y wy fr lo mc ms As M Q1)
    (hg : GoodIn Ts (va_wsS own idx y wy)) (hwy : wy = Cond.codeWith y bytes maxL ry hh :: wy') (hd : y.cls ≠ "java/lang/invoke/MethodHandle" ∧ y.cls ≠ "java/lang/invoke/VarHandle" ∧ (parseMethodDescriptor y.desc).map (fun d => d.parameters.length) = some As.length)
    (hst : st = As.reverse ++ rest) (hrest : (rest.map fun v => v.category).sum ≤ 8)
    (hfr : fr + 1 ≤ R.frames) (hlo : 8 + (maxL + 11) + lo ≤ R.locals) (hcl : cells + mc ≤ R.cells) (hsl : slots + ms ≤ R.slots) (hdg : decode cc pc = .ok (.invokestatic idx, 3))
    (kk : ∀ (r : Option Value) (M1 : HM) (H1 : Heap) (locs1 : List Loc), Q1 r M1 → xD G A s M1 H1 locs1 → W p l e R s m args below meth c H1 locs1 (cells + mc) (slots + ms) Q (F0 m (pc + 3) ls (r.toList ++ rest))) : W p l e R s m args below meth c H locs cells slots Q (F0 m pc ls st) :=
  x_goes hC hw (vx_runSW (As := As) (rest := rest) ⟨hC.1, hC.2.1, hC.2.2.1, hC.2.2.2.1, hC.2.2.2.2.1⟩ (hM H.size) (vx_cwSW As.length hC.2.2.2.2.1 hg hwy rfl rfl hd ⟨hfr, hlo⟩) ⟨x_blind, x_pre hC hw As⟩ rfl rfl hls hst (lv_room hrest) hdg ⟨hcl, hsl⟩) kk
end LROWS
