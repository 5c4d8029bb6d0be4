/-! the law's rows -/
/-- the state at the law's loop: the class's object beside Out beside the model's -/
def LwS (G : xG) (M : HM) (h0 a o : Nat) (N : Int) (s : ST) (S : Nat → Bool) : Prop := ∃ (A B : HM) (d : Int64) (sv : Value) (th : Int), M = xU (xU A (xO o d sv)) B ∧ RG G A h0 N s ∧ MGm G B a S th s ∧ xDis A (xO o d sv) ∧ xDis (xU A (xO o d sv)) B
theorem RG.le {G : xG} {M : HM} {h0 : Nat} {N N2 : Int} {s : ST} (h : RG G M h0 N s) (h1 : N ≤ N2) (h2 : N2 ≤ 600) : RG G M h0 N2 s := by
  obtain ⟨bs, vs, og, qb, qk, qv, fb, fv, T, C, K, hR, hK, h3, h4⟩ := h
  exact ⟨bs, vs, og, qb, qk, qv, fb, fv, T, C, K, hR, hK, h2, fun j hj => by have := h4 j hj; omega⟩
theorem LwS.le {G : xG} {M : HM} {h0 a o : Nat} {N N2 : Int} {s : ST} {S : Nat → Bool} (h : LwS G M h0 a o N s S) (h1 : N ≤ N2) (h2 : N2 ≤ 600) : LwS G M h0 a o N2 s S := by
  obtain ⟨A, B, d, sv, th, k1, k2, k3, k4, k5⟩ := h
  exact ⟨A, B, d, sv, th, k1, k2.le h1 h2, k3, k4, k5⟩
theorem RG.ol {G : xG} {M : HM} {h0 : Nat} {N : Int} {s : ST} (h : RG G M h0 N s) {j : Nat} (hj : j < 3) : s.O j < 3 := by
  obtain ⟨bs, vs, og, qb, qk, qv, fb, fv, T, C, K, hR, hK, h3, h4⟩ := h
  exact hR.ol hj
def sAdd (S : Nat → Bool) (x : Nat) : Nat → Bool := fun k => S k || decide (k = x)
theorem sAdd_s (S : Nat → Bool) (x : Nat) : sAdd S x x = true := by simp [sAdd]
theorem mC_add (S : Nat → Bool) (x : Nat) : ∀ n, mC (sAdd S x) n ≤ mC S n + (if x < n then 1 else 0)
  | 0 => by simp [mC]
  | n + 1 => by
    have h := mC_add S x n
    simp only [mC]
    by_cases e : x = n
    · subst e
      have e1 : ¬ x < x := Nat.lt_irrefl x
      rw [if_neg e1] at h
      rw [if_pos (sAdd_s S x), if_pos (Nat.lt_succ_self x)]
      split <;> omega
    · have e2 : sAdd S x n = S n := by
        show (S n || decide (n = x)) = S n
        rw [decide_eq_false (fun q => e q.symm), Bool.or_false]
      rw [e2]
      by_cases e3 : x < n
      · rw [if_pos e3] at h; rw [if_pos (Nat.lt_succ_of_lt e3)]; split <;> omega
      · rw [if_neg e3] at h; rw [if_neg (show ¬ x < n + 1 by omega)]; split <;> omega
theorem mC_add1 (S : Nat → Bool) (x : Nat) : mC (sAdd S x) 100 ≤ mC S 100 + 1 := by
  have h := mC_add S x 100
  split at h <;> omega
theorem MGm.add {G : xG} {M : HM} {a : Nat} {th : Int} {s : ST} {S : Nat → Bool} (h : MGm G M a S th s) (x : Nat) : MGm G M a (sAdd S x) th s := by
  obtain ⟨va, oa, wa, ya, wk, br, re, la, ha, qv, qw, fa, fb, fy, wt, hR, hK⟩ := h
  exact ⟨va, oa, wa, ya, wk, br, re, la, ha, qv, qw, fa, fb, fy, wt, hR.more (fun k hk => by simp [sAdd, hk]), hK⟩
theorem xU_new {A : HM} {q : Nat} {x : va_E} (h : A q = none) : va_up A q (some x) = xU (va_up (fun _ => none) q (some x)) A ∧ xDis (va_up (fun _ => none) q (some x)) A := by
  refine ⟨?_, fun a ha => ?_⟩
  · funext a
    by_cases e : a = q
    · subst e; rw [va_up_self, xU_l (va_up_self _ _ _)]
    · rw [va_up_ne _ _ e, xU_r (va_up_ne _ _ e)]
  · by_cases e : a = q
    · subst e; exact h
    · rw [va_up_ne _ _ e] at ha; exact absurd rfl ha
theorem xO_eq (o : Nat) (d : Int64) (sv : Value) : xO o d sv = va_up (fun _ => none) o (some (.inr (6, [.long d, sv]))) := by
  funext a; simp only [xO, va_up]
section LROWS
variable {p : Program} {l : Launch} {e : Env} {R : Room} {s : State} {m : MethodId} {args : Array Value} {below : List Frame} {meth : Method} {c : Code} {H : Heap} {locs : List Loc} {cells slots : Nat} {Q : State → Prop}
variable {cc : ByteArray} {pc nL : Nat} {ls : Array Slot} {st rest : List Value} {G : xG} {A : Nat → Prop} {a b L : Nat} {M M0 : HM} {own nm : String} {Ts : List Cond} {ret : Option FieldType} {xs : Nat → Int32} {z : Int}
variable {x y : MethodName} {wy wy' : List Cond} {bytes : ByteArray} {maxL : Nat} {ry : Option FieldType} {fr lo mc ms idx : Nat} {As : List Value} {Q1 : Option Value → HM → Prop} {hh : List (Nat × Nat × Nat × Nat)}
theorem x_sld (hC : xB p s m args meth c cc nL own nm Ts ret G A) (hw : xD G A s M H locs) (hX : va_X b L xs s s.heap) (hbl : b < s.heap.size) (hbA : ¬ A b) (h0 : 0 ≤ z) (h1 : z ≤ 2147483647) (h2 : z < L) (hdg : decode cc pc = .ok (.iaload, 1))
    (kk : W p l e R s m args below meth c H locs cells slots Q (F0 m (pc + 1) ls (.int (iN (xs z.toNat).toInt) :: rest))) : W p l e R s m args below meth c H locs cells slots Q (F0 m pc ls (.int (iN z) :: .ref b :: rest)) := by
  refine va_sld hC.1 hC.2.1 hX hbl hbA hw.2 (iN_in h0 h1 h2) hdg ?_
  rw [iN_clamp h0 h1]
  rw [iN_asI] at kk
  exact kk
theorem x_slen (hC : xB p s m args meth c cc nL own nm Ts ret G A) (hw : xD G A s M H locs) (hX : va_X b L xs s s.heap) (hbl : b < s.heap.size) (hbA : ¬ A b) (hdg : decode cc pc = .ok (.arraylength, 1))
    (kk : W p l e R s m args below meth c H locs cells slots Q (F0 m (pc + 1) ls (.int (iN L) :: rest))) : W p l e R s m args below meth c H locs cells slots Q (F0 m pc ls (.ref b :: rest)) := by
  refine va_slen hC.1 hC.2.1 hX hbl hbA hw.2 hdg ?_
  rw [iN_nat]; exact kk
theorem x_iand (hC : xB p s m args meth c cc nL own nm Ts ret G A) {x y : Int} (hdg : decode cc pc = .ok (.iand, 1)) (kk : ∀ z : Int, (-2147483648 ≤ z ∧ z ≤ 2147483647) → W p l e R s m args below meth c H locs cells slots Q (F0 m (pc + 1) ls (.int (iN z) :: rest))) : W p l e R s m args below meth c H locs cells slots Q (F0 m pc ls (.int (iN y) :: .int (iN x) :: rest)) := by
  refine lv_iand hC.1 hC.2.1 hdg ?_
  have h := kk _ (iN_rng (iN x &&& iN y))
  rw [iN_asI] at h
  exact h
/-- a static method with handlers -/
theorem x_callSW (hC : xB p s m args meth c cc nL own nm Ts ret G A) (hw : xD G A s M H locs) (hls : ls.size = nL) (hM : xMet l G y wy fr lo mc ms As M Q1)
    (hg : GoodIn Ts (va_wsS own idx y wy)) (hwy : wy = Cond.codeWith y bytes maxL ry hh :: wy') (hd : y.cls ≠ "java/lang/invoke/MethodHandle" ∧ y.cls ≠ "java/lang/invoke/VarHandle" ∧ (parseMethodDescriptor y.desc).map (fun d => d.parameters.length) = some As.length)
    (hst : st = As.reverse ++ rest) (hrest : (rest.map fun v => v.category).sum ≤ 8)
    (hfr : fr + 1 ≤ R.frames) (hlo : 8 + (maxL + 11) + lo ≤ R.locals) (hcl : cells + mc ≤ R.cells) (hsl : slots + ms ≤ R.slots) (hdg : decode cc pc = .ok (.invokestatic idx, 3))
    (kk : ∀ (r : Option Value) (M1 : HM) (H1 : Heap) (locs1 : List Loc), Q1 r M1 → xD G A s M1 H1 locs1 → W p l e R s m args below meth c H1 locs1 (cells + mc) (slots + ms) Q (F0 m (pc + 3) ls (r.toList ++ rest))) : W p l e R s m args below meth c H locs cells slots Q (F0 m pc ls st) :=
  x_goes hC hw (vx_runSW (As := As) (rest := rest) ⟨hC.1, hC.2.1, hC.2.2.1, hC.2.2.2.1, hC.2.2.2.2.1⟩ (hM H.size) (vx_cwSW As.length hC.2.2.2.2.1 hg hwy rfl rfl hd ⟨hfr, hlo⟩) ⟨x_blind, x_pre hC hw As⟩ rfl rfl hls hst (lv_room hrest) hdg ⟨hcl, hsl⟩) kk
/-- out.n -/
theorem x_getOn {d : Int64} {sv : Value} (hC : xB p s m args meth c cc nL "RangeledgerLaw" nm Ts ret G A) (hw : xD G A s M H locs) (hin : ∀ w ∈ wsX40, w ∈ Ts) (he : M a = some (.inr (6, [.long d, sv]))) (hdg : decode cc pc = .ok (.getfield 13, 3))
    (kk : W p l e R s m args below meth c H locs cells slots Q (F0 m (pc + 3) ls (.long d :: rest))) : W p l e R s m args below meth c H locs cells slots Q (F0 m pc ls (.ref a :: rest)) := by
  obtain ⟨L, q, h1, h2, h3, h4, h5, h6⟩ := hw.1.get he
  exact va_getN (D := G.1) hC.1 hC.2.1 hC.2.2.2.2.1 hin hC.2.2.2.1 hC.2.2.2.2.2.2.2.2.1.1 h2 q h5 rfl 0 (by decide) (va_Nw.use rfl hC.2.2.2.2.2.2.2.2.1.2.2.2.2.2.1.2.2.2.1) (fun _ h => h) rfl hdg kk
theorem x_lcmpE {x y : Int64} (hC : xB p s m args meth c cc nL own nm Ts ret G A) (hxy : x = y) (hdg : decode cc pc = .ok (.lcmp, 1))
    (kk : W p l e R s m args below meth c H locs cells slots Q (F0 m (pc + 1) ls (.int (iN 0) :: rest))) : W p l e R s m args below meth c H locs cells slots Q (F0 m pc ls (.long y :: .long x :: rest)) := by
  subst hxy
  refine W.lcmp hC.1 hC.2.1 hdg ?_
  have e : lg_cmp x x = 0 := by first | simp [lg_cmp] | (unfold lg_cmp; rw [if_neg (fun h => by have h9 := Int64.lt_iff_toInt_lt.mp h; omega), if_pos rfl])
  rw [e]; exact kk
end LROWS
