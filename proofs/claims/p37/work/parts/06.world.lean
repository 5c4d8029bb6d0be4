/-! what an object of the class is: its cells -/
/-- nothing but this one is another -/
def xS1 (M M1 : HM) (y : Nat) : Prop := ∀ a, a ≠ y → M1 a = M a
theorem xS1.rf {M : HM} {y : Nat} : xS1 M M y := fun _ _ => rfl
theorem xS1.tr {M M1 M2 : HM} {y : Nat} (h1 : xS1 M M1 y) (h2 : xS1 M1 M2 y) : xS1 M M2 y := fun a q => (h2 a q).trans (h1 a q)
theorem xS1.up {M M1 : HM} {y : Nat} {x : Option va_E} (h : M1 = va_up M y x) : xS1 M M1 y := fun a q => by rw [h, va_up_ne _ _ q]
theorem x_k1 {M M1 : HM} {a y c1 c2 : Nat} {f1 f2 : List Value} (sm : xS1 M M1 a) (ha : M a = some (.inr (c1, f1))) (hc : c2 ≠ c1) (hy : M y = some (.inr (c2, f2))) : M1 y = some (.inr (c2, f2)) := by
  rw [sm y (fun q => by rw [q, ha] at hy; cases hy; exact hc rfl)]; exact hy
theorem x_k1a {M M1 : HM} {a y c1 : Nat} {f1 : List Value} {z : _} (sm : xS1 M M1 a) (ha : M a = some (.inr (c1, f1))) (hy : M y = some (.inl z)) : M1 y = some (.inl z) := by
  rw [sm y (fun q => by rw [q, ha] at hy; cases hy)]; exact hy
section BK2
variable {G : xG} {M M1 : HM} {b k v y ci : Nat} {no o t kc : Int32} {sz : Int} {fk fv : Nat → Int32} {fs : List Value}
theorem x_kB (h : Bk G M b k v no o t kc sz fk fv) (sm : xSm M M1 b k v) (hc : ci ≠ 2) (hy : M y = some (.inr (ci, fs))) : M1 y = some (.inr (ci, fs)) := by
  rw [sm y (fun q => by rw [q, h.1] at hy; cases hy; exact hc rfl) (fun q => by rw [q, h.2.1] at hy; cases hy) (fun q => by rw [q, h.2.2.1] at hy; cases hy)]; exact hy
theorem x_kBq {n : Nat} {cA : ClassId} {f : Nat → Option Nat} (h : Bk G M b k v no o t kc sz fk fv) (sm : xSm M M1 b k v) (hy : M y = some (.inl (cA, n, .inr (.inr (.inr (.inr f)))))) : M1 y = some (.inl (cA, n, .inr (.inr (.inr (.inr f))))) := by
  rw [sm y (fun q => by rw [q, h.1] at hy; cases hy) (fun q => by rw [q, h.2.1] at hy; cases hy) (fun q => by rw [q, h.2.2.1] at hy; cases hy)]; exact hy
theorem Bk.kept1 (h : Bk G M b k v no o t kc sz fk fv) (sm : xS1 M M1 y) (hc : ci ≠ 2) (hy : M y = some (.inr (ci, fs))) : Bk G M1 b k v no o t kc sz fk fv :=
  ⟨x_k1 sm hy (fun q => hc q.symm) h.1, x_k1a sm hy h.2.1, x_k1a sm hy h.2.2.1, h.2.2.2⟩
theorem Bk.kept1q {n : Nat} {cA : ClassId} {f : Nat → Option Nat} (h : Bk G M b k v no o t kc sz fk fv) (sm : xS1 M M1 y) (hy : M y = some (.inl (cA, n, .inr (.inr (.inr (.inr f)))))) : Bk G M1 b k v no o t kc sz fk fv :=
  ⟨by rw [sm b (fun q => by have h1 := h.1; rw [q, hy] at h1; cases h1)]; exact h.1, by rw [sm k (fun q => by have h1 := h.2.1; rw [q, hy] at h1; cases h1)]; exact h.2.1, by rw [sm v (fun q => by have h1 := h.2.2.1; rw [q, hy] at h1; cases h1)]; exact h.2.2.1, h.2.2.2⟩
theorem Bk.new (h : Bk G M b k v no o t kc sz fk fv) {e : va_E} (hy : M y = none) : Bk G (va_up M y (some e)) b k v no o t kc sz fk fv :=
  ⟨by rw [va_up_ne _ _ (fun q => by have h1 := h.1; rw [q, hy] at h1; cases h1)]; exact h.1, by rw [va_up_ne _ _ (fun q => by have h1 := h.2.1; rw [q, hy] at h1; cases h1)]; exact h.2.1, by rw [va_up_ne _ _ (fun q => by have h1 := h.2.2.1; rw [q, hy] at h1; cases h1)]; exact h.2.2.1, h.2.2.2⟩
end BK2
/-- a view -/
def Vw (M : HM) (y b : Nat) (lo up sw ew : Int32) (li ui : Int) : Prop := M y = some (.inr (3, [.ref b, .int lo, .int up, .int (iN (li)), .int (iN (ui)), .int sw, .int ew])) ∧ (li = 0 ∨ li = 1) ∧ (ui = 0 ∨ ui = 1)
/-- a walk -/
def Wk (M : HM) (w y : Nat) (ps t kc : Int32) (cd : Int) : Prop := M w = some (.inr (4, [.ref y, .int ps, .int (iN (cd)), .int t, .int kc])) ∧ (cd = 0 ∨ cd = 1)
theorem x_objInit {p : Program} {l : Launch} {e : Env} {R : Room} {s : State} {m : MethodId} {args : Array Value} {below : List Frame} {meth : Method} {c : Code} {H : Heap} {locs : List Loc} {cells slots pc nL idx a : Nat} {Q : State → Prop} {cc : ByteArray} {ls : Array Slot} {rest : List Value} {G : xG} {A : Nat → Prop} {own nm : String} {Ts : List Cond} {ret : Option FieldType}
    (hC : xB p s m args meth c cc nL own nm Ts ret G A) (hls : ls.size = nL) (k1 : Cond.methodLink own idx objectInit ∈ Ts) (k2 : Cond.instanceMethod objectInit ∈ Ts) (k3 : Cond.code objectInit ⟨#[0xb1]⟩ 1 none ∈ Ts) (hframes : 1 ≤ R.frames) (hlocals : (rest.map fun v => v.category).sum + 12 ≤ R.locals) (hdg : decode cc pc = .ok (.invokespecial idx, 3))
    (kk : W p l e R s m args below meth c H locs cells slots Q (F0 m (pc + 3) ls rest)) : W p l e R s m args below meth c H locs cells slots Q (F0 m pc ls (.ref a :: rest)) := by
  refine W.objInit hC.1 hC.2.1 hC.2.2.2.1 (hC.2.2.2.2.1 _ k1) (hC.2.2.2.2.1 _ k2) (hC.2.2.2.2.1 _ k3) rfl (by rw [hC.2.2.1]; exact hls) rfl hdg hframes (by show 2 * 0 + _ + 12 ≤ _; omega) ?_
  exact kk
