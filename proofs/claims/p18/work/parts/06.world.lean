/-! what an object of the class is: its cells -/
/-- nothing but this one is another -/
def xS1 (M M1 : HM) (y : Nat) : Prop := ∀ a, a ≠ y → M1 a = M a
theorem xS1.rf {M : HM} {y : Nat} : xS1 M M y := fun _ _ => rfl
theorem xS1.tr {M M1 M2 : HM} {y : Nat} (h1 : xS1 M M1 y) (h2 : xS1 M1 M2 y) : xS1 M M2 y := fun a q => (h2 a q).trans (h1 a q)
theorem xS1.up {M M1 : HM} {y : Nat} {x : Option va_E} (h : M1 = va_up M y x) : xS1 M M1 y := fun a q => by rw [h, va_up_ne _ _ q]
theorem x_k1 {M M1 : HM} {a y c1 c2 : Nat} {f1 f2 : List Value} (sm : xS1 M M1 a) (ha : M a = some (.inr (c1, f1))) (hc : c2 ≠ c1) (hy : M y = some (.inr (c2, f2))) : M1 y = some (.inr (c2, f2)) := by
  rw [sm y (fun q => by rw [q, ha] at hy; cases hy; exact hc rfl)]; exact hy
theorem x_k1a {M M1 : HM} {a y c1 : Nat} {f1 : List Value} {z : _} (sm : xS1 M M1 a) (ha : M a = some (.inr (c1, f1))) (hy : M y = some (.inl z)) : M1 y = some (.inl z) := by
  rw [sm y (fun q => by rw [q, ha] at hy; cases hy)]; exact hy
section BK2
variable {G : xG} {M M1 : HM} {b k v y ci : Nat} {no o t kc : Int32} {sz : Int} {fk fv : Nat → Int32} {fs : List Value}
theorem x_kB (h : Bk G M b k v no o t kc sz fk fv) (sm : xSm M M1 b k v) (hc : ci ≠ 2) (hy : M y = some (.inr (ci, fs))) : M1 y = some (.inr (ci, fs)) := by
  rw [sm y (fun q => by rw [q, h.1] at hy; cases hy; exact hc rfl) (fun q => by rw [q, h.2.1] at hy; cases hy) (fun q => by rw [q, h.2.2.1] at hy; cases hy)]; exact hy
theorem x_kBq {n : Nat} {cA : ClassId} {f : Nat → Option Nat} (h : Bk G M b k v no o t kc sz fk fv) (sm : xSm M M1 b k v) (hy : M y = some (.inl (cA, n, .inr (.inr (.inr (.inr f)))))) : M1 y = some (.inl (cA, n, .inr (.inr (.inr (.inr f))))) := by
  rw [sm y (fun q => by rw [q, h.1] at hy; cases hy) (fun q => by rw [q, h.2.1] at hy; cases hy) (fun q => by rw [q, h.2.2.1] at hy; cases hy)]; exact hy
theorem Bk.kept1 (h : Bk G M b k v no o t kc sz fk fv) (sm : xS1 M M1 y) (hc : ci ≠ 2) (hy : M y = some (.inr (ci, fs))) : Bk G M1 b k v no o t kc sz fk fv :=
  ⟨x_k1 sm hy (fun q => hc q.symm) h.1, x_k1a sm hy h.2.1, x_k1a sm hy h.2.2.1, h.2.2.2⟩
theorem Bk.kept1q {n : Nat} {cA : ClassId} {f : Nat → Option Nat} (h : Bk G M b k v no o t kc sz fk fv) (sm : xS1 M M1 y) (hy : M y = some (.inl (cA, n, .inr (.inr (.inr (.inr f)))))) : Bk G M1 b k v no o t kc sz fk fv :=
  ⟨by rw [sm b (fun q => by have h1 := h.1; rw [q, hy] at h1; cases h1)]; exact h.1, by rw [sm k (fun q => by have h1 := h.2.1; rw [q, hy] at h1; cases h1)]; exact h.2.1, by rw [sm v (fun q => by have h1 := h.2.2.1; rw [q, hy] at h1; cases h1)]; exact h.2.2.1, h.2.2.2⟩
theorem Bk.new (h : Bk G M b k v no o t kc sz fk fv) {e : va_E} (hy : M y = none) : Bk G (va_up M y (some e)) b k v no o t kc sz fk fv :=
  ⟨by rw [va_up_ne _ _ (fun q => by have h1 := h.1; rw [q, hy] at h1; cases h1)]; exact h.1, by rw [va_up_ne _ _ (fun q => by have h1 := h.2.1; rw [q, hy] at h1; cases h1)]; exact h.2.1, by rw [va_up_ne _ _ (fun q => by have h1 := h.2.2.1; rw [q, hy] at h1; cases h1)]; exact h.2.2.1, h.2.2.2⟩
end BK2
/-- a view -/
def Vw (M : HM) (y b : Nat) (lo up sw ew : Int32) (li ui : Int) : Prop := M y = some (.inr (3, [.ref b, .int lo, .int up, .int (iN (li)), .int (iN (ui)), .int sw, .int ew])) ∧ (li = 0 ∨ li = 1) ∧ (ui = 0 ∨ ui = 1)
/-- a walk -/
def Wk (M : HM) (w y : Nat) (ps t kc : Int32) (cd : Int) : Prop := M w = some (.inr (4, [.ref y, .int ps, .int (iN (cd)), .int t, .int kc])) ∧ (cd = 0 ∨ cd = 1)
theorem x_objInit {p : Program} {l : Launch} {e : Env} {R : Room} {s : State} {m : MethodId} {args : Array Value} {below : List Frame} {meth : Method} {c : Code} {H : Heap} {locs : List Loc} {cells slots pc nL idx a : Nat} {Q : State → Prop} {cc : ByteArray} {ls : Array Slot} {rest : List Value} {G : xG} {A : Nat → Prop} {own nm : String} {Ts : List Cond} {ret : Option FieldType}
    (hC : xB p s m args meth c cc nL own nm Ts ret G A) (hls : ls.size = nL) (k1 : Cond.methodLink own idx objectInit ∈ Ts) (k2 : Cond.instanceMethod objectInit ∈ Ts) (k3 : Cond.code objectInit ⟨#[0xb1]⟩ 1 none ∈ Ts) (hframes : 1 ≤ R.frames) (hlocals : (rest.map fun v => v.category).sum + 12 ≤ R.locals) (hdg : decode cc pc = .ok (.invokespecial idx, 3))
    (kk : W p l e R s m args below meth c H locs cells slots Q (F0 m (pc + 3) ls rest)) : W p l e R s m args below meth c H locs cells slots Q (F0 m pc ls (.ref a :: rest)) := by
  refine W.objInit hC.1 hC.2.1 hC.2.2.2.1 (hC.2.2.2.2.1 _ k1) (hC.2.2.2.2.1 _ k2) (hC.2.2.2.2.1 _ k3) rfl (by rw [hC.2.2.1]; exact hls) rfl hdg hframes (by show 2 * 0 + _ + 12 ≤ _; omega) ?_
  exact kk
theorem xPW.kept {G : xG} {A : Nat → Prop} {M : HM} {H H1 : Heap} (h : xPW G A M H) (hq : ∀ q : Nat, q < H.size → H1[q]? = H[q]?) : xPW G A M H1 := by
  obtain ⟨L, h1, h2, h3⟩ := h
  exact ⟨L, h1, h2.kept (fun k q hk => hq _ (h2 k q hk).lt), h3⟩
section XTHROW
variable {p : Program} {l : Launch} {e : Env} {R : Room} {s : State} {m : MethodId} {args : Array Value} {below : List Frame} {meth : Method} {c : Code} {H : Heap} {locs : List Loc} {cells slots pc nL mc ms ik is ic : Nat} {cc : ByteArray} {ls : Array Slot} {rest : List Value} {G : xG} {M M0 : HM} {own nm : String} {Ts : List Cond} {ret : Option FieldType} {Q1 : Option Value → HM → Prop} {QX : String → HM → Prop}
theorem x_hat {cls : String} {names : List String} {A : Nat → Prop} (hC : xB p s m args meth c cc nL own nm Ts ret G A) (hcast : (cls, cls) ∈ xCasts) (k3 : ∀ w ∈ (vx_atS own ic cls names).filter goodWord, w ∈ Ts) (k4 : ∀ w ∈ (vx_atS own ic cls names).filter (fun w => !goodWord w), w ∈ [Cond.castable cls cls, Cond.declares (Bundle.initS "java/lang/RuntimeException"), Cond.declares (Bundle.initS "java/lang/Exception"), Cond.declares (Bundle.initS "java/lang/Throwable")]) : ∀ w ∈ vx_atS own ic cls names, w.before args s = true :=
  vx_hat (fun w hw => hC.2.2.2.2.1 w (k3 w hw)) k4 (vx_c (va_Nw.use rfl (hC.2.2.2.2.2.2.2.2.1.2.2.2.1.1 _ hcast)) (vx_c (va_Nw.use rfl (hC.2.2.2.2.2.2.2.2.1.2.2.2.1.2 _ (by decide))) (vx_c (va_Nw.use rfl (hC.2.2.2.2.2.2.2.2.1.2.2.2.1.2 _ (by decide))) (vx_c (va_Nw.use rfl (hC.2.2.2.2.2.2.2.2.1.2.2.2.1.2 _ (by decide))) vx_n))))
theorem x_thrown {cls : String} (hw : xD G (xA M0 s.heap.size) s M H locs) (hx : QX cls M) : ∀ t : State, s.vm.Alike t.vm → H.size ≤ t.heap.size → (∀ q : Nat, q < H.size → t.heap[q]? = H[q]?) → xXc G M0 s.heap.size QX cls s t := by
  intro t _ h1 h2
  refine ⟨⟨M, hx, hw.1.kept h2⟩, Nat.le_trans hw.2.1 h1, fun q g1 g2 => ?_⟩
  rw [h2 q (Nat.lt_of_lt_of_le g1 hw.2.1)]
  exact hw.2.2.1 q g1 g2
/-- 'throw new E("text")', the text by a wide index -/
theorem x_throwW (hC : xB p s m args meth c cc nL own nm Ts ret G (xA M0 s.heap.size)) (hw : xD G (xA M0 s.heap.size) s M H locs) (hst : l.stackTraces = false) (htab : ∀ x ∈ c.exceptionTable.toList, False) (hls : ls.size = nL) {cls text : String} {by0 : List Int32} {names : List String} (hcls : Bundle.fit cls = true) (hnames : ∀ n ∈ names, Bundle.fit n = true)
    (k1 : Cond.classLink own ik cls ∈ Ts) (k2 : Cond.initialized cls ∈ Ts) (k3 : ∀ w ∈ (vx_atS own ic cls names).filter goodWord, w ∈ Ts) (k4 : ∀ w ∈ (vx_atS own ic cls names).filter (fun w => !goodWord w), w ∈ [Cond.castable cls cls, Cond.declares (Bundle.initS "java/lang/RuntimeException"), Cond.declares (Bundle.initS "java/lang/Exception"), Cond.declares (Bundle.initS "java/lang/Throwable")]) (k5 : ∀ w ∈ Cond.classLink own ik cls :: Cond.initialized cls :: vx_atS own ic cls names, vx_ot w = true) (hlit : (own, is, text, by0) ∈ xLits) (hcast : (cls, cls) ∈ xCasts)
    (d0 : decode cc pc = .ok (.new ik, 3)) (d3 : decode cc (pc + 3) = .ok (.dup, 1)) (d4 : decode cc (pc + 4) = .ok (.ldc_w is, 3)) (d7 : decode cc (pc + 7) = .ok (.invokespecial ic, 3)) (d10 : decode cc (pc + 10) = .ok (.athrow, 1))
    (hRf : names.length + 3 < R.frames) (hRl : (rest.map fun v => v.category).sum + (13 * (names.length + 1) + 43) ≤ R.locals) (hRc : cells + 1 ≤ R.cells) (hRs : slots + 6 ≤ R.slots) (hc : cells + 1 ≤ mc) (hs : slots + 6 ≤ ms) (hx : QX cls M) :
    W p l e R s m args below meth c H locs cells slots (vx_MQ below (xQc G M0 s.heap.size Q1) (xXc G M0 s.heap.size QX) args s mc ms (xA M0 s.heap.size)) (F0 m pc ls rest) := by
  obtain ⟨n9, hn9⟩ := List.getElem?_of_mem hlit
  have hq := (hC.2.2.2.2.2.2.2.2.1.2.2.1 n9 _ hn9).1
  exact vx_throwSW hC.1 hC.2.1 hst hC.2.2.2.1 hcls hnames (hC.2.2.2.2.1 _ k1) (hC.2.2.2.2.1 _ k2) hq (x_hat hC hcast k3 k4) k5 hC.2.2.2.2.2.2.2.2.1.2.1.1 hC.2.2.2.2.2.2.2.2.1.2.1.2 hw.2 (by rw [hC.2.2.1]; exact hls) d0 d3 d4 d7 d10 (fun x hx => (htab x hx).elim) hRf hRl hRc hRs hC.2.2.2.2.2.2.1 (x_thrown hw hx) hw.2.2.2 hc hs
theorem x_throwS (hC : xB p s m args meth c cc nL own nm Ts ret G (xA M0 s.heap.size)) (hw : xD G (xA M0 s.heap.size) s M H locs) (hst : l.stackTraces = false) (htab : ∀ x ∈ c.exceptionTable.toList, False) (hls : ls.size = nL) {cls text : String} {by0 : List Int32} {names : List String} (hcls : Bundle.fit cls = true) (hnames : ∀ n ∈ names, Bundle.fit n = true)
    (k1 : Cond.classLink own ik cls ∈ Ts) (k2 : Cond.initialized cls ∈ Ts) (k3 : ∀ w ∈ (vx_atS own ic cls names).filter goodWord, w ∈ Ts) (k4 : ∀ w ∈ (vx_atS own ic cls names).filter (fun w => !goodWord w), w ∈ [Cond.castable cls cls, Cond.declares (Bundle.initS "java/lang/RuntimeException"), Cond.declares (Bundle.initS "java/lang/Exception"), Cond.declares (Bundle.initS "java/lang/Throwable")]) (k5 : ∀ w ∈ Cond.classLink own ik cls :: Cond.initialized cls :: vx_atS own ic cls names, vx_ot w = true) (hlit : (own, is, text, by0) ∈ xLits) (hcast : (cls, cls) ∈ xCasts)
    (d0 : decode cc pc = .ok (.new ik, 3)) (d3 : decode cc (pc + 3) = .ok (.dup, 1)) (d4 : decode cc (pc + 4) = .ok (.ldc is, 2)) (d7 : decode cc (pc + 6) = .ok (.invokespecial ic, 3)) (d10 : decode cc (pc + 9) = .ok (.athrow, 1))
    (hRf : names.length + 3 < R.frames) (hRl : (rest.map fun v => v.category).sum + (13 * (names.length + 1) + 43) ≤ R.locals) (hRc : cells + 1 ≤ R.cells) (hRs : slots + 6 ≤ R.slots) (hc : cells + 1 ≤ mc) (hs : slots + 6 ≤ ms) (hx : QX cls M) :
    W p l e R s m args below meth c H locs cells slots (vx_MQ below (xQc G M0 s.heap.size Q1) (xXc G M0 s.heap.size QX) args s mc ms (xA M0 s.heap.size)) (F0 m pc ls rest) := by
  obtain ⟨n9, hn9⟩ := List.getElem?_of_mem hlit
  have hq := (hC.2.2.2.2.2.2.2.2.1.2.2.1 n9 _ hn9).1
  exact vx_throwS hC.1 hC.2.1 hst hC.2.2.2.1 hcls hnames (hC.2.2.2.2.1 _ k1) (hC.2.2.2.2.1 _ k2) hq (x_hat hC hcast k3 k4) k5 hC.2.2.2.2.2.2.2.2.1.2.1.1 hC.2.2.2.2.2.2.2.2.1.2.1.2 hw.2 (by rw [hC.2.2.1]; exact hls) d0 d3 d4 d7 d10 (fun x hx => (htab x hx).elim) hRf hRl hRc hRs hC.2.2.2.2.2.2.1 (x_thrown hw hx) hw.2.2.2 hc hs
end XTHROW
section XROW6
variable {p : Program} {l : Launch} {e : Env} {R : Room} {s : State} {m : MethodId} {args : Array Value} {below : List Frame} {meth : Method} {c : Code} {H : Heap} {locs : List Loc} {cells slots : Nat} {Q : State → Prop}
variable {cc : ByteArray} {pc nL idx a : Nat} {ls : Array Slot} {st rest : List Value} {G : xG} {A : Nat → Prop} {M : HM} {own nm : String} {Ts : List Cond} {ret : Option FieldType} {z : Int}
theorem x_aldq (hC : xB p s m args meth c cc nL own nm Ts ret G A) (hw : xD G A s M H locs) (t0 : Nat) {C : String} {n : Nat} {f : Nat → Option Nat} (he : M a = some (.inl (G.2 t0, n, .inr (.inr (.inr (.inr f)))))) (ht : (xTy G.2)[t0]? = some (G.2 t0, .object C)) (h0 : 0 ≤ z) (h1 : z ≤ 2147483647) (h2 : z < n) (hdg : decode cc pc = .ok (.aaload, 1))
    (kk : W p l e R s m args below meth c H locs cells slots Q (F0 m (pc + 1) ls (va_rf (f z.toNat) :: rest))) : W p l e R s m args below meth c H locs cells slots Q (F0 m pc ls (.int (iN z) :: .ref a :: rest)) := by
  obtain ⟨L, q, g1, g2, g3, g4, g5, g6⟩ := hw.1.get he
  refine va_aldq (D := G.1) hC.1 hC.2.1 hC.2.2.2.2.2.2.2.2.1.1 g2 q t0 g5 ht (iN_in h0 h1 h2) hdg ?_
  rw [iN_clamp h0 h1]
  exact kk
theorem x_astq (hC : xB p s m args meth c cc nL own nm Ts ret G A) (hw : xD G A s M H locs) (t0 ci : Nat) {r : vw_C} {n v : Nat} {vs : List Value} {f : Nat → Option Nat} (he : M a = some (.inl (G.2 t0, n, .inr (.inr (.inr (.inr f)))))) (ht : (xTy G.2)[t0]? = some (G.2 t0, .object r.1)) (hv : M v = some (.inr (ci, vs))) (hc : vwCl[ci]? = some r) (h0 : 0 ≤ z) (h1 : z ≤ 2147483647) (h2 : z < n) (hdg : decode cc pc = .ok (.aastore, 1))
    (kk : ∀ (H1 : Heap) (locs1 : List Loc), xD G A s (va_up M a (some (.inl (G.2 t0, n, .inr (.inr (.inr (.inr (va_up f z.toNat (some v))))))))) H1 locs1 → W p l e R s m args below meth c H1 locs1 cells slots Q (F0 m (pc + 1) ls rest)) : W p l e R s m args below meth c H locs cells slots Q (F0 m pc ls (.ref v :: .int (iN z) :: .ref a :: rest)) := by
  obtain ⟨L, q, g1, g2, g3, g4, g5, g6⟩ := hw.1.get he
  have hvL : v ∈ L := (g1 v).mpr (by rw [hv]; exact fun q => nomatch q)
  obtain ⟨qk, hqk⟩ := va_pl_get (X := []) (f := xL M) hvL
  have e1 : xL M v = .inr (ci, vs) := by simp [xL, hv]
  rw [e1] at hqk
  refine va_astq (D := G.1) hC.1 hC.2.1 hC.2.2.2.2.2.2.2.2.1.1 g2 g3 hw.2 q t0 qk ci g5 ht hqk hc (iN_in h0 h1 h2) hdg (fun H1 locs1 k1 k2 k3 => ?_)
  rw [iN_clamp h0 h1, g6] at k1 k2
  exact kk H1 locs1 ⟨xPW.of g1 he k1 k2, k3⟩
theorem x_astqN (hC : xB p s m args meth c cc nL own nm Ts ret G A) (hw : xD G A s M H locs) (t0 : Nat) {C : String} {n : Nat} {f : Nat → Option Nat} (he : M a = some (.inl (G.2 t0, n, .inr (.inr (.inr (.inr f)))))) (ht : (xTy G.2)[t0]? = some (G.2 t0, .object C)) (h0 : 0 ≤ z) (h1 : z ≤ 2147483647) (h2 : z < n) (hdg : decode cc pc = .ok (.aastore, 1))
    (kk : ∀ (H1 : Heap) (locs1 : List Loc), xD G A s (va_up M a (some (.inl (G.2 t0, n, .inr (.inr (.inr (.inr (va_up f z.toNat none)))))))) H1 locs1 → W p l e R s m args below meth c H1 locs1 cells slots Q (F0 m (pc + 1) ls rest)) : W p l e R s m args below meth c H locs cells slots Q (F0 m pc ls (.null :: .int (iN z) :: .ref a :: rest)) := by
  obtain ⟨L, q, g1, g2, g3, g4, g5, g6⟩ := hw.1.get he
  refine va_astqN (D := G.1) hC.1 hC.2.1 hC.2.2.2.2.2.2.2.2.1.1 g2 g3 hw.2 q t0 g5 ht (iN_in h0 h1 h2) hdg (fun H1 locs1 k1 k2 k3 => ?_)
  rw [iN_clamp h0 h1, g6] at k1 k2
  exact kk H1 locs1 ⟨xPW.of g1 he k1 k2, k3⟩
theorem x_newq (hC : xB p s m args meth c cc nL own nm Ts ret G A) (hw : xD G A s M H locs) (t0 : Nat) {C : String} (ht : (xTy G.2)[t0]? = some (G.2 t0, .object C)) (hover : va_AO C s) (h1 : Cond.classLink own idx C ∈ Ts) (n : Nat) (hz : z = n) (hn : n ≤ 100000) (hcells : cells + 1 ≤ R.cells) (hslots : slots + n ≤ R.slots) (hdg : decode cc pc = .ok (.anewarray idx, 3))
    (kk : ∀ (q : Nat) (H1 : Heap), M q = none → xD G A s (va_up M q (some (.inl (G.2 t0, n, .inr (.inr (.inr (.inr (fun _ => none)))))))) H1 locs → W p l e R s m args below meth c H1 locs (cells + 1) (slots + n) Q (F0 m (pc + 3) ls (.ref q :: rest))) : W p l e R s m args below meth c H locs cells slots Q (F0 m pc ls (.int (iN z) :: rest)) := by
  obtain ⟨L, g1, g2, g3⟩ := hw.1
  subst hz
  have e0 : (iN (n : Int)).toNatClampNeg = n := by rw [iN_clamp (by omega) (by omega)]; omega
  refine va_newq (D := G.1) (N' := n) hC.1 hC.2.1 hC.2.2.2.1 (hC.2.2.2.2.1 _ h1) hover hC.2.2.2.2.2.2.2.2.1.1 g2 g3 hw.2 hC.2.2.2.2.2.2.2.2.2 (fun q => ?_) e0 (by omega) hcells hslots hdg (fun q cA H1 k0 k1 k2 k3 => ?_)
  · rw [← iN_0, iN_lt ⟨by omega, by omega⟩ ⟨by omega, by omega⟩] at q
    omega
  · have e1 : cA = G.2 t0 := by
      obtain ⟨-, -, -, -, -, h8⟩ := (k0.2 5 (cA, .object C) rfl).2
      obtain ⟨-, -, -, -, -, h9⟩ := (hC.2.2.2.2.2.2.2.2.1.1.2 t0 (G.2 t0, .object C) ht).2
      exact Option.some.inj (h8.symm.trans h9)
    subst e1
    obtain ⟨e1, e2⟩ := xPW.new g1 k1 k2
    exact kk q H1 e1 ⟨e2, k3⟩
theorem x_acmp_ne (hC : xB p s m args meth c cc nL own nm Ts ret G A) {x y : Nat} {off : Int} {tgt : Nat} (hdg : decode cc pc = .ok (.if_acmp .ne off, 3)) (ht : (pc : Int) + off = (tgt : Int)) (kt : x ≠ y → W p l e R s m args below meth c H locs cells slots Q (F0 m tgt ls rest)) (kf : x = y → W p l e R s m args below meth c H locs cells slots Q (F0 m (pc + 3) ls rest)) : W p l e R s m args below meth c H locs cells slots Q (F0 m pc ls (.ref y :: .ref x :: rest)) :=
  lv_acmp_ne (rx := some x) (ry := some y) hC.1 hC.2.1 hdg ht (fun q => kt (fun z => q (by rw [z]))) (fun q => kf (by first | exact Option.some.inj q | exact Option.some.inj (Classical.not_not.mp q)))
end XROW6
section XROW7
variable {p : Program} {l : Launch} {e : Env} {R : Room} {s : State} {m : MethodId} {args : Array Value} {below : List Frame} {meth : Method} {c : Code} {H : Heap} {locs : List Loc} {cells slots : Nat} {Q : State → Prop}
variable {cc : ByteArray} {pc nL idx a : Nat} {ls : Array Slot} {st rest : List Value} {G : xG} {A : Nat → Prop} {M : HM} {own nm : String} {Ts : List Cond} {ret : Option FieldType} {z : Int}
/-- a switch, the number known -/
theorem x_tsw (hC : xB p s m args meth c cc nL own nm Ts ret G A) {dflt lo hi : Int} {offs : Array Int} {len : Nat} {off : Int} {tgt : Nat} {k : Int} (hz : z = k) (hdg : decode cc pc = .ok (.tableswitch dflt lo hi offs, len)) (h1 : lo ≤ k ∧ k ≤ hi) (h2 : -2147483648 ≤ k ∧ k ≤ 2147483647) (ho : offs[(k - lo).toNat]? = some off) (ht : (pc : Int) + off = (tgt : Int))
    (kk : W p l e R s m args below meth c H locs cells slots Q (F0 m tgt ls rest)) : W p l e R s m args below meth c H locs cells slots Q (F0 m pc ls (.int (iN z) :: rest)) := by
  subst hz
  exact lv_tableIn hC.1 hC.2.1 hdg (by rw [iN_toInt h2]; omega) (by rw [iN_toInt h2]; omega) (by rw [iN_toInt h2]; exact ho) ht kk
theorem x_tswd (hC : xB p s m args meth c cc nL own nm Ts ret G A) {dflt lo hi : Int} {offs : Array Int} {len : Nat} {tgt : Nat} (h2 : rI z) (hdg : decode cc pc = .ok (.tableswitch dflt lo hi offs, len)) (h1 : z < lo ∨ hi < z) (ht : (pc : Int) + dflt = (tgt : Int))
    (kk : W p l e R s m args below meth c H locs cells slots Q (F0 m tgt ls rest)) : W p l e R s m args below meth c H locs cells slots Q (F0 m pc ls (.int (iN z) :: rest)) :=
  lv_tableOut hC.1 hC.2.1 hdg (by rw [iN_toInt h2]; exact h1) ht kk
end XROW7
theorem xlit_Rangeledger_106 : ("Rangeledger", 106, "several keys have the value", [115, 101, 118, 101, 114, 97, 108, 32, 107, 101, 121, 115, 32, 104, 97, 118, 101, 32, 116, 104, 101, 32, 118, 97, 108, 117, 101]) ∈ xLits := by decide +kernel
theorem xlit_Rangeledger_190 : ("Rangeledger", 190, "nothing is at hand", [110, 111, 116, 104, 105, 110, 103, 32, 105, 115, 32, 97, 116, 32, 104, 97, 110, 100]) ∈ xLits := by decide +kernel
theorem xlit_Rangeledger_196 : ("Rangeledger", 196, "no step came to a pair that is not dropped", [110, 111, 32, 115, 116, 101, 112, 32, 99, 97, 109, 101, 32, 116, 111, 32, 97, 32, 112, 97, 105, 114, 32, 116, 104, 97, 116, 32, 105, 115, 32, 110, 111, 116, 32, 100, 114, 111, 112, 112, 101, 100]) ∈ xLits := by decide +kernel
theorem xlit_Rangeledger_232 : ("Rangeledger", 232, "place is below 0", [112, 108, 97, 99, 101, 32, 105, 115, 32, 98, 101, 108, 111, 119, 32, 48]) ∈ xLits := by decide +kernel
theorem xlit_Rangeledger_311 : ("Rangeledger", 311, "no such book", [110, 111, 32, 115, 117, 99, 104, 32, 98, 111, 111, 107]) ∈ xLits := by decide +kernel
theorem xlit_Rangeledger_314 : ("Rangeledger", 314, "no such view is open", [110, 111, 32, 115, 117, 99, 104, 32, 118, 105, 101, 119, 32, 105, 115, 32, 111, 112, 101, 110]) ∈ xLits := by decide +kernel
theorem xlit_Rangeledger_316 : ("Rangeledger", 316, "there is no walk, or it is broken", [116, 104, 101, 114, 101, 32, 105, 115, 32, 110, 111, 32, 119, 97, 108, 107, 44, 32, 111, 114, 32, 105, 116, 32, 105, 115, 32, 98, 114, 111, 107, 101, 110]) ∈ xLits := by decide +kernel
theorem xlit_Rangeledger_321 : ("Rangeledger", 321, "4 views are open", [52, 32, 118, 105, 101, 119, 115, 32, 97, 114, 101, 32, 111, 112, 101, 110]) ∈ xLits := by decide +kernel
theorem xlit_Rangeledger_323 : ("Rangeledger", 323, "a key is not 0 to 99", [97, 32, 107, 101, 121, 32, 105, 115, 32, 110, 111, 116, 32, 48, 32, 116, 111, 32, 57, 57]) ∈ xLits := by decide +kernel
theorem xlit_Rangeledger_325 : ("Rangeledger", 325, "a value is not -9999 to 9999", [97, 32, 118, 97, 108, 117, 101, 32, 105, 115, 32, 110, 111, 116, 32, 45, 57, 57, 57, 57, 32, 116, 111, 32, 57, 57, 57, 57]) ∈ xLits := by decide +kernel
theorem xlit_Rangeledger_327 : ("Rangeledger", 327, "what is not one of those told", [119, 104, 97, 116, 32, 105, 115, 32, 110, 111, 116, 32, 111, 110, 101, 32, 111, 102, 32, 116, 104, 111, 115, 101, 32, 116, 111, 108, 100]) ∈ xLits := by decide +kernel
theorem xlit_Rangeledger_329 : ("Rangeledger", 329, "both books are the same", [98, 111, 116, 104, 32, 98, 111, 111, 107, 115, 32, 97, 114, 101, 32, 116, 104, 101, 32, 115, 97, 109, 101]) ∈ xLits := by decide +kernel
theorem xlit_Rangeledger_88 : ("Rangeledger", 88, "by is not -999 to 999", [98, 121, 32, 105, 115, 32, 110, 111, 116, 32, 45, 57, 57, 57, 32, 116, 111, 32, 57, 57, 57]) ∈ xLits := by decide +kernel
theorem xlit_Rangeledger_96 : ("Rangeledger", 96, "by is not 2 to 99", [98, 121, 32, 105, 115, 32, 110, 111, 116, 32, 50, 32, 116, 111, 32, 57, 57]) ∈ xLits := by decide +kernel
theorem xlit_Rangeledger_Book_130 : ("Rangeledger$Book", 130, ", ", [44, 32]) ∈ xLits := by decide +kernel
theorem xlit_RangeledgerModel_104 : ("RangeledgerModel", 104, ", ", [44, 32]) ∈ xLits := by decide +kernel
theorem xlit_RangeledgerModel_113 : ("RangeledgerModel", 113, "=", [61]) ∈ xLits := by decide +kernel
theorem xlit_RangeledgerModel_119 : ("RangeledgerModel", 119, "}", [125]) ∈ xLits := by decide +kernel
theorem xlit_RangeledgerModel_210 : ("RangeledgerModel", 210, "", []) ∈ xLits := by decide +kernel
theorem xlit_RangeledgerModel_91 : ("RangeledgerModel", 91, "{", [123]) ∈ xLits := by decide +kernel
theorem xlit_java_util_Arrays_337 : ("java/util/Arrays", 337, " > ", [32, 62, 32]) ∈ xLits := by decide +kernel
