/-! rows over maps -/
section XROW
variable {p : Program} {l : Launch} {e : Env} {R : Room} {s : State} {m : MethodId} {args : Array Value} {below : List Frame} {meth : Method} {c : Code} {H : Heap} {locs : List Loc} {cells slots : Nat} {Q : State → Prop}
variable {cc : ByteArray} {pc nL : Nat} {ls : Array Slot} {st rest : List Value} {G : xG} {A : Nat → Prop} {a : Nat} {M : HM} {own nm : String} {Ts : List Cond} {ret : Option FieldType}
variable {C cref : String} {T : u_T} {N ci idx : Nat} {fs fs2 : List Value} {v : Value} {z : Int}
theorem x_get (hC : xB p s m args meth c cc nL own nm Ts ret G A) (hw : xD G A s M H locs) (he : M a = some (.inr (ci, fs))) (hc : vwCl[ci]? = some (C, T, N)) (hin : ∀ w ∈ u_ws C T N, w ∈ Ts) (k : Nat) (hk : k < N) (hlink : Cond.fieldLink own idx (T k).1 (T k).2.1 (T k).2.2.1 ∈ Ts) (hv : fs[k]? = some v) (hdg : decode cc pc = .ok (.getfield idx, 3))
    (kk : W p l e R s m args below meth c H locs cells slots Q (F0 m (pc + 3) ls (v :: rest))) : W p l e R s m args below meth c H locs cells slots Q (F0 m pc ls (.ref a :: rest)) := by
  obtain ⟨L, q, h1, h2, h3, h4, h5, h6⟩ := hw.1.get he
  exact va_get (D := G.1) hC.1 hC.2.1 hC.2.2.2.2.1 hin hC.2.2.2.1 hC.2.2.2.2.2.2.2.2.1.1 h2 q h5 hc k hk (hC.2.2.2.2.1 _ hlink) (fun _ h => h) hv hdg kk
theorem x_put (hC : xB p s m args meth c cc nL own nm Ts ret G A) (hw : xD G A s M H locs) (he : M a = some (.inr (ci, fs))) (hc : vwCl[ci]? = some (C, T, N)) (hin : ∀ w ∈ u_ws C T N, w ∈ Ts) (ty0 : Nat → FieldType) (hty : ∀ k, k < N → parseFieldDescriptor (T k).2.2.1 = some (ty0 k)) (hnm : ∀ a, a < N → ∀ b, b < N → a ≠ b → (T a).2.1 ≠ (T b).2.1)
    (k : Nat) (hk : k < N) (hlink : Cond.fieldLink own idx (T k).1 (T k).2.1 (T k).2.2.1 ∈ Ts) (hfin : (T k).2.2.2 = false) (hn : narrow (ty0 k) v = v) (hfit : fits (ty0 k) v = true) (hl : k < fs.length) (hfs : fs.set k v = fs2) (hdg : decode cc pc = .ok (.putfield idx, 3))
    (kk : ∀ (H1 : Heap) (locs1 : List Loc), xD G A s (va_up M a (some (.inr (ci, fs2)))) H1 locs1 → W p l e R s m args below meth c H1 locs1 cells slots Q (F0 m (pc + 3) ls rest)) : W p l e R s m args below meth c H locs cells slots Q (F0 m pc ls (v :: .ref a :: rest)) := by
  subst hfs
  obtain ⟨L, q, h1, h2, h3, h4, h5, h6⟩ := hw.1.get he
  refine va_put (D := G.1) hC.1 hC.2.1 hC.2.2.2.2.1 hin ty0 hty hnm hC.2.2.2.1 hC.2.2.2.2.2.2.2.2.1.1 h2 h3 hw.2 q h5 hc k hk (hC.2.2.2.2.1 _ hlink) (fun _ h => h) hfin (hty k hk) hn hfit hl hdg (fun H1 locs1 g1 g2 g3 => ?_)
  rw [h6] at g1 g2
  exact kk H1 locs1 ⟨xPW.of h1 he g1 g2, g3⟩
theorem x_putF (hC : xB p s m args meth c cc nL own "<init>" Ts ret G A) (hw : xD G A s M H locs) (he : M a = some (.inr (ci, fs))) (hc : vwCl[ci]? = some (C, T, N)) (hin : ∀ w ∈ u_ws C T N, w ∈ Ts) (ty0 : Nat → FieldType) (hty : ∀ k, k < N → parseFieldDescriptor (T k).2.2.1 = some (ty0 k)) (hnm : ∀ a, a < N → ∀ b, b < N → a ≠ b → (T a).2.1 ≠ (T b).2.1)
    (k : Nat) (hk : k < N) (hlink : Cond.fieldLink own idx (T k).1 (T k).2.1 (T k).2.2.1 ∈ Ts) (hfin : (T k).2.2.2 = true) (hdecl : (T k).1 = own) (hn : narrow (ty0 k) v = v) (hfit : fits (ty0 k) v = true) (hl : k < fs.length) (hfs : fs.set k v = fs2) (hdg : decode cc pc = .ok (.putfield idx, 3))
    (kk : ∀ (H1 : Heap) (locs1 : List Loc), xD G A s (va_up M a (some (.inr (ci, fs2)))) H1 locs1 → W p l e R s m args below meth c H1 locs1 cells slots Q (F0 m (pc + 3) ls rest)) : W p l e R s m args below meth c H locs cells slots Q (F0 m pc ls (v :: .ref a :: rest)) := by
  subst hfs
  obtain ⟨L, q, h1, h2, h3, h4, h5, h6⟩ := hw.1.get he
  refine va_putF (D := G.1) hC.1 hC.2.1 hC.2.2.2.2.1 hin ty0 hty hnm hC.2.2.2.1 hC.2.2.2.2.2.2.2.2.1.1 h2 h3 hw.2 q h5 hc k hk (hC.2.2.2.2.1 _ hlink) (fun _ h => h) hfin hC.2.2.2.2.2.2.2.1 hdecl (hty k hk) hn hfit hl hdg (fun H1 locs1 g1 g2 g3 => ?_)
  rw [h6] at g1 g2
  exact kk H1 locs1 ⟨xPW.of h1 he g1 g2, g3⟩
theorem x_iald (hC : xB p s m args meth c cc nL own nm Ts ret G A) (hw : xD G A s M H locs) {n : Nat} {f : Nat → Int32} (he : M a = some (.inl (G.2 1, n, .inl f))) (h0 : 0 ≤ z) (h1 : z ≤ 2147483647) (h2 : z < n) (hdg : decode cc pc = .ok (.iaload, 1))
    (kk : W p l e R s m args below meth c H locs cells slots Q (F0 m (pc + 1) ls (.int (iN (f z.toNat).toInt) :: rest))) : W p l e R s m args below meth c H locs cells slots Q (F0 m pc ls (.int (iN z) :: .ref a :: rest)) := by
  obtain ⟨L, q, g1, g2, g3, g4, g5, g6⟩ := hw.1.get he
  refine va_iald (D := G.1) hC.1 hC.2.1 hC.2.2.2.2.2.2.2.2.1.1 g2 q 1 g5 rfl (iN_in h0 h1 h2) hdg ?_
  rw [iN_clamp h0 h1]
  rw [iN_asI] at kk
  exact kk
theorem x_iast (hC : xB p s m args meth c cc nL own nm Ts ret G A) (hw : xD G A s M H locs) {n : Nat} {f : Nat → Int32} {x : Int32} (he : M a = some (.inl (G.2 1, n, .inl f))) (h0 : 0 ≤ z) (h1 : z ≤ 2147483647) (h2 : z < n) (hdg : decode cc pc = .ok (.iastore, 1))
    (kk : ∀ (H1 : Heap) (locs1 : List Loc), xD G A s (va_up M a (some (.inl (G.2 1, n, .inl (upd f z.toNat x))))) H1 locs1 → W p l e R s m args below meth c H1 locs1 cells slots Q (F0 m (pc + 1) ls rest)) : W p l e R s m args below meth c H locs cells slots Q (F0 m pc ls (.int x :: .int (iN z) :: .ref a :: rest)) := by
  obtain ⟨L, q, g1, g2, g3, g4, g5, g6⟩ := hw.1.get he
  refine va_iast (D := G.1) hC.1 hC.2.1 hC.2.2.2.2.2.2.2.2.1.1 g2 g3 hw.2 q 1 g5 rfl (iN_in h0 h1 h2) hdg (fun H1 locs1 k1 k2 k3 => ?_)
  rw [iN_clamp h0 h1, g6] at k1 k2
  exact kk H1 locs1 ⟨xPW.of g1 he k1 k2, k3⟩
theorem x_alen (hC : xB p s m args meth c cc nL own nm Ts ret G A) (hw : xD G A s M H locs) (t0 : Nat) {n : Nat} {x : _} {ty : FieldType} (he : M a = some (.inl (G.2 t0, n, x))) (ht : (xTy G.2)[t0]? = some (G.2 t0, ty)) (hdg : decode cc pc = .ok (.arraylength, 1))
    (kk : W p l e R s m args below meth c H locs cells slots Q (F0 m (pc + 1) ls (.int (iN n) :: rest))) : W p l e R s m args below meth c H locs cells slots Q (F0 m pc ls (.ref a :: rest)) := by
  obtain ⟨L, q, g1, g2, g3, g4, g5, g6⟩ := hw.1.get he
  exact va_alen (D := G.1) hC.1 hC.2.1 hC.2.2.2.2.2.2.2.2.1.1 g2 q t0 g5 ht (iN_nat n) hdg kk
theorem x_new (hC : xB p s m args meth c cc nL own nm Ts ret G A) (hw : xD G A s M H locs) (hc : vwCl[ci]? = some (C, T, N)) (hin : ∀ w ∈ u_ws C T N, w ∈ Ts) (ty : Nat → FieldType) (hty : ∀ k, k < N → parseFieldDescriptor (T k).2.2.1 = some (ty k)) (h1 : Cond.classLink own idx C ∈ Ts) (h2 : Cond.instantiable C N ∈ Ts) (h3 : Cond.initialized C ∈ Ts)
    (hfs : ∀ j, j < N → defaultValue (ty j) = vp_V fs j) (hcells : cells + 1 ≤ R.cells) (hslots : slots + N ≤ R.slots) (hdg : decode cc pc = .ok (.new idx, 3))
    (kk : ∀ (q : Nat) (H1 : Heap), M q = none → xD G A s (va_up M q (some (.inr (ci, fs)))) H1 locs → W p l e R s m args below meth c H1 locs (cells + 1) (slots + N) Q (F0 m (pc + 3) ls (.ref q :: rest))) : W p l e R s m args below meth c H locs cells slots Q (F0 m pc ls rest) := by
  obtain ⟨L, g1, g2, g3⟩ := hw.1
  refine va_new (D := G.1) hC.1 hC.2.1 hC.2.2.2.2.1 hin ty hty hC.2.2.2.1 (hC.2.2.2.2.1 _ h1) (hC.2.2.2.2.1 _ h2) (hC.2.2.2.2.1 _ h3) hC.2.2.2.2.2.2.2.2.1.1 g2 g3 hw.2 hC.2.2.2.2.2.2.2.2.2 hc hfs hcells hslots hdg (fun q H1 k1 k2 k3 => ?_)
  obtain ⟨e1, e2⟩ := xPW.new g1 k1 k2
  exact kk q H1 e1 ⟨e2, k3⟩
/-- a new int row -/
theorem x_newI (hC : xB p s m args meth c cc nL own nm Ts ret G A) (hw : xD G A s M H locs) (h1 : Cond.arrayClass .int ∈ Ts) (n : Nat) (hz : z = n) (hn : n ≤ 100000) (hcells : cells + 1 ≤ R.cells) (hslots : slots + n ≤ R.slots) (hdg : decode cc pc = .ok (.newarray .int, 2))
    (kk : ∀ (q : Nat) (H1 : Heap), M q = none → xD G A s (va_up M q (some (.inl (G.2 1, n, .inl (fun _ => 0))))) H1 locs → W p l e R s m args below meth c H1 locs (cells + 1) (slots + n) Q (F0 m (pc + 2) ls (.ref q :: rest))) : W p l e R s m args below meth c H locs cells slots Q (F0 m pc ls (.int (iN z) :: rest)) := by
  obtain ⟨L, g1, g2, g3⟩ := hw.1
  subst hz
  have e0 : (iN (n : Int)).toNatClampNeg = n := by rw [iN_clamp (by omega) (by omega)]; omega
  refine va_newa (D := G.1) (atype := .int) (ty := .int) (N' := n) (a0 := (n, .inl (fun _ => 0))) hC.1 hC.2.1 (hC.2.2.2.2.1 _ h1) rfl hC.2.2.2.2.2.2.2.2.1.1 g2 g3 hw.2 hC.2.2.2.2.2.2.2.2.2 (fun cA => rfl) (fun q => ?_) e0 (by show n * 4 ≤ _; omega) hcells hslots hdg (fun q cA H1 k0 k1 k2 k3 => ?_)
  · rw [← iN_0, iN_lt ⟨by omega, by omega⟩ ⟨by omega, by omega⟩] at q
    omega
  · have e1 : cA = G.2 1 := by
      have h8 := (k0.2 5 (cA, .int) rfl).2
      have h9 := (hC.2.2.2.2.2.2.2.2.1.1.2 1 (G.2 1, .int) rfl).2
      exact Option.some.inj (h8.symm.trans h9)
    subst e1
    obtain ⟨e1, e2⟩ := xPW.new g1 k1 k2
    exact kk q H1 e1 ⟨e2, k3⟩
/-- numbers -/
theorem x_const (hC : xB p s m args meth c cc nL own nm Ts ret G A) {n : Int} (hdg : decode cc pc = .ok (.iconst n, 1)) (kk : W p l e R s m args below meth c H locs cells slots Q (F0 m (pc + 1) ls (.int (iN n) :: rest))) : W p l e R s m args below meth c H locs cells slots Q (F0 m pc ls rest) := lv_iconst hC.1 hC.2.1 hdg rfl kk
theorem x_bipush (hC : xB p s m args meth c cc nL own nm Ts ret G A) {n : Int} (hdg : decode cc pc = .ok (.bipush n, 2)) (hv : (Int8.ofInt n).toInt32 = iN n) (kk : W p l e R s m args below meth c H locs cells slots Q (F0 m (pc + 2) ls (.int (iN n) :: rest))) : W p l e R s m args below meth c H locs cells slots Q (F0 m pc ls rest) := lv_bipush hC.1 hC.2.1 hdg hv kk
theorem x_sipush (hC : xB p s m args meth c cc nL own nm Ts ret G A) {n : Int} (hdg : decode cc pc = .ok (.sipush n, 3)) (hv : (Int16.ofInt n).toInt32 = iN n) (kk : W p l e R s m args below meth c H locs cells slots Q (F0 m (pc + 3) ls (.int (iN n) :: rest))) : W p l e R s m args below meth c H locs cells slots Q (F0 m pc ls rest) := lv_sipush hC.1 hC.2.1 hdg hv kk
theorem x_iadd (hC : xB p s m args meth c cc nL own nm Ts ret G A) {x y : Int} (hdg : decode cc pc = .ok (.iadd, 1)) (kk : W p l e R s m args below meth c H locs cells slots Q (F0 m (pc + 1) ls (.int (iN (x + y)) :: rest))) : W p l e R s m args below meth c H locs cells slots Q (F0 m pc ls (.int (iN y) :: .int (iN x) :: rest)) := lv_iadd hC.1 hC.2.1 hdg (by rw [iN_add]; exact kk)
theorem x_isub (hC : xB p s m args meth c cc nL own nm Ts ret G A) {x y : Int} (hdg : decode cc pc = .ok (.isub, 1)) (kk : W p l e R s m args below meth c H locs cells slots Q (F0 m (pc + 1) ls (.int (iN (x - y)) :: rest))) : W p l e R s m args below meth c H locs cells slots Q (F0 m pc ls (.int (iN y) :: .int (iN x) :: rest)) := lv_isub hC.1 hC.2.1 hdg (by rw [iN_sub]; exact kk)
theorem x_imul (hC : xB p s m args meth c cc nL own nm Ts ret G A) {x y : Int} (hdg : decode cc pc = .ok (.imul, 1)) (kk : W p l e R s m args below meth c H locs cells slots Q (F0 m (pc + 1) ls (.int (iN (x * y)) :: rest))) : W p l e R s m args below meth c H locs cells slots Q (F0 m pc ls (.int (iN y) :: .int (iN x) :: rest)) := lv_imul hC.1 hC.2.1 hdg (by rw [iN_mul]; exact kk)
theorem x_ineg (hC : xB p s m args meth c cc nL own nm Ts ret G A) {x : Int} (hdg : decode cc pc = .ok (.ineg, 1)) (kk : W p l e R s m args below meth c H locs cells slots Q (F0 m (pc + 1) ls (.int (iN (-x)) :: rest))) : W p l e R s m args below meth c H locs cells slots Q (F0 m pc ls (.int (iN x) :: rest)) := lv_ineg hC.1 hC.2.1 hdg (by rw [iN_neg]; exact kk)
theorem x_idiv (hC : xB p s m args meth c cc nL own nm Ts ret G A) {x y : Int} (hx : rI x) (hy : rI y) (h0 : y ≠ 0) (h1 : y ≠ -1) (hdg : decode cc pc = .ok (.idiv, 1)) (kk : W p l e R s m args below meth c H locs cells slots Q (F0 m (pc + 1) ls (.int (iN (x.tdiv y)) :: rest))) : W p l e R s m args below meth c H locs cells slots Q (F0 m pc ls (.int (iN y) :: .int (iN x) :: rest)) := lv_idiv hC.1 hC.2.1 hdg (fun q => h0 ((iN_eq hy ⟨by decide, by decide⟩).mp q)) (by rw [iN_div hx hy h0 h1]; exact kk)
theorem x_irem (hC : xB p s m args meth c cc nL own nm Ts ret G A) {x y : Int} (hx : rI x) (hy : rI y) (h0 : y ≠ 0) (h1 : y ≠ -1) (hdg : decode cc pc = .ok (.irem, 1)) (kk : W p l e R s m args below meth c H locs cells slots Q (F0 m (pc + 1) ls (.int (iN (x.tmod y)) :: rest))) : W p l e R s m args below meth c H locs cells slots Q (F0 m pc ls (.int (iN y) :: .int (iN x) :: rest)) := lv_irem hC.1 hC.2.1 hdg (fun q => h0 ((iN_eq hy ⟨by decide, by decide⟩).mp q)) (by rw [iN_rem hx hy h0 h1]; exact kk)
/-- the same for a number that isn't below 0 -/
theorem x_idivN (hC : xB p s m args meth c cc nL own nm Ts ret G A) {x y : Int} (h2 : 0 ≤ x) (h3 : x ≤ 2147483647) (h4 : 0 < y) (h5 : y ≤ 2147483647) (hdg : decode cc pc = .ok (.idiv, 1)) (kk : W p l e R s m args below meth c H locs cells slots Q (F0 m (pc + 1) ls (.int (iN (x / y)) :: rest))) : W p l e R s m args below meth c H locs cells slots Q (F0 m pc ls (.int (iN y) :: .int (iN x) :: rest)) := x_idiv hC ⟨by omega, h3⟩ ⟨by omega, h5⟩ (by omega) (by omega) hdg (by rw [Int.tdiv_eq_ediv_of_nonneg h2]; exact kk)
theorem x_iremN (hC : xB p s m args meth c cc nL own nm Ts ret G A) {x y : Int} (h2 : 0 ≤ x) (h3 : x ≤ 2147483647) (h4 : 0 < y) (h5 : y ≤ 2147483647) (hdg : decode cc pc = .ok (.irem, 1)) (kk : W p l e R s m args below meth c H locs cells slots Q (F0 m (pc + 1) ls (.int (iN (x % y)) :: rest))) : W p l e R s m args below meth c H locs cells slots Q (F0 m pc ls (.int (iN y) :: .int (iN x) :: rest)) := x_irem hC ⟨by omega, h3⟩ ⟨by omega, h5⟩ (by omega) (by omega) hdg (by rw [Int.tmod_eq_emod_of_nonneg h2]; exact kk)
theorem x_iinc (hC : xB p s m args meth c cc nL own nm Ts ret G A) {i k : Nat} {n x : Int} {lv lv' : List (Nat × Value)} (hdg : decode cc pc = .ok (.iinc i n, 3)) (h : lv_has ls nL lv) (hk : lv[k]? = some (i, .int (iN x))) (hn : i < nL) (hl : (i, Value.int (iN (x + n))) :: lv.filter (fun q => !(q.1 == i) && !(q.1 + 1 == i && q.2.category == 2)) = lv')
    (kk : ∀ ls' : Array Slot, lv_has ls' nL lv' → W p l e R s m args below meth c H locs cells slots Q (F0 m (pc + 3) ls' rest)) : W p l e R s m args below meth c H locs cells slots Q (F0 m pc ls rest) := lv_iinc hC.1 hC.2.1 hdg h hk (iN_add x n) hn hl kk
theorem x_icmp_lt (hC : xB p s m args meth c cc nL own nm Ts ret G A) {x y : Int} {off : Int} {tgt : Nat} (hx : rI x) (hy : rI y) (hdg : decode cc pc = .ok (.if_icmp .lt off, 3)) (ht : (pc : Int) + off = (tgt : Int)) (kt : x < y → W p l e R s m args below meth c H locs cells slots Q (F0 m tgt ls rest)) (kf : y ≤ x → W p l e R s m args below meth c H locs cells slots Q (F0 m (pc + 3) ls rest)) : W p l e R s m args below meth c H locs cells slots Q (F0 m pc ls (.int (iN y) :: .int (iN x) :: rest)) := lv_icmp_lt hC.1 hC.2.1 hdg ht (fun q => kt ((iN_lt hx hy).mp q)) (fun q => kf (by rw [iN_lt hx hy] at q; omega))
theorem x_icmp_ge (hC : xB p s m args meth c cc nL own nm Ts ret G A) {x y : Int} {off : Int} {tgt : Nat} (hx : rI x) (hy : rI y) (hdg : decode cc pc = .ok (.if_icmp .ge off, 3)) (ht : (pc : Int) + off = (tgt : Int)) (kt : y ≤ x → W p l e R s m args below meth c H locs cells slots Q (F0 m tgt ls rest)) (kf : x < y → W p l e R s m args below meth c H locs cells slots Q (F0 m (pc + 3) ls rest)) : W p l e R s m args below meth c H locs cells slots Q (F0 m pc ls (.int (iN y) :: .int (iN x) :: rest)) := lv_icmp_ge hC.1 hC.2.1 hdg ht (fun q => kt ((iN_le hy hx).mp q)) (fun q => kf (by rw [iN_le hy hx] at q; omega))
theorem x_icmp_gt (hC : xB p s m args meth c cc nL own nm Ts ret G A) {x y : Int} {off : Int} {tgt : Nat} (hx : rI x) (hy : rI y) (hdg : decode cc pc = .ok (.if_icmp .gt off, 3)) (ht : (pc : Int) + off = (tgt : Int)) (kt : y < x → W p l e R s m args below meth c H locs cells slots Q (F0 m tgt ls rest)) (kf : x ≤ y → W p l e R s m args below meth c H locs cells slots Q (F0 m (pc + 3) ls rest)) : W p l e R s m args below meth c H locs cells slots Q (F0 m pc ls (.int (iN y) :: .int (iN x) :: rest)) := lv_icmp_gt hC.1 hC.2.1 hdg ht (fun q => kt ((iN_lt hy hx).mp q)) (fun q => kf (by rw [iN_lt hy hx] at q; omega))
theorem x_icmp_le (hC : xB p s m args meth c cc nL own nm Ts ret G A) {x y : Int} {off : Int} {tgt : Nat} (hx : rI x) (hy : rI y) (hdg : decode cc pc = .ok (.if_icmp .le off, 3)) (ht : (pc : Int) + off = (tgt : Int)) (kt : x ≤ y → W p l e R s m args below meth c H locs cells slots Q (F0 m tgt ls rest)) (kf : y < x → W p l e R s m args below meth c H locs cells slots Q (F0 m (pc + 3) ls rest)) : W p l e R s m args below meth c H locs cells slots Q (F0 m pc ls (.int (iN y) :: .int (iN x) :: rest)) := lv_icmp_le hC.1 hC.2.1 hdg ht (fun q => kt ((iN_le hx hy).mp q)) (fun q => kf (by rw [iN_le hx hy] at q; omega))
theorem x_icmp_eq (hC : xB p s m args meth c cc nL own nm Ts ret G A) {x y : Int} {off : Int} {tgt : Nat} (hx : rI x) (hy : rI y) (hdg : decode cc pc = .ok (.if_icmp .eq off, 3)) (ht : (pc : Int) + off = (tgt : Int)) (kt : x = y → W p l e R s m args below meth c H locs cells slots Q (F0 m tgt ls rest)) (kf : x ≠ y → W p l e R s m args below meth c H locs cells slots Q (F0 m (pc + 3) ls rest)) : W p l e R s m args below meth c H locs cells slots Q (F0 m pc ls (.int (iN y) :: .int (iN x) :: rest)) := lv_icmp_eq hC.1 hC.2.1 hdg ht (fun q => kt ((iN_eq hx hy).mp q)) (fun q => kf (fun z => q ((iN_eq hx hy).mpr z)))
theorem x_icmp_ne (hC : xB p s m args meth c cc nL own nm Ts ret G A) {x y : Int} {off : Int} {tgt : Nat} (hx : rI x) (hy : rI y) (hdg : decode cc pc = .ok (.if_icmp .ne off, 3)) (ht : (pc : Int) + off = (tgt : Int)) (kt : x ≠ y → W p l e R s m args below meth c H locs cells slots Q (F0 m tgt ls rest)) (kf : x = y → W p l e R s m args below meth c H locs cells slots Q (F0 m (pc + 3) ls rest)) : W p l e R s m args below meth c H locs cells slots Q (F0 m pc ls (.int (iN y) :: .int (iN x) :: rest)) := lv_icmp_ne hC.1 hC.2.1 hdg ht (fun q => kt (fun z => q ((iN_eq hx hy).mpr z))) (fun q => kf ((iN_eq hx hy).mp (by first | exact q | exact Classical.not_not.mp q)))
end XROW
section XROW2
variable {p : Program} {l : Launch} {e : Env} {R : Room} {s : State} {m : MethodId} {args : Array Value} {below : List Frame} {meth : Method} {c : Code} {H : Heap} {locs : List Loc} {cells slots : Nat} {Q : State → Prop}
variable {cc : ByteArray} {pc nL : Nat} {ls : Array Slot} {st rest : List Value} {G : xG} {A : Nat → Prop} {a : Nat} {M : HM} {own nm : String} {Ts : List Cond} {ret : Option FieldType}
theorem rI0 : rI 0 := ⟨by decide, by decide⟩
theorem x_if_lt (hC : xB p s m args meth c cc nL own nm Ts ret G A) {x : Int} {off : Int} {tgt : Nat} (hx : rI x) (hdg : decode cc pc = .ok (.ifCond .lt off, 3)) (ht : (pc : Int) + off = (tgt : Int)) (kt : x < 0 → W p l e R s m args below meth c H locs cells slots Q (F0 m tgt ls rest)) (kf : 0 ≤ x → W p l e R s m args below meth c H locs cells slots Q (F0 m (pc + 3) ls rest)) : W p l e R s m args below meth c H locs cells slots Q (F0 m pc ls (.int (iN x) :: rest)) := lv_if_lt hC.1 hC.2.1 hdg ht (fun q => kt ((iN_lt hx rI0).mp q)) (fun q => kf (by rw [← iN_0, iN_lt hx rI0] at q; omega))
theorem x_if_ge (hC : xB p s m args meth c cc nL own nm Ts ret G A) {x : Int} {off : Int} {tgt : Nat} (hx : rI x) (hdg : decode cc pc = .ok (.ifCond .ge off, 3)) (ht : (pc : Int) + off = (tgt : Int)) (kt : 0 ≤ x → W p l e R s m args below meth c H locs cells slots Q (F0 m tgt ls rest)) (kf : x < 0 → W p l e R s m args below meth c H locs cells slots Q (F0 m (pc + 3) ls rest)) : W p l e R s m args below meth c H locs cells slots Q (F0 m pc ls (.int (iN x) :: rest)) := lv_if_ge hC.1 hC.2.1 hdg ht (fun q => kt ((iN_le rI0 hx).mp q)) (fun q => kf (by rw [← iN_0, iN_le rI0 hx] at q; omega))
theorem x_if_gt (hC : xB p s m args meth c cc nL own nm Ts ret G A) {x : Int} {off : Int} {tgt : Nat} (hx : rI x) (hdg : decode cc pc = .ok (.ifCond .gt off, 3)) (ht : (pc : Int) + off = (tgt : Int)) (kt : 0 < x → W p l e R s m args below meth c H locs cells slots Q (F0 m tgt ls rest)) (kf : x ≤ 0 → W p l e R s m args below meth c H locs cells slots Q (F0 m (pc + 3) ls rest)) : W p l e R s m args below meth c H locs cells slots Q (F0 m pc ls (.int (iN x) :: rest)) := lv_if_gt hC.1 hC.2.1 hdg ht (fun q => kt ((iN_lt rI0 hx).mp q)) (fun q => kf (by rw [← iN_0, iN_lt rI0 hx] at q; omega))
theorem x_if_le (hC : xB p s m args meth c cc nL own nm Ts ret G A) {x : Int} {off : Int} {tgt : Nat} (hx : rI x) (hdg : decode cc pc = .ok (.ifCond .le off, 3)) (ht : (pc : Int) + off = (tgt : Int)) (kt : x ≤ 0 → W p l e R s m args below meth c H locs cells slots Q (F0 m tgt ls rest)) (kf : 0 < x → W p l e R s m args below meth c H locs cells slots Q (F0 m (pc + 3) ls rest)) : W p l e R s m args below meth c H locs cells slots Q (F0 m pc ls (.int (iN x) :: rest)) := lv_if_le hC.1 hC.2.1 hdg ht (fun q => kt ((iN_le hx rI0).mp q)) (fun q => kf (by rw [← iN_0, iN_le hx rI0] at q; omega))
theorem x_if_eq (hC : xB p s m args meth c cc nL own nm Ts ret G A) {x : Int} {off : Int} {tgt : Nat} (hx : rI x) (hdg : decode cc pc = .ok (.ifCond .eq off, 3)) (ht : (pc : Int) + off = (tgt : Int)) (kt : x = 0 → W p l e R s m args below meth c H locs cells slots Q (F0 m tgt ls rest)) (kf : x ≠ 0 → W p l e R s m args below meth c H locs cells slots Q (F0 m (pc + 3) ls rest)) : W p l e R s m args below meth c H locs cells slots Q (F0 m pc ls (.int (iN x) :: rest)) := lv_if_eq hC.1 hC.2.1 hdg ht (fun q => kt ((iN_eq hx rI0).mp q)) (fun q => kf (fun z => q ((iN_eq hx rI0).mpr z)))
theorem x_if_ne (hC : xB p s m args meth c cc nL own nm Ts ret G A) {x : Int} {off : Int} {tgt : Nat} (hx : rI x) (hdg : decode cc pc = .ok (.ifCond .ne off, 3)) (ht : (pc : Int) + off = (tgt : Int)) (kt : x ≠ 0 → W p l e R s m args below meth c H locs cells slots Q (F0 m tgt ls rest)) (kf : x = 0 → W p l e R s m args below meth c H locs cells slots Q (F0 m (pc + 3) ls rest)) : W p l e R s m args below meth c H locs cells slots Q (F0 m pc ls (.int (iN x) :: rest)) := lv_if_ne hC.1 hC.2.1 hdg ht (fun q => kt (fun z => q ((iN_eq hx rI0).mpr z))) (fun q => kf ((iN_eq hx rI0).mp (by first | exact q | exact Classical.not_not.mp q)))
variable {M0 : HM} {Q1 : Option Value → HM → Prop} {QX : String → HM → Prop} {mc ms : Nat}
/-- the ends -/
theorem x_iret (hC : xB p s m args meth c cc nL own nm Ts (some .int) G (xA M0 s.heap.size)) (hw : xD G (xA M0 s.heap.size) s M H locs) {v : Int32} (hdg : decode cc pc = .ok (.ireturn, 1)) (hc : cells ≤ mc) (hs : slots ≤ ms) (hq : Q1 (some (.int v)) M) : W p l e R s m args below meth c H locs cells slots (MQ below (xQc G M0 s.heap.size Q1) args s mc ms (xA M0 s.heap.size)) (F0 m pc ls [.int v]) := by
  refine W.widen hc hs ?_
  exact W.iret hC.1 hC.2.1 hC.2.2.2.2.2.1 (fun t ht hW => ⟨⟨_, M, rfl, hq, by rw [ht]; exact hw.1⟩, hw.2.F ht⟩) hw.2.2.2 hdg hC.2.2.2.2.2.2.1
theorem x_zret (hC : xB p s m args meth c cc nL own nm Ts (some .boolean) G (xA M0 s.heap.size)) (hw : xD G (xA M0 s.heap.size) s M H locs) {z : Int} (hz : z = 0 ∨ z = 1) (hdg : decode cc pc = .ok (.ireturn, 1)) (hc : cells ≤ mc) (hs : slots ≤ ms) (hq : Q1 (some (.int (iN z))) M) : W p l e R s m args below meth c H locs cells slots (MQ below (xQc G M0 s.heap.size Q1) args s mc ms (xA M0 s.heap.size)) (F0 m pc ls [.int (iN z)]) := by
  refine W.widen hc hs ?_
  exact W.zret hC.1 hC.2.1 hC.2.2.2.2.2.1 (by rcases hz with rfl | rfl <;> rfl) (fun t ht hW => ⟨⟨_, M, rfl, hq, by rw [ht]; exact hw.1⟩, hw.2.F ht⟩) hw.2.2.2 hdg hC.2.2.2.2.2.2.1
theorem x_vret (hC : xB p s m args meth c cc nL own nm Ts none G (xA M0 s.heap.size)) (hw : xD G (xA M0 s.heap.size) s M H locs) (hdg : decode cc pc = .ok (.return_, 1)) (hc : cells ≤ mc) (hs : slots ≤ ms) (hq : Q1 none M) : W p l e R s m args below meth c H locs cells slots (MQ below (xQc G M0 s.heap.size Q1) args s mc ms (xA M0 s.heap.size)) (F0 m pc ls []) := by
  refine W.widen hc hs ?_
  exact W.vret hC.1 hC.2.1 hC.2.2.2.2.2.1 (fun t ht hW => ⟨⟨_, M, rfl, hq, by rw [ht]; exact hw.1⟩, hw.2.F ht⟩) hw.2.2.2 hdg hC.2.2.2.2.2.2.1
theorem x_aret {rt : FieldType} (hC : xB p s m args meth c cc nL own nm Ts (some rt) G (xA M0 s.heap.size)) (hw : xD G (xA M0 s.heap.size) s M H locs) {v : Value} (hrt : (∃ n, rt = .object n) ∨ ∃ t, rt = .array t) (hv : v = .null ∨ ∃ a, v = .ref a) (hdg : decode cc pc = .ok (.areturn, 1)) (hc : cells ≤ mc) (hs : slots ≤ ms) (hq : Q1 (some v) M) : W p l e R s m args below meth c H locs cells slots (MQ below (xQc G M0 s.heap.size Q1) args s mc ms (xA M0 s.heap.size)) (F0 m pc ls [v]) := by
  refine W.widen hc hs ?_
  exact W.aret hC.1 hC.2.1 hC.2.2.2.2.2.1 hrt hv (fun t ht hW => ⟨⟨_, M, rfl, hq, by rw [ht]; exact hw.1⟩, hw.2.F ht⟩) hw.2.2.2 hdg hC.2.2.2.2.2.2.1
theorem x_lret (hC : xB p s m args meth c cc nL own nm Ts (some .long) G (xA M0 s.heap.size)) (hw : xD G (xA M0 s.heap.size) s M H locs) {v : Int64} (hdg : decode cc pc = .ok (.lreturn, 1)) (hc : cells ≤ mc) (hs : slots ≤ ms) (hq : Q1 (some (.long v)) M) : W p l e R s m args below meth c H locs cells slots (MQ below (xQc G M0 s.heap.size Q1) args s mc ms (xA M0 s.heap.size)) (F0 m pc ls [.long v]) := by
  refine W.widen hc hs ?_
  exact W.lret hC.1 hC.2.1 hC.2.2.2.2.2.1 (fun t ht hW => ⟨⟨_, M, rfl, hq, by rw [ht]; exact hw.1⟩, hw.2.F ht⟩) hw.2.2.2 hdg hC.2.2.2.2.2.2.1
end XROW2
/-- a body -/
theorem x_intro {l : Launch} {G : xG} {y : MethodName} {ws ws' : List Cond} {fr lo mc ms maxL : Nat} {av : List Value} {M : HM} {Q1 : Option Value → HM → Prop} {cc : ByteArray} {ret : Option FieldType} (hy : plainName y.cls = true) (hws : ws = Cond.code y cc maxL ret :: ws') (hav : (lg_sl av).length ≤ maxL)
    (body : ∀ (p : Program) (e : Env) (R : Room) (s : State) (m : MethodId) (args : Array Value) (below : List Frame) (meth : Method) (c : Code) (ls : Array Slot), R.frames = fr → R.cells = mc → R.slots = ms → R.locals = lo → xB p s m args meth c cc maxL y.cls y.name ws ret G (xA M s.heap.size) → xD G (xA M s.heap.size) s M s.heap [] → lv_has ls maxL (lv_args 0 av) →
      W p l e R s m args below meth c s.heap [] 0 0 (MQ below (xQc G M s.heap.size Q1) args s mc ms (xA M s.heap.size)) (F0 m 0 ls [])) : xMet l G y ws fr lo mc ms av M Q1 := by
  intro sz
  refine Met.ofW (cc := cc) (maxL := maxL) (ret := ret) hy hws ?_
  intro p e s m args below meth c s₁ B hml hv
  obtain ⟨rfl, hsz, hS, hP⟩ := hv
  subst hsz
  have hl := lv_entry av (n := maxL) hav
  rw [lg_entry_eq]
  exact body p e _ s m _ below meth c _ rfl rfl rfl rfl ⟨B.exec, B.bytes, hml, findClass_of_methodNamed B.named, atoms_spec B.pre, B.returns, B.notSynchronized, (name_of_methodNamed B.named B.method).1, hS, fun q h => Or.inr h⟩ ⟨hP.self _, va_S.rf⟩ hl
theorem x_introX {l : Launch} {G : xG} {y : MethodName} {ws ws' : List Cond} {fr lo mc ms maxL : Nat} {av : List Value} {M : HM} {Q1 : Option Value → HM → Prop} {QX : String → HM → Prop} {cc : ByteArray} {ret : Option FieldType} (hy : plainName y.cls = true) (hws : ws = Cond.code y cc maxL ret :: ws') (hav : (lg_sl av).length ≤ maxL)
    (body : ∀ (p : Program) (e : Env) (R : Room) (s : State) (m : MethodId) (args : Array Value) (below : List Frame) (meth : Method) (c : Code) (ls : Array Slot), R.frames = fr → R.cells = mc → R.slots = ms → R.locals = lo → (∀ x ∈ c.exceptionTable.toList, False) → xB p s m args meth c cc maxL y.cls y.name ws ret G (xA M s.heap.size) → xD G (xA M s.heap.size) s M s.heap [] → lv_has ls maxL (lv_args 0 av) →
      W p l e R s m args below meth c s.heap [] 0 0 (vx_MQ below (xQc G M s.heap.size Q1) (xXc G M s.heap.size QX) args s mc ms (xA M s.heap.size)) (F0 m 0 ls [])) : xMetX l G y ws fr lo mc ms av M Q1 QX := by
  intro sz
  refine vx_ofW (cc := cc) (maxL := maxL) (ret := ret) hy hws ?_
  intro p e s m args below meth c s₁ B hml htab hv
  obtain ⟨rfl, hsz, hS, hP⟩ := hv
  subst hsz
  have hl := lv_entry av (n := maxL) hav
  rw [lg_entry_eq]
  exact body p e _ s m _ below meth c _ rfl rfl rfl rfl htab ⟨B.exec, B.bytes, hml, findClass_of_methodNamed B.named, atoms_spec B.pre, B.returns, B.notSynchronized, (name_of_methodNamed B.named B.method).1, hS, fun q h => Or.inr h⟩ ⟨hP.self _, va_S.rf⟩ hl
/-- not caught here -/
theorem x_outX {p : Program} {l : Launch} {e : Env} {R : Room} {s : State} {m : MethodId} {args : Array Value} {below : List Frame} {meth : Method} {c : Code} {H : Heap} {locs : List Loc} {cells slots mc ms pc nL : Nat} {ls : Array Slot} {rest : List Value} {G : xG} {M M0 : HM} {cc : ByteArray} {own nm : String} {Ts : List Cond} {ret : Option FieldType} {Q1 : Option Value → HM → Prop} {QX : String → HM → Prop} {E : String} {ce : Cell} {q : Addr}
    (hC : xB p s m args meth c cc nL own nm Ts ret G (xA M0 s.heap.size)) (hw : xD G (xA M0 s.heap.size) s M H locs) (htab : ∀ x ∈ c.exceptionTable.toList, False) (hcell : H[q]? = some ce) (hv : ce.vm = .none) (hcl : s.vm.findClass E = some ce.cls) (hc : cells ≤ mc) (hs : slots ≤ ms) (hx : QX E M) :
    vx_W p l e R s m args below meth c H locs cells slots (vx_MQ below (xQc G M0 s.heap.size Q1) (xXc G M0 s.heap.size QX) args s mc ms (xA M0 s.heap.size)) (F0 m pc ls rest) q :=
  vx_out (fun x hx => (htab x hx).elim) hC.2.2.2.2.2.2.1 hcell hv hcl (fun t ht _ => ⟨⟨M, hx, by rw [ht]; exact hw.1⟩, hw.2.F ht⟩) hw.2.2.2 hc hs
section XROW3
variable {p : Program} {l : Launch} {e : Env} {R : Room} {s : State} {m : MethodId} {args : Array Value} {below : List Frame} {meth : Method} {c : Code} {H : Heap} {locs : List Loc} {cells slots : Nat} {Q : State → Prop}
variable {cc : ByteArray} {pc nL : Nat} {ls : Array Slot} {st rest : List Value} {G : xG} {A : Nat → Prop} {a : Nat} {M : HM} {own nm : String} {Ts : List Cond} {ret : Option FieldType}
theorem lv_size {lv : List (Nat × Value)} (h : lv_has ls nL lv) : ls.size = nL := h.1
variable {C : String} {T : u_T} {N ci idx : Nat} {fs : List Value}
/-- a field that holds any int: named by its number -/
theorem x_getR (hC : xB p s m args meth c cc nL own nm Ts ret G A) (hw : xD G A s M H locs) {x : Int32} (he : M a = some (.inr (ci, fs))) (hc : vwCl[ci]? = some (C, T, N)) (hin : ∀ w ∈ u_ws C T N, w ∈ Ts) (k : Nat) (hk : k < N) (hlink : Cond.fieldLink own idx (T k).1 (T k).2.1 (T k).2.2.1 ∈ Ts) (hv : fs[k]? = some (.int x)) (hdg : decode cc pc = .ok (.getfield idx, 3))
    (kk : W p l e R s m args below meth c H locs cells slots Q (F0 m (pc + 3) ls (.int (iN x.toInt) :: rest))) : W p l e R s m args below meth c H locs cells slots Q (F0 m pc ls (.ref a :: rest)) := by
  rw [iN_asI] at kk
  exact x_get hC hw he hc hin k hk hlink hv hdg kk
theorem x_copyI (hC : xB p s m args meth c cc nL own nm Ts ret G A) (hw : xD G A s M H locs) (hls : ls.size = nL) (k1 : Cond.methodLink own idx arraycopyName ∈ Ts) (k2 : Cond.native arraycopyName ∈ Ts) (k3 : Cond.static arraycopyName ∈ Ts) (k4 : Cond.initialized "java/lang/System" ∈ Ts)
    {n : Nat} {f : Nat → Int32} (he : M a = some (.inl (G.2 1, n, .inl f))) {sp dp cn : Int} (h1 : 0 ≤ sp) (h2 : 0 ≤ dp) (h3 : 0 ≤ cn) (h4 : sp + cn ≤ n) (h5 : dp + cn ≤ n) (hn : n ≤ 100000) (hframes : 1 ≤ R.frames) (hlocals : (rest.map fun v => v.category).sum + (nativeFrameWords "java/lang/System" "arraycopy" 5 + 11) ≤ R.locals) (hdg : decode cc pc = .ok (.invokestatic idx, 3))
    (kk : ∀ (H1 : Heap) (locs1 : List Loc), xD G A s (va_up M a (some (.inl (G.2 1, n, .inl (va_cpy f f sp.toNat dp.toNat cn.toNat))))) H1 locs1 → W p l e R s m args below meth c H1 locs1 cells slots Q (F0 m (pc + 3) ls rest)) : W p l e R s m args below meth c H locs cells slots Q (F0 m pc ls (.int (iN cn) :: .int (iN dp) :: .ref a :: .int (iN sp) :: .ref a :: rest)) := by
  obtain ⟨L, q, g1, g2, g3, g4, g5, g6⟩ := hw.1.get he
  have nl : ∀ z : Int, 0 ≤ z → z ≤ 100000 → ¬ iN z < 0 := fun z q1 q2 q3 => by rw [← iN_0, iN_lt ⟨by omega, by omega⟩ rI0] at q3; omega
  have e1 : (iN sp).toNatClampNeg = sp.toNat := iN_clamp h1 (by omega)
  have e2 : (iN dp).toNatClampNeg = dp.toNat := iN_clamp h2 (by omega)
  have e3 : (iN cn).toNatClampNeg = cn.toNat := iN_clamp h3 (by omega)
  refine va_copyi (D := G.1) hC.1 hC.2.1 (by rw [hC.2.2.1, hls]) hC.2.2.2.1 (hC.2.2.2.2.1 _ k1) (hC.2.2.2.2.1 _ k2) (hC.2.2.2.2.1 _ k3) (hC.2.2.2.2.1 _ k4) hC.2.2.2.2.2.2.2.2.1.1 g2 g3 hw.2 q q 1 1 g5 g5 rfl rfl rfl (nl sp h1 (by omega)) (nl dp h2 (by omega)) (nl cn h3 (by omega)) (by rw [e1, e3]; omega) (by rw [e2, e3]; omega) (fun i _ => rfl) hframes hlocals hdg (fun H1 locs1 j1 j2 j3 => ?_)
  rw [e1, e2, e3, g6] at j1 j2
  exact kk H1 locs1 ⟨xPW.of g1 he j1 j2, j3⟩
theorem x_min (hC : xB p s m args meth c cc nL own nm Ts ret G A) (hls : ls.size = nL) {x y : Int} (hx : rI x) (hy : rI y) (k1 : Cond.methodLink own idx Lib.Math.min.name ∈ Ts) (k2 : Cond.static Lib.Math.min.name ∈ Ts) (k3 : Cond.initialized "java/lang/Math" ∈ Ts) (k4 : Cond.code Lib.Math.min.name Lib.Math.min.code 2 (some .int) ∈ Ts)
    (hframes : 1 ≤ R.frames) (hlocals : (rest.map fun v => v.category).sum + 13 ≤ R.locals) (hc : cells ≤ R.cells) (hs : slots ≤ R.slots) (hdg : decode cc pc = .ok (.invokestatic idx, 3))
    (kk : ∀ z : Int, ((x ≤ y ∧ z = x) ∨ (y < x ∧ z = y)) → W p l e R s m args below meth c H locs cells slots Q (F0 m (pc + 3) ls (.int (iN z) :: rest))) : W p l e R s m args below meth c H locs cells slots Q (F0 m pc ls (.int (iN y) :: .int (iN x) :: rest)) := by
  refine va_mmin hC.1 hC.2.1 (by rw [hC.2.2.1, hls]) hC.2.2.2.1 (hC.2.2.2.2.1 _ k1) (hC.2.2.2.2.1 _ k2) (hC.2.2.2.2.1 _ k3) (hC.2.2.2.2.1 _ k4) hframes hlocals hc hs hdg ?_
  by_cases h : y < x
  · rw [if_pos ((iN_lt hy hx).mpr h)]; exact kk y (Or.inr ⟨h, rfl⟩)
  · rw [if_neg (fun q => h ((iN_lt hy hx).mp q))]; exact kk x (Or.inl ⟨by omega, rfl⟩)
theorem x_max (hC : xB p s m args meth c cc nL own nm Ts ret G A) (hls : ls.size = nL) {x y : Int} (hx : rI x) (hy : rI y) (k1 : Cond.methodLink own idx Lib.Math.max.name ∈ Ts) (k2 : Cond.static Lib.Math.max.name ∈ Ts) (k3 : Cond.initialized "java/lang/Math" ∈ Ts) (k4 : Cond.code Lib.Math.max.name Lib.Math.max.code 2 (some .int) ∈ Ts)
    (hframes : 1 ≤ R.frames) (hlocals : (rest.map fun v => v.category).sum + 13 ≤ R.locals) (hc : cells ≤ R.cells) (hs : slots ≤ R.slots) (hdg : decode cc pc = .ok (.invokestatic idx, 3))
    (kk : ∀ z : Int, ((y ≤ x ∧ z = x) ∨ (x < y ∧ z = y)) → W p l e R s m args below meth c H locs cells slots Q (F0 m (pc + 3) ls (.int (iN z) :: rest))) : W p l e R s m args below meth c H locs cells slots Q (F0 m pc ls (.int (iN y) :: .int (iN x) :: rest)) := by
  refine va_mmax hC.1 hC.2.1 (by rw [hC.2.2.1, hls]) hC.2.2.2.1 (hC.2.2.2.2.1 _ k1) (hC.2.2.2.2.1 _ k2) (hC.2.2.2.2.1 _ k3) (hC.2.2.2.2.1 _ k4) hframes hlocals hc hs hdg ?_
  first
    | (by_cases h : x < y
       · first | rw [if_pos ((iN_lt hx hy).mpr h)] | rw [if_neg (fun q => by rw [iN_lt hy hx] at q; omega)] | rw [if_neg (fun q => by rw [iN_le hy hx] at q; omega)]
         exact kk y (Or.inr ⟨h, rfl⟩)
       · first | rw [if_neg (fun q => h ((iN_lt hx hy).mp q))] | rw [if_pos ((iN_le hy hx).mpr (by omega))]
         exact kk x (Or.inl ⟨by omega, rfl⟩))
end XROW3
theorem x_tmod_rng {a b : Int} (h : rI a) (hb : b ≠ 0) : rI (a.tmod b) := by
  have h3 : (a.tmod b).natAbs ≤ a.natAbs := by rw [Int.natAbs_tmod]; exact Nat.mod_le _ _
  have h4 := h.1; have h5 := h.2
  rcases Int.le_total 0 a with q | q
  · have := Int.tmod_nonneg b q
    constructor <;> omega
  · constructor
    · omega
    · have h6 : (-a).tmod b = -(a.tmod b) := Int.neg_tmod a b
      have h7 := Int.tmod_nonneg (a := -a) b (by omega)
      omega
/-- a book: its cell, its two rows -/
def Bk (G : xG) (M : HM) (b k v : Nat) (no o t kc : Int32) (sz : Int) (fk fv : Nat → Int32) : Prop := M b = some (.inr (2, [.int no, .ref k, .ref v, .int o, .int (iN (sz)), .int t, .int kc])) ∧ M k = some (.inl (G.2 1, 100, .inl fk)) ∧ M v = some (.inl (G.2 1, 100, .inl fv)) ∧ k ≠ v ∧ 0 ≤ sz ∧ sz ≤ 100
/-- nothing but these three is another -/
def xSm (M M1 : HM) (b k v : Nat) : Prop := ∀ a, a ≠ b → a ≠ k → a ≠ v → M1 a = M a
theorem xSm.rf {M : HM} {b k v : Nat} : xSm M M b k v := fun _ _ _ _ => rfl
theorem xSm.tr {M M1 M2 : HM} {b k v : Nat} (h1 : xSm M M1 b k v) (h2 : xSm M1 M2 b k v) : xSm M M2 b k v := fun a q1 q2 q3 => (h2 a q1 q2 q3).trans (h1 a q1 q2 q3)
theorem xSm.b {M M1 : HM} {b k v : Nat} {x : Option va_E} (h : M1 = va_up M b x) : xSm M M1 b k v := fun a q1 _ _ => by rw [h, va_up_ne _ _ q1]
theorem xSm.k {M M1 : HM} {b k v : Nat} {x : Option va_E} (h : M1 = va_up M k x) : xSm M M1 b k v := fun a _ q1 _ => by rw [h, va_up_ne _ _ q1]
theorem xSm.v {M M1 : HM} {b k v : Nat} {x : Option va_E} (h : M1 = va_up M v x) : xSm M M1 b k v := fun a _ _ q1 => by rw [h, va_up_ne _ _ q1]
section BKS
variable {G : xG} {M M1 : HM} {b k v : Nat} {no o t kc no2 o2 t2 kc2 : Int32} {sz sz2 : Int} {fk fv f2 : Nat → Int32}
theorem Bk.bk (h : Bk G M b k v no o t kc sz fk fv) : b ≠ k := fun q => by have h1 := h.1; rw [q, h.2.1] at h1; cases h1
theorem Bk.bv (h : Bk G M b k v no o t kc sz fk fv) : b ≠ v := fun q => by have h1 := h.1; rw [q, h.2.2.1] at h1; cases h1
theorem Bk.setb (h : Bk G M b k v no o t kc sz fk fv) (hM : M1 = va_up M b (some (.inr (2, [.int no2, .ref k, .ref v, .int o2, .int (iN (sz2)), .int t2, .int kc2])))) (h0 : 0 ≤ sz2) (h1 : sz2 ≤ 100) : Bk G M1 b k v no2 o2 t2 kc2 sz2 fk fv :=
  ⟨by rw [hM, va_up_self], by rw [hM, va_up_ne _ _ h.bk.symm]; exact h.2.1, by rw [hM, va_up_ne _ _ h.bv.symm]; exact h.2.2.1, h.2.2.2.1, h0, h1⟩
theorem Bk.setk (h : Bk G M b k v no o t kc sz fk fv) (hM : M1 = va_up M k (some (.inl (G.2 1, 100, .inl f2)))) : Bk G M1 b k v no o t kc sz f2 fv :=
  ⟨by rw [hM, va_up_ne _ _ h.bk]; exact h.1, by rw [hM, va_up_self], by rw [hM, va_up_ne _ _ h.2.2.2.1.symm]; exact h.2.2.1, h.2.2.2⟩
theorem Bk.setv (h : Bk G M b k v no o t kc sz fk fv) (hM : M1 = va_up M v (some (.inl (G.2 1, 100, .inl f2)))) : Bk G M1 b k v no o t kc sz fk f2 :=
  ⟨by rw [hM, va_up_ne _ _ h.bv]; exact h.1, by rw [hM, va_up_ne _ _ h.2.2.2.1]; exact h.2.1, by rw [hM, va_up_self], h.2.2.2⟩
end BKS
section XROW4
variable {p : Program} {l : Launch} {e : Env} {R : Room} {s : State} {m : MethodId} {args : Array Value} {below : List Frame} {meth : Method} {c : Code} {H : Heap} {locs : List Loc} {cells slots : Nat} {Q : State → Prop}
variable {cc : ByteArray} {pc nL : Nat} {ls : Array Slot} {st rest : List Value} {G : xG} {A : Nat → Prop} {a : Nat} {M : HM} {own nm : String} {Ts : List Cond} {ret : Option FieldType}
theorem x_lsw2 (hC : xB p s m args meth c cc nL own nm Ts ret G A) {d0 o0 o1 : Int} {t0 t1 td len : Nat} {x : Int} (hx : rI x) (hdg : decode cc pc = .ok (.lookupswitch d0 #[(0, o0), (1, o1)], len)) (h0 : (pc : Int) + o0 = (t0 : Int)) (h1 : (pc : Int) + o1 = (t1 : Int)) (hd : (pc : Int) + d0 = (td : Int))
    (k0 : x = 0 → W p l e R s m args below meth c H locs cells slots Q (F0 m t0 ls rest)) (k1 : x = 1 → W p l e R s m args below meth c H locs cells slots Q (F0 m t1 ls rest)) (kd : x ≠ 0 → x ≠ 1 → W p l e R s m args below meth c H locs cells slots Q (F0 m td ls rest)) : W p l e R s m args below meth c H locs cells slots Q (F0 m pc ls (.int (iN x) :: rest)) := by
  by_cases e0 : x = 0
  · subst e0
    exact lv_lookup hC.1 hC.2.1 hdg rfl (show Op.lookupswitch.offset [(0, o0), (1, o1)] d0 (iN 0).toInt = o0 from rfl) h0 (k0 rfl)
  · have n0 : ¬ iN x = 0 := fun q => e0 ((iN_eq hx rI0).mp q)
    by_cases e1 : x = 1
    · subst e1
      exact lv_lookup hC.1 hC.2.1 hdg rfl (show Op.lookupswitch.offset [(0, o0), (1, o1)] d0 (iN 1).toInt = o1 from rfl) h1 (k1 rfl)
    · have n1 : ¬ iN x = 1 := fun q => e1 ((iN_eq hx ⟨by decide, by decide⟩).mp q)
      exact lv_lookup hC.1 hC.2.1 hdg rfl (show Op.lookupswitch.offset [(0, o0), (1, o1)] d0 (iN x).toInt = d0 from (lv_osw n0 rfl).trans ((lv_osw n1 rfl).trans rfl)) hd (kd e0 e1)
end XROW4
theorem x_any (x : Int32) : ∃ z : Int, some (Value.int x) = some (.int (iN z)) ∧ (-2147483648 ≤ z ∧ z ≤ 2147483647) := ⟨x.toInt, by rw [iN_asI], iN_rng x⟩
theorem x_nrm (e : Int) : ∃ z : Int, iN e = iN z ∧ (-2147483648 ≤ z ∧ z ≤ 2147483647) := ⟨(iN e).toInt, (iN_asI _).symm, iN_rng _⟩
/-- two books lie apart -/
def xAp (b k v b2 k2 v2 : Nat) : Prop := (b2 ≠ b ∧ b2 ≠ k ∧ b2 ≠ v) ∧ (k2 ≠ b ∧ k2 ≠ k ∧ k2 ≠ v) ∧ (v2 ≠ b ∧ v2 ≠ k ∧ v2 ≠ v)
theorem Bk.kept {G : xG} {M M1 : HM} {b k v b2 k2 v2 : Nat} {no o t kc : Int32} {sz : Int} {fk fv : Nat → Int32} (h : Bk G M b2 k2 v2 no o t kc sz fk fv) (sm : xSm M M1 b k v) (ap : xAp b k v b2 k2 v2) : Bk G M1 b2 k2 v2 no o t kc sz fk fv :=
  ⟨by rw [sm _ ap.1.1 ap.1.2.1 ap.1.2.2]; exact h.1, by rw [sm _ ap.2.1.1 ap.2.1.2.1 ap.2.1.2.2]; exact h.2.1, by rw [sm _ ap.2.2.1 ap.2.2.2.1 ap.2.2.2.2]; exact h.2.2.1, h.2.2.2⟩
section XROW5
variable {p : Program} {l : Launch} {e : Env} {R : Room} {s : State} {m : MethodId} {args : Array Value} {below : List Frame} {meth : Method} {c : Code} {H : Heap} {locs : List Loc} {cells slots : Nat} {Q : State → Prop}
variable {cc : ByteArray} {pc nL idx : Nat} {ls : Array Slot} {st rest : List Value} {G : xG} {A : Nat → Prop} {a : Nat} {M : HM} {own nm : String} {Ts : List Cond} {ret : Option FieldType}
theorem x_abs (hC : xB p s m args meth c cc nL own nm Ts ret G A) (hls : ls.size = nL) {x : Int} (hx : rI x) (k1 : Cond.methodLink own idx Lib.Math.abs.name ∈ Ts) (k2 : Cond.static Lib.Math.abs.name ∈ Ts) (k3 : Cond.initialized "java/lang/Math" ∈ Ts) (k4 : Cond.code Lib.Math.abs.name Lib.Math.abs.code 1 (some .int) ∈ Ts)
    (hframes : 1 ≤ R.frames) (hlocals : (rest.map fun v => v.category).sum + 13 ≤ R.locals) (hc : cells ≤ R.cells) (hs : slots ≤ R.slots) (hdg : decode cc pc = .ok (.invokestatic idx, 3))
    (kk : ∀ z : Int, (-2147483648 ≤ z ∧ z ≤ 2147483647) → (0 ≤ x → z = x) → W p l e R s m args below meth c H locs cells slots Q (F0 m (pc + 3) ls (.int (iN z) :: rest))) : W p l e R s m args below meth c H locs cells slots Q (F0 m pc ls (.int (iN x) :: rest)) := by
  refine va_mabs hC.1 hC.2.1 (by rw [hC.2.2.1, hls]) hC.2.2.2.1 (hC.2.2.2.2.1 _ k1) (hC.2.2.2.2.1 _ k2) (hC.2.2.2.2.1 _ k3) (hC.2.2.2.2.1 _ k4) hframes (by omega) hc hs hdg ?_
  by_cases h : 0 ≤ x
  · rw [if_pos (show (0 : Int32) ≤ iN x from (iN_le rI0 hx).mpr h)]
    exact kk x hx (fun _ => rfl)
  · rw [if_neg (show ¬ (0 : Int32) ≤ iN x from fun q => h ((iN_le rI0 hx).mp q)), ← iN_asI (0 - iN x)]
    exact kk _ (iN_rng _) (fun q => absurd q h)
end XROW5
