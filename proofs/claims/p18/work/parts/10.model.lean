/-! what an object of the model is -/
section MROWS
variable {p : Program} {l : Launch} {e : Env} {R : Room} {s : State} {m : MethodId} {args : Array Value} {below : List Frame} {meth : Method} {c : Code} {H : Heap} {locs : List Loc} {cells slots : Nat} {Q : State → Prop}
variable {cc : ByteArray} {pc nL idx a : Nat} {ls : Array Slot} {st rest : List Value} {G : xG} {A : Nat → Prop} {M : HM} {own nm : String} {Ts : List Cond} {ret : Option FieldType} {z : Int}
theorem x_ald4 (hC : xB p s m args meth c cc nL own nm Ts ret G A) (hw : xD G A s M H locs) {n : Nat} {f : Nat → Option Nat} (he : M a = some (.inl (G.2 4, n, .inr (.inr (.inr (.inr f)))))) (h0 : 0 ≤ z) (h1 : z ≤ 2147483647) (h2 : z < n) (hdg : decode cc pc = .ok (.aaload, 1))
    (kk : W p l e R s m args below meth c H locs cells slots Q (F0 m (pc + 1) ls (va_rf (f z.toNat) :: rest))) : W p l e R s m args below meth c H locs cells slots Q (F0 m pc ls (.int (iN z) :: .ref a :: rest)) := by
  obtain ⟨L, q, g1, g2, g3, g4, g5, g6⟩ := hw.1.get he
  have hin : vp_in (iN z) n := iN_in h0 h1 h2
  have hlt : (iN z).toNatClampNeg < n := Nat.not_le.mp fun q => hin (Or.inr q)
  have kk' : W p l e R s m args below meth c H locs cells slots Q (F0 m (pc + 1) ls (va_rf (f (iN z).toNatClampNeg) :: rest)) := by rw [iN_clamp h0 h1]; exact kk
  exact W.aald (v := va_rf (f (iN z).toNatClampNeg)) (ty := .array .int) hC.1 hC.2.1 (g2 q _ g5) ((hC.2.2.2.2.2.2.2.2.1.1.2 4 _ rfl).1 n (fun j => va_rf (f j))) rfl (fun q => by cases q) (by show ¬ (iN z < 0 ∨ (arrV _ _ _).slots.size ≤ _); rw [arrV_size]; exact hin) (by show (arrV _ _ _).slots[_]? = _; rw [arrV_read _ _ hlt]) rfl rfl hdg kk'
theorem x_asg (vm : Vm) (n k : Nat) : vm.assignableAux (k + 1) n n = true := by simp [Vm.assignableAux]
theorem x_ast4 (hC : xB p s m args meth c cc nL own nm Ts ret G A) (hw : xD G A s M H locs) {n v : Nat} {x : _} {f : Nat → Option Nat} (he : M a = some (.inl (G.2 4, n, .inr (.inr (.inr (.inr f)))))) (hv : M v = some (.inl (G.2 1, x))) (h0 : 0 ≤ z) (h1 : z ≤ 2147483647) (h2 : z < n) (hdg : decode cc pc = .ok (.aastore, 1))
    (kk : ∀ (H1 : Heap) (locs1 : List Loc), xD G A s (va_up M a (some (.inl (G.2 4, n, .inr (.inr (.inr (.inr (va_up f z.toNat (some v))))))))) H1 locs1 → W p l e R s m args below meth c H1 locs1 cells slots Q (F0 m (pc + 1) ls rest)) : W p l e R s m args below meth c H locs cells slots Q (F0 m pc ls (.ref v :: .int (iN z) :: .ref a :: rest)) := by
  obtain ⟨L, q, g1, g2, g3, g4, g5, g6⟩ := hw.1.get he
  obtain ⟨L2, q2, u1, u2, u3, u4, u5, u6⟩ := hw.1.get hv
  have hin : vp_in (iN z) n := iN_in h0 h1 h2
  have hlt : (iN z).toNatClampNeg < n := Nat.not_le.mp fun q => hin (Or.inr q)
  have hn0 : ¬ iN z < 0 := fun q => hin (Or.inl q)
  have hK := hC.2.2.2.2.2.2.2.2.1.1.2
  obtain ⟨comp, cA, kA, w1, w2, w3, w4⟩ := Cond.arrayOver_specA hC.2.2.2.2.2.2.2.2.1.2.2.2.2.2.1.2.2.1
  have e4 : s.vm.findClass ("[" ++ (FieldType.array .int).toString) = some (G.2 4) := (hK 4 _ rfl).2
  have e1 : s.vm.findClass (FieldType.array .int).toString = some (G.2 1) := (hK 1 _ rfl).2
  obtain rfl : cA = G.2 4 := Option.some.inj (w4.symm.trans e4)
  obtain rfl : comp = G.2 1 := Option.some.inj (w1.symm.trans e1)
  obtain ⟨kC, hkC, -⟩ := Vm.findClass_spec w1
  have hcv : H[v]? = some (vp_cell (G.2 1) x) := u2 q2 _ u5
  have hvm0 : (vp_cell (G.2 1) x).vm = .none := by
    obtain ⟨n, f | f | f | f | f⟩ := x <;> rfl
  have hcl0 : (vp_cell (G.2 1) x).cls = G.2 1 := by
    obtain ⟨n, f | f | f | f | f⟩ := x <;> rfl
  refine W.aast hC.1 hC.2.1 (g2 q _ g5) (fun q h => by cases h) (fun h => by cases h) w2 w3 rfl hkC ⟨hn0, by show _ < (arrV _ _ _).slots.size; rw [arrV_size]; exact hlt⟩ hcv (fun q h => by rw [hvm0] at h; cases h) (by rw [hcl0]; exact hkC) (by rw [hcl0]; exact x_asg _ _ 255) rfl rfl hdg fun H1 y z9 oq => ?_
  have k1 : va_at G.1 vwCl (a, .inl (G.2 4, n, .inr (.inr (.inr (.inr (va_up f (iN z).toNatClampNeg (some v))))))) H1 := by
    show H1[a]? = some (vp_cell _ _)
    rw [y]
    rw [vp_cell_q, vp_cell_q, arrV_store]
    congr 2
    funext q
    by_cases hq : q = (iN z).toNatClampNeg
    · subst hq
      simp [updV, va_up, va_rf]
    · simp [updV, va_up, hq]
  have k2 := g2.set g3 g5 k1 oq
  have k3 := g3.set (e := .inl (G.2 4, n, .inr (.inr (.inr (.inr (va_up f (iN z).toNatClampNeg (some v))))))) g5
  have k4 := hw.2.put (k := (iN z).toNatClampNeg) z9 oq (g3.2 q _ g5)
  rw [iN_clamp h0 h1] at k2 k3
  rw [g6] at k2 k3
  exact kk H1 _ ⟨xPW.of g1 he k2 k3, k4⟩
theorem x_aastN0 {T : State} (X : Stand p l e R s m args below meth c T locs cells slots) (hexec : p.tables.exec = Jvm.exec) {a : Addr} {cell : Cell} {t : FieldType} {j : Int32} (hcell : T.heap[a]? = some cell) (harr : s.isArrayOf cell (.array t)) (hknown : cell.vm ≠ .unknown)
    (hin : ¬ (j < 0 ∨ cell.slots.size ≤ j.toNatClampNeg))
    {g : JFrame} (hg : g.method = m) {rest : List Value} (hstack : g.stack = .null :: .int j :: .ref a :: rest) (hdg : decode c.code g.pc = .ok (.aastore, 1)) :
    Stand p l e R s m args below meth c (T.setCell a (cell.setSlot j.toNatClampNeg .null)) (locs ++ [⟨a, j.toNatClampNeg⟩]) cells slots ∧
      ∀ target, Steps p.tables e below ((T.setCell a (cell.setSlot j.toNatClampNeg .null)).setTop { g with pc := g.pc + 1, stack := rest }) target → Steps p.tables e below (T.setTop g) target := by
  have hT := State.isArrayOf_alike X.warmed.alike harr
  have hfit : T.fitsSlot cell.cls cell.vm j.toNatClampNeg .null = true := by
    obtain ⟨hobj, k, hk, comp, hkind⟩ := hT
    cases hvm : cell.vm <;> first | exact absurd hvm (hobj _) | simp [State.fitsSlot, State.slotType?, hk, hkind, fits]
  refine ⟨X.stored hcell _ _, fun target hrest => ?_⟩
  subst hg
  jvm_step X.here [hexec, hdg]
  refine aastore.wp_of_null (c := cell) (t := .array t) X.here.top hstack hcell hT hin hknown (Nat.not_le.mp fun q => hin (Or.inr q)) hfit ?_
  intro acts
  rw [afterInstr_ok]
  exact hrest
theorem x_ast4N (hC : xB p s m args meth c cc nL own nm Ts ret G A) (hw : xD G A s M H locs) {n : Nat} {f : Nat → Option Nat} (he : M a = some (.inl (G.2 4, n, .inr (.inr (.inr (.inr f)))))) (h0 : 0 ≤ z) (h1 : z ≤ 2147483647) (h2 : z < n) (hdg : decode cc pc = .ok (.aastore, 1))
    (kk : ∀ (H1 : Heap) (locs1 : List Loc), xD G A s (va_up M a (some (.inl (G.2 4, n, .inr (.inr (.inr (.inr (va_up f z.toNat none)))))))) H1 locs1 → W p l e R s m args below meth c H1 locs1 cells slots Q (F0 m (pc + 1) ls rest)) : W p l e R s m args below meth c H locs cells slots Q (F0 m pc ls (.null :: .int (iN z) :: .ref a :: rest)) := by
  obtain ⟨L, q, g1, g2, g3, g4, g5, g6⟩ := hw.1.get he
  have hin : vp_in (iN z) n := iN_in h0 h1 h2
  have hcell := g2 q _ g5
  have hA := (hC.2.2.2.2.2.2.2.2.1.1.2 4 _ rfl).1 n (fun j => va_rf (f j))
  intro T hT X
  have hT' : T.heap[a]? = some (arrV (G.2 4) n (fun j => va_rf (f j))) := by rw [hT]; exact hcell
  obtain ⟨X', st⟩ := x_aastN0 X hC.1 (j := iN z) (g := F0 m pc ls (.null :: .int (iN z) :: .ref a :: rest)) hT' hA (fun h => by cases h) (by show ¬ (iN z < 0 ∨ (arrV _ _ _).slots.size ≤ _); rw [arrV_size]; exact hin) rfl rfl (by rw [hC.2.1]; exact hdg)
  have hlt : a < T.heap.size := (Array.getElem?_eq_some_iff.mp hT').1
  have y := heapAt_setCell_self ((arrV (G.2 4) n (fun j => va_rf (f j))).setSlot (iN z).toNatClampNeg .null) hlt
  have z9 : (T.setCell a ((arrV (G.2 4) n (fun j => va_rf (f j))).setSlot (iN z).toNatClampNeg .null)).heap.size = H.size := by rw [size_setCell, hT]
  have oq : ∀ q : Nat, q ≠ a → (T.setCell a ((arrV (G.2 4) n (fun j => va_rf (f j))).setSlot (iN z).toNatClampNeg .null)).heap[q]? = H[q]? := fun q hq => by rw [heapAt_setCell_ne _ (Ne.symm hq), hT]
  generalize hH1 : (T.setCell a ((arrV (G.2 4) n (fun j => va_rf (f j))).setSlot (iN z).toNatClampNeg .null)).heap = H1 at y z9 oq
  have k1 : va_at G.1 vwCl (a, .inl (G.2 4, n, .inr (.inr (.inr (.inr (va_up f (iN z).toNatClampNeg none)))))) H1 := by
    show H1[a]? = some (vp_cell _ _)
    rw [y]
    rw [vp_cell_q, arrV_store]
    congr 2
    funext q
    by_cases hq : q = (iN z).toNatClampNeg
    · subst hq
      simp [updV, va_up, va_rf]
    · simp [updV, va_up, hq]
  have k2 := g2.set g3 g5 k1 oq
  have k3 := g3.set (e := .inl (G.2 4, n, .inr (.inr (.inr (.inr (va_up f (iN z).toNatClampNeg none)))))) g5
  have k4 := hw.2.put (k := (iN z).toNatClampNeg) z9 oq (g3.2 q _ g5)
  rw [iN_clamp h0 h1] at k2 k3
  rw [g6] at k2 k3
  obtain ⟨t', a1, b1⟩ := kk H1 _ ⟨xPW.of g1 he k2 k3, k4⟩ _ hH1 X'
  exact ⟨t', st t' a1, b1⟩
theorem x_clone1 (hC : xB p s m args meth c cc nL own nm Ts ret G A) (hw : xD G A s M H locs) (hls : ls.size = nL) {n : Nat} {f : Nat → Int32} (he : M a = some (.inl (G.2 1, n, .inl f)))
    (k1 : Cond.methodLink own idx ⟨"[I", "clone", "()Ljava/lang/Object;"⟩ ∈ Ts) (k2 : Cond.sameMethod "[I" "java/lang/Object" "clone" "()Ljava/lang/Object;" ∈ Ts) (k3 : Cond.native ⟨"java/lang/Object", "clone", "()Ljava/lang/Object;"⟩ ∈ Ts) (k4 : Cond.instanceMethod ⟨"java/lang/Object", "clone", "()Ljava/lang/Object;"⟩ ∈ Ts) (k5 : Cond.selects "[I" ⟨"[I", "clone", "()Ljava/lang/Object;"⟩ ⟨"java/lang/Object", "clone", "()Ljava/lang/Object;"⟩ ∈ Ts)
    (hframes : 1 ≤ R.frames) (hlocals : (rest.map fun v => v.category).sum + 14 ≤ R.locals) (hcells : cells + 1 ≤ R.cells) (hslots : slots + n ≤ R.slots) (hdg : decode cc pc = .ok (.invokevirtual idx, 3))
    (kk : ∀ (q : Nat) (H1 : Heap), M q = none → xD G A s (va_up M q (some (.inl (G.2 1, n, .inl f)))) H1 locs → W p l e R s m args below meth c H1 locs (cells + 1) (slots + n) Q (F0 m (pc + 3) ls (.ref q :: rest))) : W p l e R s m args below meth c H locs cells slots Q (F0 m pc ls (.ref a :: rest)) := by
  obtain ⟨L, q, g1, g2, g3, g4, g5, g6⟩ := hw.1.get he
  have hcast := hC.2.2.2.2.2.2.2.2.1.2.2.2.1.1 ("[I", "java/lang/Cloneable") (by decide)
  refine va_clone (D := G.1) hC.1 hC.2.1 (by rw [hC.2.2.1]; exact hls.symm) hC.2.2.2.1 (hC.2.2.2.2.1 _ k1) (hC.2.2.2.2.1 _ k2) (hC.2.2.2.2.1 _ k3) (hC.2.2.2.2.1 _ k4) (hC.2.2.2.2.1 _ k5) hcast hC.2.2.2.2.2.2.2.2.1.1 g2 g3 hw.2 hC.2.2.2.2.2.2.2.2.2 q 1 g5 rfl ((hC.2.2.2.2.2.2.2.2.1.1.2 1 _ rfl).2) (fun i v hv => ?_) hframes hlocals hcells hslots hdg (fun q9 H1 k0 k1 k2 k3 => ?_)
  · have hv' : (arrV (G.2 1) n (fun j => .int (f j))).slots[i]? = some v := hv
    have hi := (Array.getElem?_eq_some_iff.mp hv').1
    rw [arrV_size] at hi
    rw [arrV_read _ _ hi] at hv'
    cases hv'
    rfl
  · obtain ⟨e1, e2⟩ := xPW.new g1 k1 k2
    exact kk q9 H1 e1 ⟨e2, k3⟩
theorem x_castI (hC : xB p s m args meth c cc nL own nm Ts ret G A) (hw : xD G A s M H locs) {x : _} (he : M a = some (.inl (G.2 1, x))) (k1 : Cond.classLink own idx "[I" ∈ Ts) (hdg : decode cc pc = .ok (.checkcast idx, 3))
    (kk : W p l e R s m args below meth c H locs cells slots Q (F0 m (pc + 3) ls (.ref a :: rest))) : W p l e R s m args below meth c H locs cells slots Q (F0 m pc ls (.ref a :: rest)) := by
  obtain ⟨L, q, g1, g2, g3, g4, g5, g6⟩ := hw.1.get he
  exact va_castA hC.1 hC.2.1 hC.2.2.2.1 (hC.2.2.2.2.1 _ k1) g2 q g5 ((hC.2.2.2.2.2.2.2.2.1.1.2 1 _ rfl).2) hdg kk
theorem x_ior (hC : xB p s m args meth c cc nL own nm Ts ret G A) {x y : Int} (hdg : decode cc pc = .ok (.ior, 1)) (kk : ∀ z : Int, (-2147483648 ≤ z ∧ z ≤ 2147483647) → W p l e R s m args below meth c H locs cells slots Q (F0 m (pc + 1) ls (.int (iN z) :: rest))) : W p l e R s m args below meth c H locs cells slots Q (F0 m pc ls (.int (iN y) :: .int (iN x) :: rest)) := by
  refine lv_ior hC.1 hC.2.1 hdg ?_
  have h := kk _ (iN_rng (iN x ||| iN y))
  rw [iN_asI] at h
  exact h
/-- an element whose number is known -/
theorem x_ialdE (hC : xB p s m args meth c cc nL own nm Ts ret G A) (hw : xD G A s M H locs) {n : Nat} {f : Nat → Int32} {x : Int} (he : M a = some (.inl (G.2 1, n, .inl f))) (h0 : 0 ≤ z) (h1 : z ≤ 2147483647) (h2 : z < n) (hdg : decode cc pc = .ok (.iaload, 1)) (hx : f z.toNat = iN x)
    (kk : W p l e R s m args below meth c H locs cells slots Q (F0 m (pc + 1) ls (.int (iN x) :: rest))) : W p l e R s m args below meth c H locs cells slots Q (F0 m pc ls (.int (iN z) :: .ref a :: rest)) := by
  refine x_iald hC hw he h0 h1 h2 hdg ?_
  rw [hx, iN_asI]
  exact kk
end MROWS
theorem x_tdb {x y z : Int} (h : z = x.tdiv y) : z.natAbs ≤ x.natAbs := by rw [h, Int.natAbs_tdiv]; exact Nat.div_le_self _ _
theorem xExt.rf {M : HM} : xExt M M := fun _ _ h => h
theorem x_some {x : Option Nat} (h : x ≠ none) : ∃ y, x = some y := by
  cases x with
  | none => exact absurd rfl h
  | some y => exact ⟨y, rfl⟩
/-- a part's five numbers -/
def Its (G : xG) (M : HM) (y : Nat) (f : Nat → Int32) (t : VT) : Prop := M y = some (.inl (G.2 1, 5, .inl f)) ∧ t.ok ∧ (f 0 = iN t.b ∧ f 1 = iN t.lo ∧ f 2 = iN t.li ∧ f 3 = iN t.up ∧ f 4 = iN t.ui)
def ItO (G : xG) (M : HM) : Option Nat → Option VT → Prop
  | none, none => True
  | some y, some t => ∃ f, Its G M y f t
  | _, _ => False
theorem Its.nums {G : xG} {M : HM} {y : Nat} {f : Nat → Int32} {t : VT} (h : Its G M y f t) : (f 0).toInt = t.b ∧ (f 1).toInt = t.lo ∧ (f 2).toInt = t.li ∧ (f 3).toInt = t.up ∧ (f 4).toInt = t.ui := by
  obtain ⟨-, ⟨k1, k2, k3, k4, k5⟩, e0, e1, e2, e3, e4⟩ := h
  rw [e0, e1, e2, e3, e4, iN_toInt ⟨by omega, by omega⟩, iN_toInt ⟨by omega, by omega⟩, iN_toInt ⟨by omega, by omega⟩, iN_toInt ⟨by omega, by omega⟩, iN_toInt ⟨by omega, by omega⟩]
  exact ⟨rfl, rfl, rfl, rfl, rfl⟩
theorem ItO.yes {G : xG} {M : HM} {a : Option Nat} {x : Option VT} {y : Nat} (h : ItO G M a x) (ha : a = some y) : ∃ t f, x = some t ∧ Its G M y f t := by
  subst ha
  rcases x with _ | t
  · exact h.elim
  · obtain ⟨f, hf⟩ := h
    exact ⟨t, f, rfl, hf⟩
theorem ItO.nil {G : xG} {M : HM} {a : Option Nat} {x : Option VT} (h : ItO G M a x) (ha : a = none) : x = none := by
  subst ha
  rcases x with _ | t
  · rfl
  · exact h.elim
def xI5 (G : xG) (M M1 : HM) : Prop := ∀ y f, M y = some (.inl (G.2 1, 5, .inl f)) → M1 y = some (.inl (G.2 1, 5, .inl f))
/-- the weight of a key in the order of a part's book -/
def mW (O : OW) (t : VT) (k : Nat) : Int := mwN (O t.b) k
/-- a key has a value in a part's book, and may have one -/
def mP (S : Nat → Bool) (V : BW) (t : VT) (k : Nat) : Prop := S k = true ∧ V t.b k ≠ -10000
def MGa (G : xG) (M : HM) (a va oa wa ya : Nat) (wk : Option Nat) (th : Int) (rfd : Int32) (br re la ha : Int) (kp kv : Int32) (qv qw : Nat → Nat) (fa fb : Nat → Option Nat) (V : BW) (O : OW) (fy : Nat → Option Nat) : Prop :=
  M a = some (.inr (7, [.int (iN (th)), .int rfd, .ref va, .ref oa, .ref wa, .ref ya, va_rf wk, .int (iN (br)), .int (iN (re)), .int (iN (la)), .int (iN (ha)), .int kp, .int kv])) ∧
  M va = some (.inl (G.2 4, 3, .inr (.inr (.inr (.inr fa))))) ∧ M oa = some (.inl (G.2 1, 3, .inl (fun j => iN ((O j : Nat) : Int)))) ∧ M wa = some (.inl (G.2 4, 3, .inr (.inr (.inr (.inr fb))))) ∧ M ya = some (.inl (G.2 4, 4, .inr (.inr (.inr (.inr fy))))) ∧
  (∀ j, j < 3 → fa j = some (qv j)) ∧ (∀ j, j < 3 → fb j = some (qw j)) ∧ (∀ j, j < 3 → M (qv j) = some (.inl (G.2 1, 100, .inl (fun k => iN (V j k))))) ∧ (∀ j, j < 3 → ∃ fw : Nat → Int32, M (qw j) = some (.inl (G.2 1, 100, .inl fw)) ∧ ∀ k, k < 100 → fw k = iN ((mwN j k : Nat) : Int)) ∧
  (∀ i j, i < 3 → j < 3 → i ≠ j → qv i ≠ qv j) ∧ (∀ i j, i < 3 → j < 3 → qw i ≠ qv j)
def MGf (th br re la ha : Int) (V : BW) (O : OW) (S : Nat → Bool) : Prop :=
  (∀ j, j < 3 → O j < 3) ∧ (∀ j k, j < 3 → k < 100 → -10000 ≤ V j k ∧ V j k ≤ 9999) ∧ (∀ j k, j < 3 → k < 100 → V j k ≠ -10000 → S k = true) ∧ ((0 ≤ th ∧ th ≤ 3) ∧ (br = 0 ∨ br = 1) ∧ (-1 ≤ re ∧ re ≤ 999) ∧ (la = -10000 ∨ (0 ≤ la ∧ la ≤ 99)) ∧ (ha = -10000 ∨ (0 ≤ ha ∧ ha ≤ 99)))
def MGi (G : xG) (M : HM) (wk : Option Nat) (fy : Nat → Option Nat) (Wv : VW) (wt : Option VT) : Prop := (∀ j, j < 4 → ItO G M (fy j) (Wv j)) ∧ ItO G M wk wt
def MGx (G : xG) (M : HM) (a va oa wa ya : Nat) (wk : Option Nat) (th : Int) (rfd : Int32) (br re la ha : Int) (kp kv : Int32) (qv qw : Nat → Nat) (fa fb : Nat → Option Nat) (V : BW) (O : OW) (fy : Nat → Option Nat) (Wv : VW) (wt : Option VT) (S : Nat → Bool) : Prop :=
  MGa G M a va oa wa ya wk th rfd br re la ha kp kv qv qw fa fb V O fy ∧ MGf th br re la ha V O S ∧ MGi G M wk fy Wv wt
theorem Its.x5 {G : xG} {M M1 : HM} {y : Nat} {f : Nat → Int32} {t : VT} (h : Its G M y f t) (hx : xI5 G M M1) : Its G M1 y f t := ⟨hx _ _ h.1, h.2⟩
theorem ItO.x5 {G : xG} {M M1 : HM} {y : Option Nat} {t : Option VT} (h : ItO G M y t) (hx : xI5 G M M1) : ItO G M1 y t := by
  rcases y with _ | y <;> rcases t with _ | t
  · trivial
  · exact h.elim
  · exact h.elim
  · obtain ⟨f, hf⟩ := h
    exact ⟨f, hf.x5 hx⟩
theorem xExt.x5 {G : xG} {M M1 : HM} (hx : xExt M M1) : xI5 G M M1 := fun _ _ h => hx _ _ h
theorem xI5.rf {G : xG} {M : HM} : xI5 G M M := fun _ _ h => h
theorem xI5.tr {G : xG} {M M1 M2 : HM} (h1 : xI5 G M M1) (h2 : xI5 G M1 M2) : xI5 G M M2 := fun _ _ h => h2 _ _ (h1 _ _ h)
theorem MGi.x5 {G : xG} {M M1 : HM} {wk : Option Nat} {fy : Nat → Option Nat} {Wv : VW} {wt : Option VT} (h : MGi G M wk fy Wv wt) (hx : xI5 G M M1) : MGi G M1 wk fy Wv wt := ⟨fun j hj => (h.1 j hj).x5 hx, h.2.x5 hx⟩
/-- a cell being made -/
theorem xExt.upd {M0 M M1 : HM} {q : Nat} {x : Option va_E} (hq : M0 q = none) (hx : xExt M0 M) (hM : M1 = va_up M q x) : xExt M0 M1 := fun a e he => by
  rw [hM, va_up_ne _ _ (fun z => by rw [z, hq] at he; cases he)]; exact hx a e he
section MGS
variable {G : xG} {M M1 : HM} {a va oa wa ya : Nat} {wk wk2 : Option Nat} {th br re la ha th2 br2 re2 la2 ha2 : Int} {rfd kp kv rfd2 kp2 kv2 : Int32} {qv qw : Nat → Nat} {fa fb : Nat → Option Nat} {V : BW} {O : OW} {fy fy2 : Nat → Option Nat} {Wv W2 : VW} {wt wt2 : Option VT} {S S2 : Nat → Bool} {j k : Nat}
theorem MGx.fa' (h : MGx G M a va oa wa ya wk th rfd br re la ha kp kv qv qw fa fb V O fy Wv wt S) (hj : j < 3) : fa j = some (qv j) := h.1.2.2.2.2.2.1 j hj
theorem MGx.fb' (h : MGx G M a va oa wa ya wk th rfd br re la ha kp kv qv qw fa fb V O fy Wv wt S) (hj : j < 3) : fb j = some (qw j) := h.1.2.2.2.2.2.2.1 j hj
theorem MGx.rv (h : MGx G M a va oa wa ya wk th rfd br re la ha kp kv qv qw fa fb V O fy Wv wt S) (hj : j < 3) : M (qv j) = some (.inl (G.2 1, 100, .inl (fun k => iN (V j k)))) := h.1.2.2.2.2.2.2.2.1 j hj
theorem MGx.rw' (h : MGx G M a va oa wa ya wk th rfd br re la ha kp kv qv qw fa fb V O fy Wv wt S) (hj : j < 3) : ∃ fw : Nat → Int32, M (qw j) = some (.inl (G.2 1, 100, .inl fw)) ∧ ∀ k, k < 100 → fw k = iN ((mwN j k : Nat) : Int) := h.1.2.2.2.2.2.2.2.2.1 j hj
theorem MGx.or' (h : MGx G M a va oa wa ya wk th rfd br re la ha kp kv qv qw fa fb V O fy Wv wt S) (hj : j < 3) : O j < 3 := h.2.1.1 j hj
theorem MGx.vr (h : MGx G M a va oa wa ya wk th rfd br re la ha kp kv qv qw fa fb V O fy Wv wt S) (hj : j < 3) (hk : k < 100) : -10000 ≤ V j k ∧ V j k ≤ 9999 := h.2.1.2.1 j k hj hk
theorem MGx.vs (h : MGx G M a va oa wa ya wk th rfd br re la ha kp kv qv qw fa fb V O fy Wv wt S) (hj : j < 3) (hk : k < 100) : V j k ≠ -10000 → S k = true := h.2.1.2.2.1 j k hj hk
theorem MGx.sc (h : MGx G M a va oa wa ya wk th rfd br re la ha kp kv qv qw fa fb V O fy Wv wt S) : (0 ≤ th ∧ th ≤ 3) ∧ (br = 0 ∨ br = 1) ∧ (-1 ≤ re ∧ re ≤ 999) ∧ (la = -10000 ∨ (0 ≤ la ∧ la ≤ 99)) ∧ (ha = -10000 ∨ (0 ≤ ha ∧ ha ≤ 99)) := h.2.1.2.2.2
theorem MGx.vw (h : MGx G M a va oa wa ya wk th rfd br re la ha kp kv qv qw fa fb V O fy Wv wt S) (hj : j < 4) : ItO G M (fy j) (Wv j) := h.2.2.1 j hj
theorem MGx.wk' (h : MGx G M a va oa wa ya wk th rfd br re la ha kp kv qv qw fa fb V O fy Wv wt S) : ItO G M wk wt := h.2.2.2
theorem MGx.ext (h : MGx G M a va oa wa ya wk th rfd br re la ha kp kv qv qw fa fb V O fy Wv wt S) (hx : xExt M M1) : MGx G M1 a va oa wa ya wk th rfd br re la ha kp kv qv qw fa fb V O fy Wv wt S := by
  obtain ⟨⟨h1, h2, h3, h4, h5, h6, h7, h8, h9, h10, h11⟩, hf, hi⟩ := h
  exact ⟨⟨hx _ _ h1, hx _ _ h2, hx _ _ h3, hx _ _ h4, hx _ _ h5, h6, h7, fun j hj => hx _ _ (h8 j hj), fun j hj => by obtain ⟨fw, g1, g2⟩ := h9 j hj; exact ⟨fw, hx _ _ g1, g2⟩, h10, h11⟩, hf, hi.x5 hx.x5⟩
/-- more keys are allowed -/
theorem MGx.more (h : MGx G M a va oa wa ya wk th rfd br re la ha kp kv qv qw fa fb V O fy Wv wt S) (hS : ∀ k, S k = true → S2 k = true) : MGx G M a va oa wa ya wk th rfd br re la ha kp kv qv qw fa fb V O fy Wv wt S2 := by
  obtain ⟨h1, ⟨h2, h4, h5, h6⟩, h7⟩ := h
  exact ⟨h1, ⟨h2, h4, fun j k hj hk hn => hS k (h5 j k hj hk hn), h6⟩, h7⟩
theorem MGx.obj5 {x : _} (h : MGx G M a va oa wa ya wk th rfd br re la ha kp kv qv qw fa fb V O fy Wv wt S) (hM : M1 = va_up M a x) : xI5 G M M1 := fun y f hy => by
  rw [hM, va_up_ne _ _ (fun z => by rw [z, h.1.1] at hy; cases hy)]; exact hy
/-- its own cell was written -/
theorem MGx.obj (h : MGx G M a va oa wa ya wk th rfd br re la ha kp kv qv qw fa fb V O fy Wv wt S) (hM : M1 = va_up M a (some (.inr (7, [.int (iN (th2)), .int rfd2, .ref va, .ref oa, .ref wa, .ref ya, va_rf wk2, .int (iN (br2)), .int (iN (re2)), .int (iN (la2)), .int (iN (ha2)), .int kp2, .int kv2]))))
    (hs : (0 ≤ th2 ∧ th2 ≤ 3) ∧ (br2 = 0 ∨ br2 = 1) ∧ (-1 ≤ re2 ∧ re2 ≤ 999) ∧ (la2 = -10000 ∨ (0 ≤ la2 ∧ la2 ≤ 99)) ∧ (ha2 = -10000 ∨ (0 ≤ ha2 ∧ ha2 ≤ 99))) (hk : ItO G M wk2 wt2) : MGx G M1 a va oa wa ya wk2 th2 rfd2 br2 re2 la2 ha2 kp2 kv2 qv qw fa fb V O fy Wv wt2 S := by
  have hx := h.obj5 hM
  obtain ⟨⟨h1, h2, h3, h4, h5, h6, h7, h8, h9, h10, h11⟩, ⟨f1, f2, f3, f4⟩, hi⟩ := h
  have ko : ∀ {b : Nat} {z : _}, M b = some (.inl z) → M1 b = some (.inl z) := fun {b z} hb => by rw [hM, va_up_ne _ _ (fun q => by rw [q, h1] at hb; cases hb)]; exact hb
  exact ⟨⟨by rw [hM, va_up_self], ko h2, ko h3, ko h4, ko h5, h6, h7, fun j hj => ko (h8 j hj), fun j hj => by obtain ⟨fw, g1, g2⟩ := h9 j hj; exact ⟨fw, ko g1, g2⟩, h10, h11⟩, ⟨f1, f2, f3, hs⟩, fun j hj => (hi.1 j hj).x5 hx, hk.x5 hx⟩
theorem MGx.val5 {x : _} (h : MGx G M a va oa wa ya wk th rfd br re la ha kp kv qv qw fa fb V O fy Wv wt S) (hj : j < 3) (hM : M1 = va_up M (qv j) x) : xI5 G M M1 := fun y f hy => by
  rw [hM, va_up_ne _ _ (fun z => by rw [z, h.rv hj] at hy; cases hy)]; exact hy
/-- a value was written -/
theorem MGx.val {v : Int} (h : MGx G M a va oa wa ya wk th rfd br re la ha kp kv qv qw fa fb V O fy Wv wt S) (hj : j < 3) (hM : M1 = va_up M (qv j) (some (.inl (G.2 1, 100, .inl (upd (fun k => iN (V j k)) k (iN v)))))) (hv : -10000 ≤ v ∧ v ≤ 9999) (hs : v ≠ -10000 → S k = true) :
    MGx G M1 a va oa wa ya wk th rfd br re la ha kp kv qv qw fa fb (upB V j (upV (V j) k v)) O fy Wv wt S := by
  have hx := h.val5 hj hM
  have hjv := h.rv hj
  obtain ⟨⟨h1, h2, h3, h4, h5, h6, h7, h8, h9, h10, h11⟩, ⟨f1, f2, f3, f4⟩, hi⟩ := h
  have ko : ∀ {b : Nat} {z : _}, M b = some z → (∀ f, z ≠ .inl (G.2 1, 100, .inl f)) → M1 b = some z := fun {b z} hb hn => by rw [hM, va_up_ne _ _ (fun q => by rw [q, hjv] at hb; exact hn _ (Option.some.inj hb).symm)]; exact hb
  refine ⟨⟨ko h1 (fun _ => by simp), ko h2 (fun _ => by simp), ko h3 (fun _ => by simp), ko h4 (fun _ => by simp), ko h5 (fun _ => by simp), h6, h7, fun i hi => ?_, fun i hi => ?_, h10, h11⟩, ⟨f1, fun i q hi hq => ?_, fun i q hi hq hn => ?_, f4⟩, hi.x5 hx⟩
  · by_cases e : i = j
    · subst e
      rw [hM, va_up_self, upB_s]
      have e2 : (upd (fun k => iN (V i k)) k (iN v)) = fun q => iN (upV (V i) k v q) := by
        funext q
        by_cases e3 : q = k
        · subst e3; rw [upV_s]; simp [upd]
        · rw [upV_n _ _ e3]; simp [upd, e3]
      rw [e2]
    · rw [hM, va_up_ne _ _ (h10 i j hi hj e), upB_n _ _ e]; exact h8 i hi
  · obtain ⟨fw, g1, g2⟩ := h9 i hi
    exact ⟨fw, by rw [hM, va_up_ne _ _ (h11 i j hi hj)]; exact g1, g2⟩
  · by_cases e : i = j
    · subst e
      rw [upB_s]
      by_cases e2 : q = k
      · subst e2; rw [upV_s]; exact hv
      · rw [upV_n _ _ e2]; exact f2 i q hi hq
    · rw [upB_n _ _ e]; exact f2 i q hi hq
  · by_cases e : i = j
    · subst e
      rw [upB_s] at hn
      by_cases e2 : q = k
      · subst e2; rw [upV_s] at hn; exact hs hn
      · rw [upV_n _ _ e2] at hn; exact f3 i q hi hq hn
    · rw [upB_n _ _ e] at hn; exact f3 i q hi hq hn
theorem MGx.ord5 {x : _} (h : MGx G M a va oa wa ya wk th rfd br re la ha kp kv qv qw fa fb V O fy Wv wt S) (hM : M1 = va_up M oa x) : xI5 G M M1 := fun y f hy => by
  rw [hM, va_up_ne _ _ (fun z => by rw [z, h.1.2.2.1] at hy; cases hy)]; exact hy
/-- an order was written -/
theorem MGx.ord {v : Int} {o : Nat} (h : MGx G M a va oa wa ya wk th rfd br re la ha kp kv qv qw fa fb V O fy Wv wt S) (hM : M1 = va_up M oa (some (.inl (G.2 1, 3, .inl (upd (fun j => iN ((O j : Nat) : Int)) k (iN v)))))) (ho : o < 3) (hv : v = (o : Nat)) :
    MGx G M1 a va oa wa ya wk th rfd br re la ha kp kv qv qw fa fb V (upO O k o) fy Wv wt S := by
  have hx := h.ord5 hM
  obtain ⟨⟨h1, h2, h3, h4, h5, h6, h7, h8, h9, h10, h11⟩, ⟨f1, f2, f3, f4⟩, hi⟩ := h
  have ko : ∀ {b : Nat} {z : _}, M b = some z → (∀ f, z ≠ .inl (G.2 1, 3, .inl f)) → M1 b = some z := fun {b z} hb hn => by rw [hM, va_up_ne _ _ (fun q => by rw [q, h3] at hb; exact hn _ (Option.some.inj hb).symm)]; exact hb
  refine ⟨⟨ko h1 (fun _ => by simp), ko h2 (fun _ => by simp), ?_, ko h4 (fun _ => by simp), ko h5 (fun _ => by simp), h6, h7, fun i hi => ko (h8 i hi) (fun _ => by simp), fun i hi => by obtain ⟨fw, g1, g2⟩ := h9 i hi; exact ⟨fw, ko g1 (fun _ => by simp), g2⟩, h10, h11⟩, ⟨fun i hi => ?_, f2, f3, f4⟩, hi.x5 hx⟩
  · rw [hM, va_up_self]
    have e2 : (upd (fun j => iN ((O j : Nat) : Int)) k (iN v)) = fun q => iN ((upO O k o q : Nat) : Int) := by
      funext q
      by_cases e3 : q = k
      · subst e3; rw [upO_s]; simp [upd, hv]
      · rw [upO_n _ _ e3]; simp [upd, e3]
    rw [e2]
  · by_cases e : i = k
    · subst e; rw [upO_s]; exact ho
    · rw [upO_n _ _ e]; exact f1 i hi
theorem MGx.vws5 {x : _} (h : MGx G M a va oa wa ya wk th rfd br re la ha kp kv qv qw fa fb V O fy Wv wt S) (hM : M1 = va_up M ya x) : xI5 G M M1 := fun y f hy => by
  rw [hM, va_up_ne _ _ (fun z => by rw [z, h.1.2.2.2.2.1] at hy; simp at hy)]; exact hy
/-- the row of views was written -/
theorem MGx.vws (h : MGx G M a va oa wa ya wk th rfd br re la ha kp kv qv qw fa fb V O fy Wv wt S) (hM : M1 = va_up M ya (some (.inl (G.2 4, 4, .inr (.inr (.inr (.inr fy2))))))) (hv : ∀ j, j < 4 → ItO G M (fy2 j) (W2 j)) :
    MGx G M1 a va oa wa ya wk th rfd br re la ha kp kv qv qw fa fb V O fy2 W2 wt S := by
  have hx := h.vws5 hM
  obtain ⟨⟨h1, h2, h3, h4, h5, h6, h7, h8, h9, h10, h11⟩, hf, hi⟩ := h
  have ko : ∀ {b : Nat} {z : _}, M b = some z → (∀ f, z ≠ .inl (G.2 4, 4, f)) → M1 b = some z := fun {b z} hb hn => by rw [hM, va_up_ne _ _ (fun q => by rw [q, h5] at hb; exact hn _ (Option.some.inj hb).symm)]; exact hb
  exact ⟨⟨ko h1 (fun _ => by simp), ko h2 (fun _ => by simp), ko h3 (fun _ => by simp), ko h4 (fun _ => by simp), by rw [hM, va_up_self], h6, h7, fun i hi => ko (h8 i hi) (fun _ => by simp), fun i hi => by obtain ⟨fw, g1, g2⟩ := h9 i hi; exact ⟨fw, ko g1 (fun _ => by simp), g2⟩, h10, h11⟩, hf, fun j hj => (hv j hj).x5 hx, hi.2.x5 hx⟩
end MGS
/-- the reference's walk, beside the state's -/
def abM (O : OW) (wt : Option VT) (br re la ha : Int) : WA → Prop
  | none => wt = none ∧ br = 0 ∧ ha = -10000
  | some (t, ps, cd, hd, b2) => wt = some t ∧ br = b2 ∧ re = rcW O t ps ∧ la = (if cd = 1 then ps else -10000) ∧ ha = (if hd = 1 then ps else -10000) ∧ (cd = 0 ∨ cd = 1) ∧ (hd = 0 ∨ hd = 1) ∧ (hd = 1 → cd = 1) ∧ (cd = 1 → ps ≠ -10000) ∧ (ps = -10000 ∨ (0 ≤ ps ∧ ps ≤ 99)) ∧ (br = 0 ∨ br = 1)
/-- an object of the model in a state; what it threw; the keys that may have values -/
def MGm (G : xG) (M : HM) (a : Nat) (S : Nat → Bool) (th : Int) (s : ST) : Prop := ∃ (va oa wa ya : Nat) (wk : Option Nat) (br re la ha : Int) (qv qw : Nat → Nat) (fa fb : Nat → Option Nat) (fy : Nat → Option Nat) (wt : Option VT), MGx G M a va oa wa ya wk th s.rf br re la ha s.kk s.kv qv qw fa fb s.V s.O fy s.W wt S ∧ abM s.O wt br re la ha s.K
/-- whether the walk is in a book -/
def inB (wt : Option VT) (b : Nat) : Int := match wt with
  | none => 0
  | some t => if t.b = b then 1 else 0
theorem inB_none (b : Nat) : inB none b = 0 := rfl
theorem inB_eq {t : VT} {b : Nat} (h : t.b = b) : inB (some t) b = 1 := if_pos h
theorem inB_ne {t : VT} {b : Nat} (h : t.b ≠ b) : inB (some t) b = 0 := if_neg h
/-- broken by what changed at the keys below n -/
def brL (wt : Option VT) (b : Nat) (V F : Nat → Int) (n : Nat) (br : Int) : Int := if inB wt b = 1 ∧ cgN V F n ≠ 0 then 1 else br
/-- how many -/
def mC (S : Nat → Bool) : Nat → Nat
  | 0 => 0
  | n + 1 => mC S n + (if S n = true then 1 else 0)
theorem mC_le (S : Nat → Bool) : ∀ n, mC S n ≤ n
  | 0 => Nat.le_refl _
  | n + 1 => by
    have h := mC_le S n
    simp only [mC]; split <;> omega
theorem mC_mono {S T : Nat → Bool} (h : ∀ k, T k = true → S k = true) : ∀ n, mC T n ≤ mC S n
  | 0 => Nat.le_refl _
  | n + 1 => by
    have h1 := mC_mono h n
    have h2 := h n
    simp only [mC]
    by_cases e : T n = true
    · rw [if_pos e, if_pos (h2 e)]; omega
    · rw [if_neg e]; split <;> omega
theorem mC_lt {S T : Nat → Bool} (h : ∀ k, T k = true → S k = true) {k : Nat} (hs : S k = true) (ht : T k = false) : ∀ n, k < n → mC T n < mC S n
  | 0, hk => absurd hk (Nat.not_lt_zero _)
  | n + 1, hk => by
    simp only [mC]
    by_cases e : k = n
    · subst e
      have h1 := mC_mono h k
      rw [if_pos hs, if_neg (by rw [ht]; decide)]; omega
    · have h1 := mC_lt h hs ht n (by omega)
      have h2 := h n
      by_cases e2 : T n = true
      · rw [if_pos e2, if_pos (h2 e2)]; omega
      · rw [if_neg e2]; split <;> omega
/-- how many lie behind a weight -/
def mAb (S : Nat → Bool) (W : Nat → Int) (w : Int) : Nat := mC (fun k => S k && decide (w < W k)) 100
theorem mAb_lt {S : Nat → Bool} {W : Nat → Int} {w : Int} {k : Nat} (hs : S k = true) (hk : k < 100) (hw : w < W k) : mAb S W (W k) < mAb S W w := by
  refine mC_lt (k := k) (fun j hj => ?_) ?_ ?_ 100 hk
  · simp only [Bool.and_eq_true, decide_eq_true_eq] at hj ⊢
    exact ⟨hj.1, by omega⟩
  · simp [hs, hw]
  · simp
theorem mAb_le {S : Nat → Bool} {W : Nat → Int} {k : Nat} (hs : S k = true) (hk : k < 100) : mAb S W (W k) + 1 ≤ mC S 100 := by
  have h := mC_lt (S := S) (T := fun j => S j && decide (W k < W j)) (k := k) (fun j hj => by simp only [Bool.and_eq_true] at hj; exact hj.1) hs (by simp) 100 hk
  exact h
