/-! two maps side by side; methods with handlers; Out -/
def xU (A B : HM) : HM := fun a => match A a with
  | some x => some x
  | none => B a
def xDis (A B : HM) : Prop := ∀ a, A a ≠ none → B a = none
theorem xU_l {A B : HM} {a : Nat} {x : va_E} (h : A a = some x) : xU A B a = some x := by simp [xU, h]
theorem xU_r {A B : HM} {a : Nat} (h : A a = none) : xU A B a = B a := by simp [xU, h]
theorem xU_b {A B : HM} {a : Nat} {x : va_E} (hd : xDis A B) (h : B a = some x) : xU A B a = some x := by
  rw [xU_r]
  · exact h
  · cases e : A a with
    | none => rfl
    | some y => rw [hd a (by rw [e]; exact fun q => nomatch q)] at h; cases h
theorem xDis.symm {A B : HM} (h : xDis A B) : xDis B A := fun a hb => by
  cases e : A a with
  | none => rfl
  | some y => exact absurd (h a (by rw [e]; exact fun q => nomatch q)) hb
theorem xU_comm {A B : HM} (h : xDis A B) : xU A B = xU B A := by
  funext a
  cases e : A a with
  | none =>
    rw [xU_r e]
    cases e2 : B a with
    | none => rw [xU_r e2, e]
    | some y => rw [xU_l e2]
  | some x =>
    rw [xU_l e, xU_r (h a (by rw [e]; exact fun q => nomatch q)), e]
theorem xU_assoc (A B C : HM) : xU (xU A B) C = xU A (xU B C) := by
  funext a
  simp only [xU]
  cases A a <;> rfl
theorem xU_none {A B : HM} {a : Nat} : xU A B a ≠ none ↔ A a ≠ none ∨ B a ≠ none := by
  simp only [xU]
  cases e : A a with
  | none => simp
  | some x => simp
theorem va_D_pl {P : Nat → Prop} {L : List Nat} {f : Nat → va_E} : va_D P (va_pl L f) ↔ L.Nodup ∧ ∀ a ∈ L, P a := by
  constructor
  · intro h
    refine ⟨List.pairwise_iff_getElem.mpr (fun i j hi hj hij e => ?_), fun a ha => ?_⟩
    · have g : ∀ (i : Nat) (hi : i < L.length), (va_pl L f)[i]? = some (L[i], f L[i]) := fun i hi => by simp [va_pl, List.getElem?_map, List.getElem?_eq_getElem hi]
      have := h.1 i j _ _ (g i hi) (g j hj) e
      omega
    · obtain ⟨k, hk⟩ := va_pl_get (X := []) (f := f) ha
      exact h.2 k _ hk
  · intro h
    refine ⟨fun i j p q hp hq e => ?_, fun k q hq => ?_⟩
    · simp only [va_pl, List.getElem?_map, Option.map_eq_some_iff] at hp hq
      obtain ⟨x, hx, rfl⟩ := hp
      obtain ⟨y, hy, rfl⟩ := hq
      obtain ⟨hi, hx⟩ := List.getElem?_eq_some_iff.mp hx
      obtain ⟨hj, hy⟩ := List.getElem?_eq_some_iff.mp hy
      have e : x = y := e
      have hn := List.pairwise_iff_getElem.mp h.1
      rcases Nat.lt_trichotomy i j with g | g | g
      · exact absurd (hx.trans (e.trans hy.symm)) (hn i j hi hj g)
      · exact g
      · exact absurd (hy.trans (e.symm.trans hx.symm)) (hn j i hj hi g)
    · obtain ⟨a, ha, rfl⟩ := List.mem_map.mp (List.mem_of_getElem? hq)
      exact h.2 a ha
theorem xPW_iff {G : xG} {P : Nat → Prop} {M : HM} {H : Heap} : xPW G P M H ↔ ∃ L : List Nat, (∀ a, a ∈ L ↔ M a ≠ none) ∧ L.Nodup ∧ (∀ a ∈ L, va_at G.1 vwCl (a, xL M a) H) ∧ ∀ a ∈ L, P a := by
  constructor
  · rintro ⟨L, h1, h2, h3⟩
    obtain ⟨h4, h5⟩ := va_D_pl.mp h3
    refine ⟨L, h1, h4, fun a ha => ?_, h5⟩
    obtain ⟨k, hk⟩ := va_pl_get (X := []) (f := xL M) ha
    exact h2 k _ hk
  · rintro ⟨L, h1, h2, h3, h4⟩
    refine ⟨L, h1, fun k q hq => ?_, va_D_pl.mpr ⟨h2, h4⟩⟩
    obtain ⟨a, ha, rfl⟩ := List.mem_map.mp (List.mem_of_getElem? hq)
    exact h3 a ha
theorem xPW.left {G : xG} {P : Nat → Prop} {A B : HM} {H : Heap} (h : xPW G P (xU A B) H) : xPW G P A H := by
  obtain ⟨L, h1, h2, h3, h4⟩ := xPW_iff.mp h
  refine xPW_iff.mpr ⟨L.filter (fun a => (A a).isSome), fun a => ?_, h2.sublist List.filter_sublist, fun a ha => ?_, fun a ha => h4 a (List.mem_filter.mp ha).1⟩
  · rw [List.mem_filter, h1]
    cases e : A a with
    | none => simp
    | some x => simp [xU_l e]
  · obtain ⟨ha, hs⟩ := List.mem_filter.mp ha
    have h9 := h3 a ha
    cases e : A a with
    | none => rw [e] at hs; cases hs
    | some x =>
      have e1 : xL (xU A B) a = xL A a := by simp [xL, xU_l e, e]
      rw [e1] at h9
      exact h9
theorem xPW.join {G : xG} {P P1 P2 : Nat → Prop} {A B : HM} {H : Heap} (hd : xDis A B) (h1 : xPW G P1 A H) (h2 : xPW G P2 B H) (hp : ∀ a, A a ≠ none → P1 a → P a) (hq : ∀ a, B a ≠ none → P2 a → P a) : xPW G P (xU A B) H := by
  obtain ⟨L, a1, a2, a3, a4⟩ := xPW_iff.mp h1
  obtain ⟨L2, b1, b2, b3, b4⟩ := xPW_iff.mp h2
  refine xPW_iff.mpr ⟨L ++ L2, fun a => ?_, List.pairwise_append.mpr ⟨a2, b2, fun a ha b hb e => ?_⟩, fun a ha => ?_, fun a ha => ?_⟩
  · rw [List.mem_append, a1, b1, xU_none]
  · subst e; exact (b1 a).mp hb (hd a ((a1 a).mp ha))
  · rcases List.mem_append.mp ha with g | g
    · have n := (a1 a).mp g
      cases e : A a with
      | none => exact absurd e n
      | some x =>
        have e1 : xL (xU A B) a = xL A a := by simp [xL, xU_l e, e]
        rw [e1]; exact a3 a g
    · have n := (b1 a).mp g
      cases e : B a with
      | none => exact absurd e n
      | some x =>
        have e1 : xL (xU A B) a = xL B a := by simp [xL, xU_b hd e, e]
        rw [e1]; exact b3 a g
  · rcases List.mem_append.mp ha with g | g
    · exact hp a ((a1 a).mp g) (a4 a g)
    · exact hq a ((b1 a).mp g) (b4 a g)
theorem xPW.keep {G : xG} {P : Nat → Prop} {M : HM} {H H1 : Heap} (h : xPW G P M H) (hq : ∀ a, M a ≠ none → H1[a]? = H[a]?) : xPW G P M H1 := by
  obtain ⟨L, h1, h2, h3⟩ := h
  refine ⟨L, h1, h2.kept (fun k q hk => ?_), h3⟩
  obtain ⟨a, ha, rfl⟩ := List.mem_map.mp (List.mem_of_getElem? hk)
  exact hq a ((h1 a).mp ha)
theorem xPW.lt {G : xG} {P : Nat → Prop} {M : HM} {H : Heap} (h : xPW G P M H) {a : Nat} (ha : M a ≠ none) : a < H.size := by
  obtain ⟨L, h1, h2, h3⟩ := h
  obtain ⟨k, hk⟩ := va_pl_get (X := []) (f := xL M) ((h1 a).mpr ha)
  exact (h2 k _ hk).lt
theorem xPW.of' {G : xG} {P : Nat → Prop} {M : HM} {H : Heap} (h : xPW G P M H) {a : Nat} (ha : M a ≠ none) : P a := by
  obtain ⟨L, h1, h2, h3⟩ := h
  obtain ⟨k, hk⟩ := va_pl_get (X := []) (f := xL M) ((h1 a).mpr ha)
  exact h3.2 k _ hk
/-- a contract over one map holds beside another -/
theorem xMet.frame {l : Launch} {G : xG} {y : MethodName} {ws : List Cond} {fr lo mc ms : Nat} {av : List Value} {A B : HM} {Q : Option Value → HM → Prop} (h : xMet l G y ws fr lo mc ms av A Q) (hd : xDis A B) :
    xMet l G y ws fr lo mc ms av (xU A B) (fun r M1 => ∃ A1, Q r A1 ∧ M1 = xU A1 B ∧ xDis A1 B) := by
  intro sz
  have h := h sz
  have hAA : ∀ q, xA A sz q → xA (xU A B) sz q := fun q hq => hq.elim (fun g => Or.inl (xU_none.mpr (Or.inl g))) Or.inr
  intro p e he hf hk s m args below hs happ hP hK
  obtain ⟨e1, e2, e3, e4⟩ := hP
  obtain ⟨n, o, g1, g2, g3, ⟨⟨r, A1, go, gq, gp⟩, gF⟩, L, gL, gfree⟩ := h p e he hf hk s m args below hs happ ⟨e1, e2, e3.narrow hAA, e4.left⟩ hK
  have eB : xPW G (fun _ => True) B s.heap := by
    rw [xU_comm hd] at e4; exact e4.left
  have hBn : ∀ a, B a ≠ none → ¬ xA A sz a := fun a ha hx => by
    rcases hx with g | g
    · exact ha (hd a g)
    · have := eB.lt ha
      omega
  have hd1 : xDis A1 B := fun a ha => by
    cases eb : B a with
    | none => rfl
    | some x => exact absurd (gp.of' ha) (hBn a (by rw [eb]; exact fun q => nomatch q))
  refine ⟨n, o, g1, g2, g3, ⟨⟨r, xU A1 B, go, ⟨A1, gq, rfl, hd1⟩, ?_⟩, gF.1, fun q hq hn => gF.2 q hq (fun hx => hn (hAA q hx))⟩, L, gL, fun q hq => hAA _ (gfree q hq)⟩
  refine xPW.join hd1 gp (eB.keep (fun a ha => gF.2 a (eB.lt ha) (hBn a ha))) (fun a ha hx => hAA a hx) (fun a ha _ => Or.inl (xU_none.mpr (Or.inr ha)))
theorem xMetX.frame {l : Launch} {G : xG} {y : MethodName} {ws : List Cond} {fr lo mc ms : Nat} {av : List Value} {A B : HM} {Q : Option Value → HM → Prop} {QX : String → HM → Prop} (h : xMetX l G y ws fr lo mc ms av A Q QX) (hd : xDis A B) :
    xMetX l G y ws fr lo mc ms av (xU A B) (fun r M1 => ∃ A1, Q r A1 ∧ M1 = xU A1 B ∧ xDis A1 B) (fun E M1 => ∃ A1, QX E A1 ∧ M1 = xU A1 B ∧ xDis A1 B) := by
  intro sz
  have h := h sz
  have hAA : ∀ q, xA A sz q → xA (xU A B) sz q := fun q hq => hq.elim (fun g => Or.inl (xU_none.mpr (Or.inl g))) Or.inr
  intro p e he hf hk s m args below hs happ hP hK
  obtain ⟨e1, e2, e3, e4⟩ := hP
  obtain ⟨n, o, g1, g2, g3, g4⟩ := h p e he hf hk s m args below hs happ ⟨e1, e2, e3.narrow hAA, e4.left⟩ hK
  have eB : xPW G (fun _ => True) B s.heap := by
    rw [xU_comm hd] at e4; exact e4.left
  have hBn : ∀ a, B a ≠ none → ¬ xA A sz a := fun a ha hx => by
    rcases hx with g | g
    · exact ha (hd a g)
    · have := eB.lt ha
      omega
  have key : ∀ {A1 : HM} {t : State}, xPW G (xA A sz) A1 t.heap → va_F (xA A sz) s t → xDis A1 B ∧ xPW G (xA (xU A B) sz) (xU A1 B) t.heap ∧ va_F (xA (xU A B) sz) s t := fun {A1 t} gp gF => by
    have hd1 : xDis A1 B := fun a ha => by
      cases eb : B a with
      | none => rfl
      | some x => exact absurd (gp.of' ha) (hBn a (by rw [eb]; exact fun q => nomatch q))
    exact ⟨hd1, xPW.join hd1 gp (eB.keep (fun a ha => gF.2 a (eB.lt ha) (hBn a ha))) (fun a ha hx => hAA a hx) (fun a ha _ => Or.inl (xU_none.mpr (Or.inr ha))), gF.1, fun q hq hn => gF.2 q hq (fun hx => hn (hAA q hx))⟩
  refine ⟨n, o, g1, g2, g3, ?_⟩
  rcases g4 with ⟨⟨⟨r, A1, go, gq, gp⟩, gF⟩, L, gL, gfree⟩ | ⟨q, ho, E, ce, L, ⟨⟨A1, gq, gp⟩, gF⟩, g5, g6, g7, g8, g9, gfree⟩
  · obtain ⟨k1, k2, k3⟩ := key gp gF
    exact Or.inl ⟨⟨⟨r, xU A1 B, go, ⟨A1, gq, rfl, k1⟩, k2⟩, k3⟩, L, gL, fun q hq => hAA _ (gfree q hq)⟩
  · obtain ⟨k1, k2, k3⟩ := key gp gF
    exact Or.inr ⟨q, ho, E, ce, L, ⟨⟨xU A1 B, ⟨A1, gq, rfl, k1⟩, k2⟩, k3⟩, g5, g6, g7, g8, g9, fun q hq => hAA _ (gfree q hq)⟩
/-- a method with handlers that lets nothing through -/
theorem x_introW {l : Launch} {G : xG} {y : MethodName} {ws ws' : List Cond} {fr lo mc ms maxL : Nat} {av : List Value} {M : HM} {Q1 : Option Value → HM → Prop} {cc : ByteArray} {ret : Option FieldType} {hh : List (Nat × Nat × Nat × Nat)} (hy : plainName y.cls = true) (hws : ws = Cond.codeWith y cc maxL ret hh :: ws') (hav : (lg_sl av).length ≤ maxL)
    (body : ∀ (p : Program) (e : Env) (R : Room) (s : State) (m : MethodId) (args : Array Value) (below : List Frame) (meth : Method) (c : Code) (ls : Array Slot), R.frames = fr → R.cells = mc → R.slots = ms → R.locals = lo → c.exceptionTable.toList = tableOf hh → xB p s m args meth c cc maxL y.cls y.name ws ret G (xA M s.heap.size) → xD G (xA M s.heap.size) s M s.heap [] → lv_has ls maxL (lv_args 0 av) →
      W p l e R s m args below meth c s.heap [] 0 0 (vx_MQ below (xQc G M s.heap.size Q1) (fun _ _ _ => False) args s mc ms (xA M s.heap.size)) (F0 m 0 ls [])) : xMet l G y ws fr lo mc ms av M Q1 := by
  intro sz
  have h : vx_Met l y ws { frames := fr, cells := mc, slots := ms, locals := lo } (xPc G M av sz) (xQc G M sz Q1) (fun _ _ _ => False) mc ms (xA M sz) := by
    refine vx_ofWH (cc := cc) (maxL := maxL) (ret := ret) hy hws ?_
    intro p e s m args below meth c s₁ B hml hv
    have htab := vx_table (x := y) B (atoms_spec (ws := ws) B.pre _ (by rw [hws]; exact List.mem_cons_self))
    obtain ⟨rfl, hsz, hS, hP⟩ := hv
    subst hsz
    have hl := lv_entry av (n := maxL) hav
    rw [lg_entry_eq]
    exact body p e _ s m _ below meth c _ rfl rfl rfl rfl htab ⟨B.exec, B.bytes, hml, findClass_of_methodNamed B.named, atoms_spec B.pre, B.returns, B.notSynchronized, (name_of_methodNamed B.named B.method).1, hS, fun q h => Or.inr h⟩ ⟨hP.self _, va_S.rf⟩ hl
  intro p e he hf hk s m args below hs happ hP hK
  obtain ⟨n, o, g1, g2, g3, g4⟩ := h p e he hf hk s m args below hs happ hP hK
  rcases g4 with g | ⟨q, -, E, ce, L, hF, -⟩
  · exact ⟨n, o, g1, g2, g3, g⟩
  · exact hF.elim
section FROWS
variable {p : Program} {l : Launch} {e : Env} {R : Room} {s : State} {m : MethodId} {args : Array Value} {below : List Frame} {meth : Method} {c : Code} {H : Heap} {locs : List Loc} {cells slots : Nat} {Q : State → Prop}
variable {cc : ByteArray} {pc nL idx a : Nat} {ls : Array Slot} {st rest : List Value} {G : xG} {A : Nat → Prop} {M : HM} {own nm : String} {Ts : List Cond} {ret : Option FieldType} {v : Value}
/-- out.n = .. -/
theorem x_putOn {fs fs2 : List Value} (hC : xB p s m args meth c cc nL "RangeledgerLaw" nm Ts ret G A) (hw : xD G A s M H locs) (hin : ∀ w ∈ wsX40, w ∈ Ts) (he : M a = some (.inr (6, fs))) {d : Int64} (hl : 0 < fs.length) (hfs : fs.set 0 (.long d) = fs2) (hdg : decode cc pc = .ok (.putfield 13, 3))
    (kk : ∀ (H1 : Heap) (locs1 : List Loc), xD G A s (va_up M a (some (.inr (6, fs2)))) H1 locs1 → W p l e R s m args below meth c H1 locs1 cells slots Q (F0 m (pc + 3) ls rest)) : W p l e R s m args below meth c H locs cells slots Q (F0 m pc ls (.long d :: .ref a :: rest)) := by
  obtain ⟨L, q, h1, h2, h3, h4, h5, h6⟩ := hw.1.get he
  refine va_putN (D := G.1) hC.1 hC.2.1 hC.2.2.2.2.1 hin tyX4 tyX4_ok nmX4 hC.2.2.2.1 hC.2.2.2.2.2.2.2.2.1.1 h2 h3 hw.2 q h5 rfl 0 (by decide) (va_Nw.use rfl hC.2.2.2.2.2.2.2.2.1.2.2.2.2.2.1.2.2.2.1) (fun _ h => h) rfl (ty := .long) (by decide +kernel) rfl rfl hl hdg (fun H1 locs1 k1 k2 k3 => ?_)
  rw [hfs, h6] at k1 k2
  exact kk H1 locs1 ⟨xPW.of h1 he k1 k2, k3⟩
/-- out.s = .. -/
theorem x_putOs {fs fs2 : List Value} {q9 : Nat} (hC : xB p s m args meth c cc nL "RangeledgerLaw" nm Ts ret G A) (hw : xD G A s M H locs) (hin : ∀ w ∈ wsX40, w ∈ Ts) (he : M a = some (.inr (6, fs))) (hl : 1 < fs.length) (hfs : fs.set 1 (.ref q9) = fs2) (hdg : decode cc pc = .ok (.putfield 164, 3))
    (kk : ∀ (H1 : Heap) (locs1 : List Loc), xD G A s (va_up M a (some (.inr (6, fs2)))) H1 locs1 → W p l e R s m args below meth c H1 locs1 cells slots Q (F0 m (pc + 3) ls rest)) : W p l e R s m args below meth c H locs cells slots Q (F0 m pc ls (.ref q9 :: .ref a :: rest)) := by
  obtain ⟨L, q, h1, h2, h3, h4, h5, h6⟩ := hw.1.get he
  refine va_putN (D := G.1) hC.1 hC.2.1 hC.2.2.2.2.1 hin tyX4 tyX4_ok nmX4 hC.2.2.2.1 hC.2.2.2.2.2.2.2.2.1.1 h2 h3 hw.2 q h5 rfl 1 (by decide) (va_Nw.use rfl hC.2.2.2.2.2.2.2.2.1.2.2.2.2.2.1.2.2.2.2.1) (fun _ h => h) rfl (ty := .object "java/lang/String") (by decide +kernel) rfl rfl hl hdg (fun H1 locs1 k1 k2 k3 => ?_)
  rw [hfs, h6] at k1 k2
  exact kk H1 locs1 ⟨xPW.of h1 he k1 k2, k3⟩
end FROWS
