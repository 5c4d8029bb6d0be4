/-! the claim -/
/-! THE CLAIM OUT OF ONE WALK OF THE LAW'S BODY. Your part is whole_start (and what it stands on); all else here is the same for every law, but numbers. -/
def R_law : String := "RangeledgerLaw"
def lw_P (b : Addr) (xs : List Int32) (args : Array Value) (s : State) : Prop := args = #[.ref b] ∧ s.IntsAt b xs ∧ xs.length ≤ 3072 ∧ (Jvm.Cond.and given_1 narrow_1).before args s = true
def lw_Q (_ : Array Value) (s : State) (o : Outcome) (t : State) : Prop := o = .returned (some (.int 1)) ∧ Framed s o t [] room_1.cells room_1.slots
def lw_Z (below : List Frame) (a : Array Value) (s : State) : State → Prop := fun t => ∃ o, t.status = .running ∧ Ended t below o ∧ lw_Q a s o t
/-- the law's own end, with 1 on the stack, nothing written that was there before, its room as the claim has it -/
theorem lw_ret {p : Program} {l : Launch} {e : Env} {s : State} {m : MethodId} {below : List Frame} {meth : Method} {c : Code} {b : Nat} (hx : p.tables.exec = Jvm.exec) (hb : c.code = code) (hr : meth.sig.returnType = ret) (hlocks : meth.locks = false) {pc : Nat} {H : Heap} {ls : Array Slot} (hdg : decode code pc = .ok (.ireturn, 1)) : W p l e room_1 s m #[Value.ref b] below meth c H [] room_1.cells room_1.slots (lw_Z below #[Value.ref b] s) (F0 m pc ls [.int 1]) := by
  intro T hT X
  obtain ⟨fs, hret, hrun, hended, hW, hframe⟩ := X.leave (v := some (.int 1)) (hlocks := hlocks) (fun h => by rw [hr] at h; cases h)
  have hmeth' : T.vm.method? m = some meth := X.method'
  refine ⟨T.setFrames fs, ?_, .returned (some (.int 1)), hrun, hended, rfl, ⟨_, rfl⟩, hW, hframe⟩
  jvm_step X.here [X.here.top, hx, hb, hdg, hmeth', hr, ret, narrow_b1]
  (try refine ⟨rfl, ?_⟩); (try refine ⟨rfl, ?_⟩)
  first | (intro acts; rw [hret _ acts rfl rfl rfl]) | rw [hret _ _ rfl rfl rfl]
  exact Steps.refl _
/-- what holds at the law's entry: the machine, the code, the tables' words (any of lw_tbl by 'hts w (by decide +kernel)'), the script of L ints xs at the cell b, what the Statement gives of the start (any of its parts by flat_of_before) -/
def lw_At (p : Program) (s : State) (m : MethodId) (meth : Method) (c : Code) (b L : Nat) (xs : Nat → Int32) : Prop :=
  p.tables.exec = Jvm.exec ∧ c.code = code ∧ meth.sig.returnType = ret ∧ c.maxLocals = 7 ∧ s.vm.findClass R_law = some m.cls ∧ (∀ w ∈ lw_tbl, w.before #[Value.ref b] s = true) ∧ va_X b L xs s s.heap ∧ b < s.heap.size ∧ meth.locks = false ∧ (Jvm.Cond.and given_1 narrow_1).before #[Value.ref b] s = true
section XEND
variable {p : Program} {l : Launch} {e : Env} {R : Room} {s : State} {m : MethodId} {args : Array Value} {below : List Frame} {meth : Method} {c : Code} {H : Heap} {locs : List Loc} {cells slots : Nat} {Q : State → Prop}
variable {cc : ByteArray} {pc nL : Nat} {ls : Array Slot} {st rest : List Value} {G : xG} {A : Nat → Prop} {a : Nat} {M : HM} {own nm host : String} {Ts : List Cond} {ret : Option FieldType}
variable {y : MethodName} {wy wy' : List Cond} {bytes : ByteArray} {maxL : Nat} {fr lo mc ms idx : Nat} {As : List Value} {b : Nat} {Q1 : Option Value → HM → Prop}
/-- a nest mate's private constructor -/
theorem x_callIN (hC : xB p s m args meth c cc nL own nm Ts ret G A) (hw : xD G A s M H locs) (hls : ls.size = nL) (hM : xMet l G y wy fr lo mc ms (.ref b :: As) M Q1)
    (hg : GoodIn Ts wy) (hwy : wy = Cond.code y bytes maxL none :: wy') (hl : va_Nw (.methodLinkNest own idx y host) s) (h1 : Cond.initialized y.cls ∈ Ts) (h3 : Cond.instanceMethod y ∈ Ts) (hy1 : y.name = "<init>") (hd : y.cls ≠ "java/lang/invoke/MethodHandle" ∧ y.cls ≠ "java/lang/invoke/VarHandle" ∧ (parseMethodDescriptor y.desc).map (fun d => d.parameters.length) = some As.length)
    (hst : st = As.reverse ++ .ref b :: rest) (hrest : (rest.map fun v => v.category).sum ≤ 8)
    (hfr : fr + 1 ≤ R.frames) (hlo : 8 + (maxL + 11) + lo ≤ R.locals) (hcl : cells + mc ≤ R.cells) (hsl : slots + ms ≤ R.slots) (hdg : decode cc pc = .ok (.invokespecial idx, 3))
    (kk : ∀ (r : Option Value) (M1 : HM) (H1 : Heap) (locs1 : List Loc), Q1 r M1 → xD G A s M1 H1 locs1 → W p l e R s m args below meth c H1 locs1 (cells + mc) (slots + ms) Q (F0 m (pc + 3) ls (r.toList ++ rest))) : W p l e R s m args below meth c H locs cells slots Q (F0 m pc ls st) :=
  x_goes hC hw (va_runIN (As := As) (rest := rest) ⟨hC.1, hC.2.1, hC.2.2.1, hC.2.2.2.1, hC.2.2.2.2.1⟩ (hM H.size) ⟨va_cnB As.length hC.2.2.2.2.1 hg hwy rfl rfl hl (hC.2.2.2.2.1 _ h1) hd ⟨hfr, hlo⟩, hy1, hC.2.2.2.2.1 _ h3⟩ ⟨x_blind, x_pre hC hw (.ref b :: As)⟩ rfl rfl hls hst (lv_room hrest) hdg ⟨hcl, hsl⟩) kk
end XEND
theorem xMU {A B O : HM} (h1 : xDis B A) (h2 : xDis O (xU B A)) : xU O (xU B A) = xU (xU A O) B ∧ xDis A O ∧ xDis (xU A O) B := by
  have k1 : xDis O A := fun a ha => by
    have h := h2 a ha
    cases e : B a with
    | none => rw [xU_r e] at h; exact h
    | some x => rw [xU_l e] at h; cases h
  have k2 : xDis O B := fun a ha => by
    have h := h2 a ha
    cases e : B a with
    | none => rfl
    | some x => rw [xU_l e] at h; cases h
  refine ⟨?_, k1.symm, fun a ha => ?_⟩
  · rw [xU_comm h1, ← xU_assoc, xU_comm k1]
  · rcases xU_none.mp ha with h | h
    · exact h1.symm a h
    · exact k2 a h
set_option maxHeartbeats 4000000 in
set_option maxRecDepth 100000 in
theorem whole_start {p : Program} {e : Env} {s : State} {m : MethodId} {below : List Frame} {meth : Method} {c : Code} (l : Launch) (hflags : l.flags = flags0) {b L : Nat} {xs : Nat → Int32} (hL : L ≤ 3072) (C0 : lw_At p s m meth c b L xs) : W p l e room_1 s m #[Value.ref b] below meth c s.heap [] 0 0 (lw_Z below #[Value.ref b] s) (entryFrame m ([Value.ref b] : List Value).toArray 7) := by
  obtain ⟨hx, hb, hr, hml, hown, hts, hX, hbl, hlocks, hgv⟩ := id C0
  have hst : l.stackTraces = false := by simp only [Launch.stackTraces, hflags]; decide
  obtain ⟨G, hS⟩ := x_start hts hgv
  have hC : xB p s m #[Value.ref b] meth c cL_law 7 "RangeledgerLaw" meth.name wsL_law (some .boolean) G (xA (fun _ => none) s.heap.size) := ⟨hx, hb, hml, hown, fun w hw => x_selX hts w (wsL_law_in w hw), hr, hlocks, rfl, hS, fun q h => Or.inr h⟩
  have hw : xD G (xA (fun _ => none) s.heap.size) s (fun _ => none) s.heap [] := ⟨⟨[], fun a => by simp, fun k q h => by simp [va_pl] at h, fun i j p q h => by simp [va_pl] at h, fun k q h => by simp [va_pl] at h⟩, va_S.rf⟩
  have hl := lv_entry ([.ref b]) (n := 7) (Nat.le_of_ble_eq_true rfl)
  rw [lg_entry_eq]
  generalize (lg_sl ([.ref b]) ++ List.replicate (7 - (lg_sl ([.ref b])).length) Slot.unset).toArray = ls at hl ⊢
  have hl : lv_has ls 7 [(0, .ref b)] := hl
  refine x_new (fs := [.null, .null, .null, .int 0, .int 0, .int 0]) (ci := 5) hC hw rfl inlX3 tyX3 tyX3_ok (mwsL_law_0 _ (List.mem_of_getElem? (i := 0) rfl)) (mwsL_law_0 _ (List.mem_of_getElem? (i := 1) rfl)) (mwsL_law_0 _ (List.mem_of_getElem? (i := 2) rfl)) (fun j hj => by rcases (show j = 0 ∨ j = 1 ∨ j = 2 ∨ j = 3 ∨ j = 4 ∨ j = 5 by omega) with rfl | rfl | rfl | rfl | rfl | rfl <;> rfl) (Nat.le_of_ble_eq_true rfl) (Nat.le_of_ble_eq_true rfl) dL_law_0 (fun h0 H hq0 hw => ?_)
  obtain ⟨M1, hM1⟩ : ∃ z : HM, z = va_up (fun _ => none) h0 (some (.inr (5, [.null, .null, .null, .int 0, .int 0, .int 0]))) := ⟨_, rfl⟩
  rw [← hM1] at hw
  have hO := xup_s hM1
  have hx0 : xExt (fun _ => none) M1 := fun a e he => nomatch he
  refine lv_dup hC.1 hC.2.1 dL_law_3 rfl ?_
  refine x_callI hC hw (lv_size hl) (c_X3_init l G hO rfl hx0) ggL_law_X3_init rfl (mwsL_law_0 _ (List.mem_of_getElem? (i := 2) rfl)) (mwsL_law_0 _ (List.mem_of_getElem? (i := 9) rfl)) (mwsL_law_0 _ (List.mem_of_getElem? (i := 10) rfl)) rfl (by decide +kernel) rfl (Nat.le_of_ble_eq_true rfl) (Nat.le_of_ble_eq_true rfl) (Nat.le_of_ble_eq_true rfl) (Nat.le_of_ble_eq_true rfl) (Nat.le_of_ble_eq_true rfl) dL_law_4 (fun r9 A H locs hq hw => ?_)
  obtain ⟨hr9, -, hG⟩ := hq
  subst hr9
  show W p l e room_1 s m #[Value.ref b] below meth c H locs _ _ _ (F0 m 7 ls [.ref h0])
  refine lv_astore_n (lv' := [(1, .ref h0), (0, .ref b)]) hC.1 hC.2.1 dL_law_7 rfl hl (by decide) rfl (fun ls hl => ?_)
  refine x_new (fs := [.int 0, .int 0, .null, .null, .null, .null, .null, .int 0, .int 0, .int 0, .int 0, .int 0, .int 0]) (ci := 7) hC hw rfl inlX5 tyX5 tyX5_ok (mwsL_law_0 _ (List.mem_of_getElem? (i := 3) rfl)) (mwsL_law_0 _ (List.mem_of_getElem? (i := 4) rfl)) (mwsL_law_0 _ (List.mem_of_getElem? (i := 5) rfl)) (fun j hj => by rcases (show j = 0 ∨ j = 1 ∨ j = 2 ∨ j = 3 ∨ j = 4 ∨ j = 5 ∨ j = 6 ∨ j = 7 ∨ j = 8 ∨ j = 9 ∨ j = 10 ∨ j = 11 ∨ j = 12 by omega) with rfl | rfl | rfl | rfl | rfl | rfl | rfl | rfl | rfl | rfl | rfl | rfl | rfl <;> rfl) (Nat.le_of_ble_eq_true rfl) (Nat.le_of_ble_eq_true rfl) dL_law_8 (fun a H hqa hw => ?_)
  obtain ⟨e1, hd1⟩ := xU_new (A := A) (x := .inr (7, [.int 0, .int 0, .null, .null, .null, .null, .null, .int 0, .int 0, .int 0, .int 0, .int 0, .int 0])) hqa
  rw [e1] at hw
  refine lv_dup hC.1 hC.2.1 dL_law_11 rfl ?_
  refine x_callI hC hw (lv_size hl) ((c_X5_init l G (Mb := fun _ => none) (va_up_self _ _ _) rfl (fun a e he => nomatch he)).frame hd1) ggL_law_X5_init rfl (mwsL_law_0 _ (List.mem_of_getElem? (i := 5) rfl)) (mwsL_law_1 _ (List.mem_of_getElem? (i := 8) rfl)) (mwsL_law_1 _ (List.mem_of_getElem? (i := 9) rfl)) rfl (by decide +kernel) rfl (Nat.le_of_ble_eq_true rfl) (Nat.le_of_ble_eq_true rfl) (Nat.le_of_ble_eq_true rfl) (Nat.le_of_ble_eq_true rfl) (Nat.le_of_ble_eq_true rfl) dL_law_12 (fun r9 M2 H locs hq hw => ?_)
  obtain ⟨B, ⟨hr9, -, hm⟩, hM2, hd2⟩ := hq
  subst hr9
  subst hM2
  show W p l e room_1 s m #[Value.ref b] below meth c H locs _ _ _ (F0 m 15 ls [.ref a])
  refine lv_astore_n (lv' := [(2, .ref a), (1, .ref h0), (0, .ref b)]) hC.1 hC.2.1 dL_law_15 rfl hl (by decide) rfl (fun ls hl => ?_)
  refine x_new (fs := [.long 0, .null]) (ci := 6) hC hw rfl inlX4 tyX4 tyX4_ok (mwsL_law_0 _ (List.mem_of_getElem? (i := 6) rfl)) (mwsL_law_0 _ (List.mem_of_getElem? (i := 7) rfl)) (mwsL_law_0 _ (List.mem_of_getElem? (i := 8) rfl)) (fun j hj => by rcases (show j = 0 ∨ j = 1 by omega) with rfl | rfl <;> rfl) (Nat.le_of_ble_eq_true rfl) (Nat.le_of_ble_eq_true rfl) dL_law_16 (fun o H hqo hw => ?_)
  obtain ⟨e2, hd3⟩ := xU_new (A := xU B A) (x := .inr (6, [.long 0, .null])) hqo
  rw [e2] at hw
  rw [← xO_eq] at hw hd3
  refine lv_dup hC.1 hC.2.1 dL_law_19 rfl ?_
  refine x_callIN hC hw (lv_size hl) (c_X4_init l G) ggL_law_X4_init rfl (va_Nw.of rfl (hts _ (mU_2 _ (List.mem_of_getElem? (i := 165) rfl)))) (mwsL_law_0 _ (List.mem_of_getElem? (i := 8) rfl)) (mwsL_law_2 _ (List.mem_of_getElem? (i := 1) rfl)) rfl (by decide +kernel) rfl (Nat.le_of_ble_eq_true rfl) (Nat.le_of_ble_eq_true rfl) (Nat.le_of_ble_eq_true rfl) (Nat.le_of_ble_eq_true rfl) (Nat.le_of_ble_eq_true rfl) dL_law_20 (fun r9 M3 H locs hq hw => ?_)
  obtain ⟨hr9, hM3⟩ := hq
  subst hr9
  subst hM3
  show W p l e room_1 s m #[Value.ref b] below meth c H locs _ _ _ (F0 m 23 ls [.ref o])
  refine lv_astore_n (lv' := [(3, .ref o), (2, .ref a), (1, .ref h0), (0, .ref b)]) hC.1 hC.2.1 dL_law_23 rfl hl (by decide) rfl (fun ls hl => ?_)
  refine x_const hC dL_law_24 ?_
  refine lv_istore (lv' := [(4, .int (iN 0)), (3, .ref o), (2, .ref a), (1, .ref h0), (0, .ref b)]) hC.1 hC.2.1 dL_law_25 hl (by decide) rfl (fun ls hl => ?_)
  obtain ⟨e3, k1, k2⟩ := xMU hd2 hd3
  exact law_loop hst rfl rfl rfl (Nat.le_of_ble_eq_true rfl) (Nat.le_of_ble_eq_true rfl) rfl hC hX hbl hL (fun H ls => lw_ret hx hb hr hlocks dL_law_2591) _ 0 0 0 _ _ _ ST0 (fun _ => false) _ _ _ (Nat.lt_succ_self _) (by omega) (by omega) (by omega) (by omega) (by decide) (by omega) (BudQ.init (by omega)) hw ⟨A, B, 0, .null, 0, e3, hG, hm, k1, k2⟩ (lv_sub hl [4, 3, 2, 1, 0] rfl)
set_option maxHeartbeats 4000000 in
theorem lw_walk (l : Launch) (hflags : l.flags = flags0) (b : Addr) (xs : List Int32) : MetFree l x (headSpec (Jvm.Cond.code x code maxLocals ret :: tables_1) room_1) (lw_P b xs) (fun _ _ _ _ _ => True) lw_Q := by
  refine MetFree.of_bodyS (code := code) (maxLocals := maxLocals) (ret := ret) (by decide) ?_ ?_
  · intro args s m h hn
    obtain ⟨meth, c, h1, h2, h3, h4, h5, h6, -, -⟩ := Cond.code_spec hn (atoms_spec (ws := Jvm.Cond.code x code maxLocals ret :: tables_1) h _ List.mem_cons_self)
    exact ⟨meth, c, h1, h2, h3, h4, h5, h6⟩
  · intro p e s m args below meth c s₁ B hml0 hP _
    obtain ⟨rfl, hx, hbd, hgv⟩ := hP
    obtain ⟨scr, harrAt, hlist, hof, hsmall⟩ := hx
    obtain ⟨hcb, hkn, -, -⟩ := State.arrayAt?_spec harrAt
    have hown : s.vm.findClass R_law = some m.cls := findClass_of_methodNamed B.named
    have hts0 : ∀ c ∈ (Jvm.Cond.code x code maxLocals ret :: tables_1), c.before #[Value.ref b] s = true := atoms_spec (ws := Jvm.Cond.code x code maxLocals ret :: tables_1) B.pre
    have hts : ∀ w ∈ lw_tbl, w.before #[Value.ref b] s = true := k2_hts_sels lw_privs (fun w hw => hts0 w (List.mem_cons_of_mem _ hw)) lw_privs_ok
    have hml : c.maxLocals = 7 := B.maxLocals_eq (hts0 _ List.mem_cons_self)
    have X₀ : Stand p l e room_1 s m #[Value.ref b] below meth c s₁ [] 0 0 := Stand.of_body B
    have hh0 : s₁.heap = s.heap := by rw [B.state]; rfl
    have hsz : scr.slots.size = xs.length := by rw [← Array.length_toList, hlist, List.length_map]
    have hval : ∀ j : Nat, j < xs.length → scr.slots[j]? = some (.int (xs.getD j 0)) := fun j hj => by
      rw [← Array.getElem?_toList, hlist]
      simp [hj]
    have hbl : b < s.heap.size := (Array.getElem?_eq_some_iff.mp hcb).1
    have hX : va_X b xs.length (fun j => xs.getD j 0) s s.heap := ⟨scr, hcb, hof, hkn, hsz, hval⟩
    have K : W p l e room_1 s m #[Value.ref b] below meth c s₁.heap [] 0 0 (lw_Z below #[Value.ref b] s) (entryFrame m ([Value.ref b] : List Value).toArray 7) := by
      rw [hh0]
      exact whole_start l hflags hbd ⟨B.exec, B.bytes, B.returns, hml, hown, hts, hX, hbl, B.notSynchronized, hgv⟩
    obtain ⟨t, a1, o, b1, b2, b3⟩ := K s₁ rfl X₀
    exact ⟨t, o, a1, b1, b2, b3⟩
theorem lw_pre_spec {args : Array Value} {s : State} (h : (Jvm.Cond.and given_1 narrow_1).before args s = true) (hr : rest_1_c.before args s = true) : ∃ (b : Addr) (xs : List Int32), lw_P b xs args s := by
  have hs := flat_of_before _ h
  have hq := flat_of_before _ hr
  have hc : (Cond.count 1).before args s = true := hs _ (by decide +kernel)
  have harr : (Cond.arrayOf (.arg 0) .int).before args s = true := hs _ (by decide +kernel)
  have hle : (Cond.le (.length (.arg 0)) (.int 3072)).before args s = true := hs _ (by decide +kernel)
  have hlen : (Cond.isInt (.length (.arg 0))).before args s = true := hq _ (by decide +kernel)
  have hall : (Cond.all (.arg 0) (.isInt (.elem (.arg 0) (.index 0)))).before args s = true := hq _ (by decide +kernel)
  obtain ⟨b, xs, hb, hx⟩ := State.ints_of_pre rfl harr hlen hall
  have hsm : xs.length < 2 ^ 31 := hx.choose_spec.2.2.2
  have hev : (Term.length (.arg 0)).eval args s none [] s = some (.int xs.length.toInt32) := hx.length_eval hb
  have hv := Cond.le_ints hev (show (Term.int 3072).eval args s none [] s = some (.int 3072) from rfl)
  have hd : xs.length.toInt32 ≤ 3072 := by
    simpa [Cond.before, Cond.holds, hv] using hle
  have hN : xs.length ≤ 3072 := (Int32.ofNat_le_ofNat hsm (by decide)).mp (show Int32.ofNat xs.length ≤ Int32.ofNat 3072 from hd)
  exact ⟨b, xs, Cond.one_arg hc (show args[0]? = some (.ref b) from hb), hx, hN, h⟩
theorem lw_comes (l : Launch) (hflags : l.flags = flags0) : Comes l x (Jvm.Cond.code x code maxLocals ret :: tables_1) room_1 (fun tb e args s => Calls_1 tb e args s ∧ rest_1 tb e args s ∧ Pre_1 tb e args s)
    (fun _ _ args s o t => lw_Q args s o t) := by
  intro p e ha hc hk s m args below hf hfit hheap happ hpre
  obtain ⟨b, xs, hP⟩ := lw_pre_spec hpre.2.2 hpre.2.1
  obtain ⟨k, o, h1, h2, h3, hQ⟩ := lw_walk l hflags b xs p e ha hc hk s m args below hf ((Spec.applies_iff_loose hf).mp happ).1 hP trivial
  exact ⟨k, o, h1, h2, h3, hQ⟩
theorem lw_frame {s t : State} {o : Outcome} {args : Array Value} (h : Framed s o t [] room_1.cells room_1.slots) :
    Framed s o t (fieldLocs frame_1_writes args s ++ arrayLocs frame_1_arrays args s ++ staticLocs frame_1_statics s) room_1.cells room_1.slots := h
theorem lw_limb (L : Cond) (hL : ∀ (args : Array Value) (s t : State), L.after args s (.returned (some (.int 1))) t = true) :
    ArmFor flags0 classFile x code maxLocals ret World_1 tables_1 room_1 Calls_1 rest_1 Pre_1
      (fun tb e a s o t => postC L tb e a s o t ∧ Framed s o t (fieldLocs frame_1_writes a s ++ arrayLocs frame_1_arrays a s ++ staticLocs frame_1_statics s) room_1.cells room_1.slots) := by
  intro l hflags _ _ p e ha hc hk s m args below hf hfit hheap happ hpre
  obtain ⟨k, o, h1, h2, h3, rfl, hF⟩ := lw_comes l hflags p e ha hc hk s m args below hf hfit hheap happ hpre
  exact ⟨k, _, h1, h2, h3, hL args s _, lw_frame hF⟩
theorem i_vc : Claimed_1_1 ∧ Claimed_1_2 := ⟨lw_limb limb_1_1 (fun args s t => by simp [limb_1_1, Cond.after, Cond.holds, Cond.value]), lw_limb limb_1_2 (fun args s t => Cond.after_iff.mpr (by
  first | (rw [show limb_1_2 = Cond.eq .result (.int 1) from rfl, Cond.eq_ints (x := 1) (y := 1) rfl rfl]; simp; done) | (simp [limb_1_2, Cond.value, Term.eval]; done)))⟩
