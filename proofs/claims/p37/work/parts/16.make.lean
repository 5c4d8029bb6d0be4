/-! what is made: rows of rows, a new object of the class, a new object of the model -/
section NROWS
variable {p : Program} {l : Launch} {e : Env} {R : Room} {s : State} {m : MethodId} {args : Array Value} {below : List Frame} {meth : Method} {c : Code} {H : Heap} {locs : List Loc} {cells slots : Nat} {Q : State → Prop}
variable {cc : ByteArray} {pc nL idx a : Nat} {ls : Array Slot} {st rest : List Value} {G : xG} {A : Nat → Prop} {M : HM} {own nm : String} {Ts : List Cond} {ret : Option FieldType} {z : Int}
/-- new int[n][] -/
theorem x_newA (hC : xB p s m args meth c cc nL own nm Ts ret G A) (hw : xD G A s M H locs) (h1 : Cond.classLink own idx "[I" ∈ Ts) (n : Nat) (hz : z = n) (hn : n ≤ 100000) (hcells : cells + 1 ≤ R.cells) (hslots : slots + n ≤ R.slots) (hdg : decode cc pc = .ok (.anewarray idx, 3))
    (kk : ∀ (q : Nat) (H1 : Heap), M q = none → xD G A s (va_up M q (some (.inl (G.2 4, n, .inr (.inr (.inr (.inr (fun _ => none)))))))) H1 locs → W p l e R s m args below meth c H1 locs (cells + 1) (slots + n) Q (F0 m (pc + 3) ls (.ref q :: rest))) : W p l e R s m args below meth c H locs cells slots Q (F0 m pc ls (.int (iN z) :: rest)) := by
  obtain ⟨L, g1, g2, g3⟩ := hw.1
  subst hz
  have e0 : (iN (n : Int)).toNatClampNeg = n := by rw [iN_clamp (by omega) (by omega)]; omega
  have hn0 : ¬ iN (n : Int) < 0 := fun q => by
    rw [← iN_0, iN_lt ⟨by omega, by omega⟩ ⟨by omega, by omega⟩] at q
    omega
  have hA := hC.2.2.2.2.2.2.2.2.2
  refine W.anewA (t := .int) (g := F0 m pc ls (.int (iN (n : Int)) :: rest)) hC.1 hC.2.1 hC.2.2.2.1 (hC.2.2.2.2.1 _ h1) hC.2.2.2.2.2.2.2.2.1.2.2.2.2.2.1.2.2.1 rfl hdg rfl hn0 (by rw [e0]; omega) hcells (by rw [e0]; exact hslots) fun cA kA comp f1 f2 f3 f4 => ?_
  rw [e0]
  have e4 : s.vm.findClass ("[" ++ (FieldType.array .int).toString) = some (G.2 4) := (hC.2.2.2.2.2.2.2.2.1.1.2 4 _ rfl).2
  obtain rfl : cA = G.2 4 := Option.some.inj (f1.symm.trans e4)
  generalize hH1 : H.push ({ cls := G.2 4, slots := Array.replicate n .null, vm := .none } : Cell) = H1
  have z1 : H1.size = H.size + 1 := by rw [← hH1, Array.size_push]
  have e1 : H1[H.size]? = some (arrV (G.2 4) n (fun _ => .null)) := by rw [← hH1, Array.getElem?_push_size, ← arrV_new]
  have o1 : ∀ q : Nat, q < H.size → H1[q]? = H[q]? := fun q hq => by rw [← hH1, Array.getElem?_push, if_neg (Nat.ne_of_lt hq)]
  have hk : ∀ (k : Nat) (x : Nat × va_E), (va_pl L (xL M))[k]? = some x → H1[x.1]? = H[x.1]? := fun k x hx => o1 x.1 ((g2 k x hx).lt)
  have k1 : va_P G.1 vwCl (va_pl L (xL M) ++ [(H.size, .inl (G.2 4, n, .inr (.inr (.inr (.inr (fun _ => none))))))]) H1 := (g2.kept hk).app (fun k x hx => by
    have hz : k < 1 := (List.getElem?_eq_some_iff.mp hx).1
    rw [show k = 0 by omega] at hx
    cases hx
    show H1[H.size]? = some (vp_cell _ _)
    rw [vp_cell_q]
    exact e1)
  have k2 := g3.push (e := .inl (G.2 4, n, .inr (.inr (.inr (.inr (fun _ => none)))))) (ws := va_pl L (xL M)) (a := H.size) g2 rfl (hA _ hw.2.1)
  obtain ⟨e5, e6⟩ := xPW.new g1 k1 k2
  exact kk H.size H1 e5 ⟨e6, Nat.le_trans hw.2.1 (by omega), fun x h1 h2 => (o1 x (Nat.lt_of_lt_of_le h1 hw.2.1)).trans (hw.2.2.1 x h1 h2), hw.2.2.2⟩
/-- new int[n][k] -/
theorem x_mna (hC : xB p s m args meth c cc nL own nm Ts ret G A) (hw : xD G A s M H locs) (h1 : Cond.classLink own idx "[[I" ∈ Ts) (h2 : Cond.arrayClass .int ∈ Ts) (n k : Nat) {z2 : Int} (hz : z = n) (hz2 : z2 = k) (hn : n ≤ 1000) (hk : k ≤ 1000) (hcells : cells + (1 + n) ≤ R.cells) (hslots : slots + (n + n * k) ≤ R.slots) (hdg : decode cc pc = .ok (.multianewarray idx 2, 4))
    (kk : ∀ (q : Nat) (r : Nat → Nat) (M1 : HM) (H1 : Heap), xExt M M1 → M q = none → (∀ i, i < n → M (r i) = none) → (∀ i j, i < n → j < n → i ≠ j → r i ≠ r j) → (∀ i, i < n → r i ≠ q) → M1 q = some (.inl (G.2 4, n, .inr (.inr (.inr (.inr (fun i => if i < n then some (r i) else none)))))) → (∀ i, i < n → M1 (r i) = some (.inl (G.2 1, k, .inl (fun _ => 0)))) → xD G A s M1 H1 locs →
      W p l e R s m args below meth c H1 locs (cells + 1 + n) (slots + n + n * k) Q (F0 m (pc + 4) ls (.ref q :: rest))) : W p l e R s m args below meth c H locs cells slots Q (F0 m pc ls (.int (iN z2) :: .int (iN z) :: rest)) := by
  obtain ⟨L, g1, g2, g3⟩ := hw.1
  subst hz; subst hz2
  have nl : ∀ j : Nat, j ≤ 1000 → ¬ iN (j : Int) < 0 := fun j hj q => by rw [← iN_0, iN_lt ⟨by omega, by omega⟩ ⟨by omega, by omega⟩] at q; omega
  have ec : ∀ j : Nat, j ≤ 1000 → (iN (j : Int)).toNatClampNeg = j := fun j hj => by rw [iN_clamp (by omega) (by omega)]; omega
  have e1 : s.vm.findClass (FieldType.array .int).toString = some (G.2 1) := (hC.2.2.2.2.2.2.2.2.1.1.2 1 _ rfl).2
  have e4 : s.vm.findClass ("[" ++ (FieldType.array .int).toString) = some (G.2 4) := (hC.2.2.2.2.2.2.2.2.1.1.2 4 _ rfl).2
  refine va_mna (D := G.1) (X := []) (L := L) (f := xL M) (ty := .int) (cy := G.2 1) (z := (k, .inl (fun _ => 0))) hC.1 hC.2.1 hC.2.2.2.1 (hC.2.2.2.2.1 _ h1) hC.2.2.2.2.2.2.2.2.1.2.2.2.2.2.1.2.2.1 (hC.2.2.2.2.1 _ h2) e1 hC.2.2.2.2.2.2.2.2.1.1 g2 g3 hw.2 hC.2.2.2.2.2.2.2.2.2 (nl n hn) (nl k hk) (ec n hn) (ec k hk) (by omega) (by show k * 4 ≤ _; omega) (by omega) rfl rfl hcells hslots (fun c => arrV_new c k (.int 0)) hdg (fun q r cA H1 q1 q2 q3 q4 q5 q6 => ?_)
  have hcA : cA = G.2 4 := by
    have h9 : s.vm.findClass ("[" ++ (FieldType.array .int).toString) = some cA := (q3.2 5 (cA, .array .int) rfl).2
    exact Option.some.inj (h9.symm.trans e4)
  subst hcA
  have hin : ∀ a, a ∈ (List.range n).map r ↔ ∃ i, i < n ∧ r i = a := fun a => by simp [List.mem_map, List.mem_range]
  have hq0 : q ∉ L ++ (List.range n).map r := fun hm => by
    obtain ⟨i, hi⟩ := List.getElem?_of_mem hm
    have hp : (va_pl (L ++ (List.range n).map r) (vr_up (xL M) ((List.range n).map r) (.inl (G.2 1, k, .inl (fun _ => 0)))))[i]? = some (q, vr_up (xL M) ((List.range n).map r) (.inl (G.2 1, k, .inl (fun _ => 0))) q) := by simp only [va_pl, List.getElem?_map, hi]; rfl
    have h9 := q5.1 0 (i + 1) (q, _) (q, _) rfl hp rfl
    omega
  have hML : ∀ a, a ∉ L → M a = none := fun a ha => by
    cases e : M a with
    | none => rfl
    | some x => exact absurd ((g1 a).mpr (by rw [e]; exact fun h => nomatch h)) ha
  have hqn : M q = none := hML q (fun h => hq0 (List.mem_append_left _ h))
  have hrn : ∀ i, i < n → M (r i) = none := fun i hi => hML _ (q2 i hi)
  have hrq : ∀ i, i < n → r i ≠ q := fun i hi e => hq0 (List.mem_append_right _ ((hin q).mpr ⟨i, hi, e⟩))
  let M1 : HM := fun a => if a = q then some (.inl (G.2 4, n, .inr (.inr (.inr (.inr (fun i => if i < n then some (r i) else none)))))) else if a ∈ (List.range n).map r then some (.inl (G.2 1, k, .inl (fun _ => 0))) else M a
  have m1 : M1 q = some (.inl (G.2 4, n, .inr (.inr (.inr (.inr (fun i => if i < n then some (r i) else none)))))) := if_pos rfl
  have m2 : ∀ i, i < n → M1 (r i) = some (.inl (G.2 1, k, .inl (fun _ => 0))) := fun i hi => by
    show (if r i = q then _ else _) = _
    rw [if_neg (hrq i hi), if_pos ((hin _).mpr ⟨i, hi, rfl⟩)]
  have m3 : xExt M M1 := fun a x ha => by
    show (if a = q then _ else _) = _
    rw [if_neg (fun e => by rw [e, hqn] at ha; cases ha), if_neg (fun hm => by obtain ⟨i, hi, rfl⟩ := (hin a).mp hm; rw [hrn i hi] at ha; cases ha)]
    exact ha
  have hc : [(q, (.inl (G.2 4, n, .inr (.inr (.inr (.inr (fun i => if i < n then some (r i) else none))))) : va_E))] ++ va_pl (L ++ (List.range n).map r) (vr_up (xL M) ((List.range n).map r) (.inl (G.2 1, k, .inl (fun _ => 0)))) = va_pl (q :: (L ++ (List.range n).map r)) (xL M1) := by
    show (q, _) :: _ = (q, xL M1 q) :: va_pl (L ++ (List.range n).map r) (xL M1)
    congr 1
    · simp [xL, m1]
    · refine List.map_congr_left (fun b hb => ?_)
      have hbq : b ≠ q := fun e => hq0 (e ▸ hb)
      by_cases hr : b ∈ (List.range n).map r
      · have e1 : vr_up (xL M) ((List.range n).map r) (.inl (G.2 1, k, .inl (fun _ => 0))) b = .inl (G.2 1, k, .inl (fun _ => 0)) := by simp only [vr_up, if_pos hr]
        have e2 : M1 b = some (.inl (G.2 1, k, .inl (fun _ => 0))) := by
          show (if b = q then _ else _) = _
          rw [if_neg hbq, if_pos hr]
        have e3 : xL M1 b = .inl (G.2 1, k, .inl (fun _ => 0)) := by rw [xL, e2]; rfl
        show (b, _) = (b, _)
        rw [e1, e3]
      · have e1 : vr_up (xL M) ((List.range n).map r) (.inl (G.2 1, k, .inl (fun _ => 0))) b = xL M b := by simp only [vr_up, if_neg hr]
        have e2 : M1 b = M b := by
          show (if b = q then _ else _) = _
          rw [if_neg hbq, if_neg hr]
        have e3 : xL M1 b = xL M b := by rw [xL, xL, e2]
        show (b, _) = (b, _)
        rw [e1, e3]
  simp only [List.nil_append] at q4 q5
  rw [hc] at q4 q5
  refine kk q r M1 H1 m3 hqn hrn (fun i j hi hj hij e => hij (q1 i j hi hj e)) hrq m1 m2 ⟨⟨q :: (L ++ (List.range n).map r), fun a => ?_, q4, q5⟩, q6⟩
  constructor
  · intro h
    show (if a = q then _ else _) ≠ none
    rcases List.mem_cons.mp h with e | h
    · rw [if_pos e]; exact fun h => nomatch h
    · rcases List.mem_append.mp h with h | h
      · exact fun h9 => by
          by_cases e : a = q
          · rw [if_pos e] at h9; cases h9
          · rw [if_neg e] at h9
            by_cases e2 : a ∈ (List.range n).map r
            · rw [if_pos e2] at h9; cases h9
            · rw [if_neg e2] at h9; exact (g1 a).mp h h9
      · by_cases e : a = q
        · rw [if_pos e]; exact fun h => nomatch h
        · rw [if_neg e, if_pos h]; exact fun h => nomatch h
  · intro h
    by_cases e : a = q
    · exact List.mem_cons.mpr (Or.inl e)
    · by_cases e2 : a ∈ (List.range n).map r
      · exact List.mem_cons_of_mem _ (List.mem_append_right _ e2)
      · have h9 : M a ≠ none := fun h8 => h (by show (if a = q then _ else _) = none; rw [if_neg e, if_neg e2]; exact h8)
        exact List.mem_cons_of_mem _ (List.mem_append_left _ ((g1 a).mpr h9))
end NROWS
theorem x_kA {M M1 : HM} {b q : Nat} {x : Option va_E} {z : Nat × List Value} {y : _} (hM : M1 = va_up M b x) (hb : M b = some (.inr z)) (hq : M q = some (.inl y)) : M1 q = some (.inl y) := by
  rw [hM, va_up_ne _ _ (fun e => by rw [e, hb] at hq; cases hq)]; exact hq
section MGS2
variable {G : xG} {M M1 : HM} {a va oa wa ya : Nat} {wk : Option Nat} {th rfd br re la ha kp kv : Int32} {qv qw : Nat → Nat} {fa fb : Nat → Option Nat} {fvv fw : Nat → Nat → Int32} {fo : Nat → Int32} {fy : Nat → Option Nat} {S S2 : Nat → Bool} {j k : Nat}
/-- nothing has a value -/
theorem MGx.less (h : MGx G M a va oa wa ya wk th rfd br re la ha kp kv qv qw fa fb fvv fw fo fy S) (hn : ∀ j k, j < 3 → k < 100 → (fvv j k).toInt = -10000) : MGx G M a va oa wa ya wk th rfd br re la ha kp kv qv qw fa fb fvv fw fo fy S2 := by
  obtain ⟨h1, ⟨h2, h3, h4, h5, h6⟩, h7⟩ := h
  exact ⟨h1, ⟨h2, h3, h4, fun j k hj hk hx => absurd (hn j k hj hk) hx, h6⟩, h7⟩
/-- a weight was written -/
theorem MGx.wgt {v : Int} (h : MGx G M a va oa wa ya wk th rfd br re la ha kp kv qv qw fa fb fvv fw fo fy S) (hw : ∀ i j, i < 3 → j < 3 → i ≠ j → qw i ≠ qw j) (hj : j < 3) (hM : M1 = va_up M (qw j) (some (.inl (G.2 1, 100, .inl (upd (fw j) k (iN v)))))) (hv : 0 ≤ v ∧ v ≤ 999) :
    MGx G M1 a va oa wa ya wk th rfd br re la ha kp kv qv qw fa fb fvv (vUp fw j (upd (fw j) k (iN v))) fo fy S := by
  have hjv := h.rw' hj
  have hx : xI5 G M M1 := fun y f hy => by
    rw [hM, va_up_ne _ _ (fun z => by rw [z, hjv] at hy; cases hy)]; exact hy
  obtain ⟨⟨h1, h2, h3, h4, h5, h6, h7, h8, h9, h10, h11⟩, ⟨f1, f2, f3, f4, f5⟩, hi⟩ := h
  have ev : (iN v).toInt = v := iN_toInt ⟨by omega, by omega⟩
  have ko : ∀ {b : Nat} {z : _}, M b = some z → (∀ f, z ≠ .inl (G.2 1, 100, .inl f)) → M1 b = some z := fun {b z} hb hn => by rw [hM, va_up_ne _ _ (fun q => by rw [q, hjv] at hb; exact hn _ (Option.some.inj hb).symm)]; exact hb
  refine ⟨⟨ko h1 (fun _ => by simp), ko h2 (fun _ => by simp), ko h3 (fun _ => by simp), ko h4 (fun _ => by simp), ko h5 (fun _ => by simp), h6, h7, fun i hi => ?_, fun i hi => ?_, h10, h11⟩, ⟨f1, fun i q hi hq => ?_, f3, f4, f5⟩, hi.x5 hx⟩
  · rw [hM, va_up_ne _ _ (fun e => h11 j i hj hi e.symm)]; exact h8 i hi
  · by_cases e : i = j
    · subst e; rw [hM, va_up_self, vUp_s]
    · rw [hM, va_up_ne _ _ (hw i j hi hj e), vUp_n _ _ e]; exact h9 i hi
  · by_cases e : i = j
    · subst e
      rw [vUp_s]
      by_cases e2 : q = k
      · subst e2; simp only [upd, if_true]; rw [ev]; exact hv
      · simp only [upd, if_neg e2]; exact f2 i q hi hq
    · rw [vUp_n _ _ e]; exact f2 i q hi hq
end MGS2
/-- a new object of the class under work: j of its books stand -/
def RIx (G : xG) (M : HM) (bs : Nat) (j : Nat) (fb : Nat → Option Nat) (qb qk qv : Nat → Nat) : Prop := M bs = some (.inl (G.2 2, 3, .inr (.inr (.inr (.inr fb))))) ∧ (∀ i, i < j → fb i = some (qb i)) ∧ (∀ i, i < j → BkE G M (qb i) (qk i) (qv i)) ∧ (∀ i i', i < j → i' < j → i ≠ i' → xAp (qb i) (qk i) (qv i) (qb i') (qk i') (qv i'))
def nUp (f : Nat → Nat) (j x : Nat) : Nat → Nat := fun i => if i = j then x else f i
theorem BkE.ext {G : xG} {M M1 : HM} {b k v : Nat} (h : BkE G M b k v) (hx : xExt M M1) : BkE G M1 b k v := by
  obtain ⟨a1, a2, a3, a4, a5, a6, a7, a8⟩ := h
  exact ⟨a1, a2, a3, a4, a5, a6, a7, a8.ext hx⟩
theorem BkE.in {G : xG} {M : HM} {b k v : Nat} (h : BkE G M b k v) : M b ≠ none ∧ M k ≠ none ∧ M v ≠ none := by
  obtain ⟨a1, a2, a3, a4, a5, a6, a7, a8⟩ := h
  exact ⟨fun h => (by rw [a8.1] at h; cases h), fun h => (by rw [a8.2.1] at h; cases h), fun h => (by rw [a8.2.2.1] at h; cases h)⟩
/-- one more book -/
theorem RIx.more {G : xG} {M M1 M2 : HM} {bs j b k v : Nat} {fb : Nat → Option Nat} {qb qk qv : Nat → Nat} (h : RIx G M bs j fb qb qk qv) (hx : xExt M M1) (hB : BkE G M1 b k v) (nb : M b = none) (nk : M k = none) (nv : M v = none) (hM : M2 = va_up M1 bs (some (.inl (G.2 2, 3, .inr (.inr (.inr (.inr (va_up fb j (some b))))))))) : RIx G M2 bs (j + 1) (va_up fb j (some b)) (nUp qb j b) (nUp qk j k) (nUp qv j v) := by
  obtain ⟨h1, h2, h3, h4⟩ := h
  have hbs := hx _ _ h1
  have ke : ∀ {b k v : Nat}, BkE G M1 b k v → BkE G M2 b k v := fun {b k v} hB => by
    obtain ⟨a1, a2, a3, a4, a5, a6, a7, b1, b2, b3, b4⟩ := hB
    refine ⟨a1, a2, a3, a4, a5, a6, a7, ?_, ?_, ?_, b4⟩
    · rw [hM, va_up_ne _ _ (fun e => by rw [e, hbs] at b1; cases b1)]; exact b1
    · rw [hM, va_up_ne _ _ (fun e => by rw [e, hbs] at b2; simp at b2)]; exact b2
    · rw [hM, va_up_ne _ _ (fun e => by rw [e, hbs] at b3; simp at b3)]; exact b3
  have ap : ∀ {b' k' v' : Nat}, BkE G M b' k' v' → xAp b' k' v' b k v ∧ xAp b k v b' k' v' := fun {b' k' v'} hB' => by
    obtain ⟨m1, m2, m3⟩ := hB'.in
    have d : ∀ {x y : Nat}, M x ≠ none → M y = none → x ≠ y := fun {x y} hx hy e => hx (e ▸ hy)
    refine ⟨⟨⟨?_, ?_, ?_⟩, ⟨?_, ?_, ?_⟩, ⟨?_, ?_, ?_⟩⟩, ⟨⟨?_, ?_, ?_⟩, ⟨?_, ?_, ?_⟩, ⟨?_, ?_, ?_⟩⟩⟩ <;> first | exact d m1 nb | exact d m1 nk | exact d m1 nv | exact d m2 nb | exact d m2 nk | exact d m2 nv | exact d m3 nb | exact d m3 nk | exact d m3 nv | exact (d m1 nb).symm | exact (d m1 nk).symm | exact (d m1 nv).symm | exact (d m2 nb).symm | exact (d m2 nk).symm | exact (d m2 nv).symm | exact (d m3 nb).symm | exact (d m3 nk).symm | exact (d m3 nv).symm
  refine ⟨by rw [hM, va_up_self], fun i hi => ?_, fun i hi => ?_, fun i i' hi hi' hn => ?_⟩
  · by_cases e : i = j
    · subst e; rw [va_up_self]; simp [nUp]
    · rw [va_up_ne _ _ e]; simp only [nUp, if_neg e]; exact h2 i (by omega)
  · by_cases e : i = j
    · subst e; simp only [nUp, if_true]; exact ke hB
    · simp only [nUp, if_neg e]; exact ke ((h3 i (by omega)).ext hx)
  · by_cases e : i = j
    · by_cases e2 : i' = j
      · exact absurd (e.trans e2.symm) hn
      · subst e; simp only [nUp, if_true, if_neg e2]; exact (ap (h3 i' (by omega))).2
    · by_cases e2 : i' = j
      · subst e2; simp only [nUp, if_true, if_neg e]; exact (ap (h3 i (by omega))).1
      · simp only [nUp, if_neg e, if_neg e2]; exact h4 i i' (by omega) (by omega) hn
theorem RIx.ext {G : xG} {M M1 : HM} {bs j : Nat} {fb : Nat → Option Nat} {qb qk qv : Nat → Nat} (h : RIx G M bs j fb qb qk qv) (hx : xExt M M1) : RIx G M1 bs j fb qb qk qv := ⟨hx _ _ h.1, h.2.1, fun i hi => (h.2.2.1 i hi).ext hx, h.2.2.2⟩
/-- the object's own cell was written -/
theorem RIx.obj {G : xG} {M M1 : HM} {bs j o ci : Nat} {fs : List Value} {x : Option va_E} {fb : Nat → Option Nat} {qb qk qv : Nat → Nat} (h : RIx G M bs j fb qb qk qv) (ho : M o = some (.inr (ci, fs))) (hc : ci ≠ 2) (hM : M1 = va_up M o x) : RIx G M1 bs j fb qb qk qv := by
  have ka : ∀ {q : Nat} {y : _}, M q = some (.inl y) → M1 q = some (.inl y) := fun hq => x_kA hM ho hq
  refine ⟨ka h.1, h.2.1, fun i hi => ?_, h.2.2.2⟩
  obtain ⟨a1, a2, a3, a4, a5, a6, a7, b1, b2, b3, b4⟩ := h.2.2.1 i hi
  refine ⟨a1, a2, a3, a4, a5, a6, a7, ?_, ka b2, ka b3, b4⟩
  rw [hM, va_up_ne _ _ (fun e => by rw [e, ho] at b1; cases b1; exact hc rfl)]; exact b1
