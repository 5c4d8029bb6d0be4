/-! what is made: rows of rows, a new object of the class, a new object of the model -/
section NROWS
variable {p : Program} {l : Launch} {e : Env} {R : Room} {s : State} {m : MethodId} {args : Array Value} {below : List Frame} {meth : Method} {c : Code} {H : Heap} {locs : List Loc} {cells slots : Nat} {Q : State → Prop}
variable {cc : ByteArray} {pc nL idx a : Nat} {ls : Array Slot} {st rest : List Value} {G : xG} {A : Nat → Prop} {M : HM} {own nm : String} {Ts : List Cond} {ret : Option FieldType} {z : Int}
/-- new int[n][] -/
theorem x_newA (hC : xB p s m args meth c cc nL own nm Ts ret G A) (hw : xD G A s M H locs) (h1 : Cond.classLink own idx "[I" ∈ Ts) (n : Nat) (hz : z = n) (hn : n ≤ 100000) (hcells : cells + 1 ≤ R.cells) (hslots : slots + n ≤ R.slots) (hdg : decode cc pc = .ok (.anewarray idx, 3))
    (kk : ∀ (q : Nat) (H1 : Heap), M q = none → xD G A s (va_up M q (some (.inl (G.2 4, n, .inr (.inr (.inr (.inr (fun _ => none)))))))) H1 locs → W p l e R s m args below meth c H1 locs (cells + 1) (slots + n) Q (F0 m (pc + 3) ls (.ref q :: rest))) : W p l e R s m args below meth c H locs cells slots Q (F0 m pc ls (.int (iN z) :: rest)) := by
  obtain ⟨L, g1, g2, g3⟩ := hw.1
  subst hz
  have e0 : (iN (n : Int)).toNatClampNeg = n := by rw [iN_clamp (by omega) (by omega)]; omega
  have hn0 : ¬ iN (n : Int) < 0 := fun q => by
    rw [← iN_0, iN_lt ⟨by omega, by omega⟩ ⟨by omega, by omega⟩] at q
    omega
  have hA := hC.2.2.2.2.2.2.2.2.2
  refine W.anewA (t := .int) (g := F0 m pc ls (.int (iN (n : Int)) :: rest)) hC.1 hC.2.1 hC.2.2.2.1 (hC.2.2.2.2.1 _ h1) hC.2.2.2.2.2.2.2.2.1.2.2.2.2.2.1.2.2.1 rfl hdg rfl hn0 (by rw [e0]; omega) hcells (by rw [e0]; exact hslots) fun cA kA comp f1 f2 f3 f4 => ?_
  rw [e0]
  have e4 : s.vm.findClass ("[" ++ (FieldType.array .int).toString) = some (G.2 4) := (hC.2.2.2.2.2.2.2.2.1.1.2 4 _ rfl).2
  obtain rfl : cA = G.2 4 := Option.some.inj (f1.symm.trans e4)
  generalize hH1 : H.push ({ cls := G.2 4, slots := Array.replicate n .null, vm := .none } : Cell) = H1
  have z1 : H1.size = H.size + 1 := by rw [← hH1, Array.size_push]
  have e1 : H1[H.size]? = some (arrV (G.2 4) n (fun _ => .null)) := by rw [← hH1, Array.getElem?_push_size, ← arrV_new]
  have o1 : ∀ q : Nat, q < H.size → H1[q]? = H[q]? := fun q hq => by rw [← hH1, Array.getElem?_push, if_neg (Nat.ne_of_lt hq)]
  have hk : ∀ (k : Nat) (x : Nat × va_E), (va_pl L (xL M))[k]? = some x → H1[x.1]? = H[x.1]? := fun k x hx => o1 x.1 ((g2 k x hx).lt)
  have k1 : va_P G.1 vwCl (va_pl L (xL M) ++ [(H.size, .inl (G.2 4, n, .inr (.inr (.inr (.inr (fun _ => none))))))]) H1 := (g2.kept hk).app (fun k x hx => by
    have hz : k < 1 := (List.getElem?_eq_some_iff.mp hx).1
    rw [show k = 0 by omega] at hx
    cases hx
    show H1[H.size]? = some (vp_cell _ _)
    rw [vp_cell_q]
    exact e1)
  have k2 := g3.push (e := .inl (G.2 4, n, .inr (.inr (.inr (.inr (fun _ => none)))))) (ws := va_pl L (xL M)) (a := H.size) g2 rfl (hA _ hw.2.1)
  obtain ⟨e5, e6⟩ := xPW.new g1 k1 k2
  exact kk H.size H1 e5 ⟨e6, Nat.le_trans hw.2.1 (by omega), fun x h1 h2 => (o1 x (Nat.lt_of_lt_of_le h1 hw.2.1)).trans (hw.2.2.1 x h1 h2), hw.2.2.2⟩
/-- new int[n][k] -/
theorem x_mna (hC : xB p s m args meth c cc nL own nm Ts ret G A) (hw : xD G A s M H locs) (h1 : Cond.classLink own idx "[[I" ∈ Ts) (h2 : Cond.arrayClass .int ∈ Ts) (n k : Nat) {z2 : Int} (hz : z = n) (hz2 : z2 = k) (hn : n ≤ 1000) (hk : k ≤ 1000) (hcells : cells + (1 + n) ≤ R.cells) (hslots : slots + (n + n * k) ≤ R.slots) (hdg : decode cc pc = .ok (.multianewarray idx 2, 4))
    (kk : ∀ (q : Nat) (r : Nat → Nat) (M1 : HM) (H1 : Heap), xExt M M1 → M q = none → (∀ i, i < n → M (r i) = none) → (∀ i j, i < n → j < n → i ≠ j → r i ≠ r j) → (∀ i, i < n → r i ≠ q) → M1 q = some (.inl (G.2 4, n, .inr (.inr (.inr (.inr (fun i => if i < n then some (r i) else none)))))) → (∀ i, i < n → M1 (r i) = some (.inl (G.2 1, k, .inl (fun _ => 0)))) → xD G A s M1 H1 locs →
      W p l e R s m args below meth c H1 locs (cells + 1 + n) (slots + n + n * k) Q (F0 m (pc + 4) ls (.ref q :: rest))) : W p l e R s m args below meth c H locs cells slots Q (F0 m pc ls (.int (iN z2) :: .int (iN z) :: rest)) := by
  obtain ⟨L, g1, g2, g3⟩ := hw.1
  subst hz; subst hz2
  have nl : ∀ j : Nat, j ≤ 1000 → ¬ iN (j : Int) < 0 := fun j hj q => by rw [← iN_0, iN_lt ⟨by omega, by omega⟩ ⟨by omega, by omega⟩] at q; omega
  have ec : ∀ j : Nat, j ≤ 1000 → (iN (j : Int)).toNatClampNeg = j := fun j hj => by rw [iN_clamp (by omega) (by omega)]; omega
  have e1 : s.vm.findClass (FieldType.array .int).toString = some (G.2 1) := (hC.2.2.2.2.2.2.2.2.1.1.2 1 _ rfl).2
  have e4 : s.vm.findClass ("[" ++ (FieldType.array .int).toString) = some (G.2 4) := (hC.2.2.2.2.2.2.2.2.1.1.2 4 _ rfl).2
  refine va_mna (D := G.1) (X := []) (L := L) (f := xL M) (ty := .int) (cy := G.2 1) (z := (k, .inl (fun _ => 0))) hC.1 hC.2.1 hC.2.2.2.1 (hC.2.2.2.2.1 _ h1) hC.2.2.2.2.2.2.2.2.1.2.2.2.2.2.1.2.2.1 (hC.2.2.2.2.1 _ h2) e1 hC.2.2.2.2.2.2.2.2.1.1 g2 g3 hw.2 hC.2.2.2.2.2.2.2.2.2 (nl n hn) (nl k hk) (ec n hn) (ec k hk) (by omega) (by show k * 4 ≤ _; omega) (by omega) rfl rfl hcells hslots (fun c => arrV_new c k (.int 0)) hdg (fun q r cA H1 q1 q2 q3 q4 q5 q6 => ?_)
  have hcA : cA = G.2 4 := by
    have h9 : s.vm.findClass ("[" ++ (FieldType.array .int).toString) = some cA := (q3.2 5 (cA, .array .int) rfl).2
    exact Option.some.inj (h9.symm.trans e4)
  subst hcA
  have hin : ∀ a, a ∈ (List.range n).map r ↔ ∃ i, i < n ∧ r i = a := fun a => by simp [List.mem_map, List.mem_range]
  have hq0 : q ∉ L ++ (List.range n).map r := fun hm => by
    obtain ⟨i, hi⟩ := List.getElem?_of_mem hm
    have hp : (va_pl (L ++ (List.range n).map r) (vr_up (xL M) ((List.range n).map r) (.inl (G.2 1, k, .inl (fun _ => 0)))))[i]? = some (q, vr_up (xL M) ((List.range n).map r) (.inl (G.2 1, k, .inl (fun _ => 0))) q) := by simp only [va_pl, List.getElem?_map, hi]; rfl
    have h9 := q5.1 0 (i + 1) (q, _) (q, _) rfl hp rfl
    omega
  have hML : ∀ a, a ∉ L → M a = none := fun a ha => by
    cases e : M a with
    | none => rfl
    | some x => exact absurd ((g1 a).mpr (by rw [e]; exact fun h => nomatch h)) ha
  have hqn : M q = none := hML q (fun h => hq0 (List.mem_append_left _ h))
  have hrn : ∀ i, i < n → M (r i) = none := fun i hi => hML _ (q2 i hi)
  have hrq : ∀ i, i < n → r i ≠ q := fun i hi e => hq0 (List.mem_append_right _ ((hin q).mpr ⟨i, hi, e⟩))
  let M1 : HM := fun a => if a = q then some (.inl (G.2 4, n, .inr (.inr (.inr (.inr (fun i => if i < n then some (r i) else none)))))) else if a ∈ (List.range n).map r then some (.inl (G.2 1, k, .inl (fun _ => 0))) else M a
  have m1 : M1 q = some (.inl (G.2 4, n, .inr (.inr (.inr (.inr (fun i => if i < n then some (r i) else none)))))) := if_pos rfl
  have m2 : ∀ i, i < n → M1 (r i) = some (.inl (G.2 1, k, .inl (fun _ => 0))) := fun i hi => by
    show (if r i = q then _ else _) = _
    rw [if_neg (hrq i hi), if_pos ((hin _).mpr ⟨i, hi, rfl⟩)]
  have m3 : xExt M M1 := fun a x ha => by
    show (if a = q then _ else _) = _
    rw [if_neg (fun e => by rw [e, hqn] at ha; cases ha), if_neg (fun hm => by obtain ⟨i, hi, rfl⟩ := (hin a).mp hm; rw [hrn i hi] at ha; cases ha)]
    exact ha
  have hc : [(q, (.inl (G.2 4, n, .inr (.inr (.inr (.inr (fun i => if i < n then some (r i) else none))))) : va_E))] ++ va_pl (L ++ (List.range n).map r) (vr_up (xL M) ((List.range n).map r) (.inl (G.2 1, k, .inl (fun _ => 0)))) = va_pl (q :: (L ++ (List.range n).map r)) (xL M1) := by
    show (q, _) :: _ = (q, xL M1 q) :: va_pl (L ++ (List.range n).map r) (xL M1)
    congr 1
    · simp [xL, m1]
    · refine List.map_congr_left (fun b hb => ?_)
      have hbq : b ≠ q := fun e => hq0 (e ▸ hb)
      by_cases hr : b ∈ (List.range n).map r
      · have e1 : vr_up (xL M) ((List.range n).map r) (.inl (G.2 1, k, .inl (fun _ => 0))) b = .inl (G.2 1, k, .inl (fun _ => 0)) := by simp only [vr_up, if_pos hr]
        have e2 : M1 b = some (.inl (G.2 1, k, .inl (fun _ => 0))) := by
          show (if b = q then _ else _) = _
          rw [if_neg hbq, if_pos hr]
        have e3 : xL M1 b = .inl (G.2 1, k, .inl (fun _ => 0)) := by rw [xL, e2]; rfl
        show (b, _) = (b, _)
        rw [e1, e3]
      · have e1 : vr_up (xL M) ((List.range n).map r) (.inl (G.2 1, k, .inl (fun _ => 0))) b = xL M b := by simp only [vr_up, if_neg hr]
        have e2 : M1 b = M b := by
          show (if b = q then _ else _) = _
          rw [if_neg hbq, if_neg hr]
        have e3 : xL M1 b = xL M b := by rw [xL, xL, e2]
        show (b, _) = (b, _)
        rw [e1, e3]
  simp only [List.nil_append] at q4 q5
  rw [hc] at q4 q5
  refine kk q r M1 H1 m3 hqn hrn (fun i j hi hj hij e => hij (q1 i j hi hj e)) hrq m1 m2 ⟨⟨q :: (L ++ (List.range n).map r), fun a => ?_, q4, q5⟩, q6⟩
  constructor
  · intro h
    show (if a = q then _ else _) ≠ none
    rcases List.mem_cons.mp h with e | h
    · rw [if_pos e]; exact fun h => nomatch h
    · rcases List.mem_append.mp h with h | h
      · exact fun h9 => by
          by_cases e : a = q
          · rw [if_pos e] at h9; cases h9
          · rw [if_neg e] at h9
            by_cases e2 : a ∈ (List.range n).map r
            · rw [if_pos e2] at h9; cases h9
            · rw [if_neg e2] at h9; exact (g1 a).mp h h9
      · by_cases e : a = q
        · rw [if_pos e]; exact fun h => nomatch h
        · rw [if_neg e, if_pos h]; exact fun h => nomatch h
  · intro h
    by_cases e : a = q
    · exact List.mem_cons.mpr (Or.inl e)
    · by_cases e2 : a ∈ (List.range n).map r
      · exact List.mem_cons_of_mem _ (List.mem_append_right _ e2)
      · have h9 : M a ≠ none := fun h8 => h (by show (if a = q then _ else _) = none; rw [if_neg e, if_neg e2]; exact h8)
        exact List.mem_cons_of_mem _ (List.mem_append_left _ ((g1 a).mpr h9))
end NROWS
theorem x_kA {M M1 : HM} {b q : Nat} {x : Option va_E} {z : Nat × List Value} {y : _} (hM : M1 = va_up M b x) (hb : M b = some (.inr z)) (hq : M q = some (.inl y)) : M1 q = some (.inl y) := by
  rw [hM, va_up_ne _ _ (fun e => by rw [e, hb] at hq; cases hq)]; exact hq
/-- what a new object holds -/
def V00 : Nat → Int := fun k => if k < 100 then -10000 else 0
def O00 : OW := fun j => if j < 3 then j else 0
theorem O00_at {j : Nat} (h : j < 3) : O00 j = j := if_pos h
theorem O00_row : (upd (upd (upd (fun _ => 0) (0 : Int).toNat (iN (0))) (1 : Int).toNat (iN (1))) (2 : Int).toNat (iN (2))) = fun j => iN ((O00 j : Nat) : Int) := by
  funext j
  simp only [upd, O00]
  by_cases e0 : j = 0
  · subst e0; rfl
  · by_cases e1 : j = 1
    · subst e1; rfl
    · by_cases e2 : j = 2
      · subst e2; rfl
      · rw [if_neg (show ¬ j = (2 : Int).toNat from e2), if_neg (show ¬ j = (1 : Int).toNat from e1), if_neg (show ¬ j = (0 : Int).toNat from e0), if_neg (by omega)]
        exact iN_0.symm
def ST0 : ST := (O00, fun _ => V00, fun _ => none, none, iN (-10000), iN (-10000), iN 0)
theorem V00_at {k : Nat} (h : k < 100) : V00 k = -10000 := if_pos h
theorem BV0 (o : Nat) (fk fv : Nat → Int32) : BV o V00 0 fk fv := ⟨by omega, fun p h => absurd h (Nat.not_lt_zero p), fun p q _ h => absurd h (Nat.not_lt_zero q), fun k hk hn => absurd (V00_at hk) hn, fun k hk => by rw [V00_at hk]; omega⟩
/-- a new book -/
abbrev BkN (G : xG) (M : HM) (b k v n : Nat) : Prop := BkE G M b k v n n V00 0 0
theorem BkN.new {G : xG} {M : HM} {b k v : Nat} {p0 : Int} {fk fv : Nat → Int32} (hp : 0 ≤ p0) (hb : M b = some (.inr (2, [.int (iN (p0)), .ref k, .ref v, .int (iN (p0)), .int 0, .int 0, .int 0]))) (hk : M k = some (.inl (G.2 1, 100, .inl fk))) (hv : M v = some (.inl (G.2 1, 100, .inl fv))) (hkv : k ≠ v) : BkN G M b k v p0.toNat := by
  have e : ((p0.toNat : Nat) : Int) = p0 := by omega
  refine ⟨0, fk, fv, ⟨?_, hk, hv, hkv, by omega, by omega⟩, BV0 _ fk fv⟩
  rw [e, hb, iN_0]
section MIS
variable {G : xG} {M M1 : HM} {a va oa wa ya : Nat} {qv qw : Nat → Nat} {fa fb : Nat → Option Nat} {fvv fw : Nat → Nat → Int32} {j k : Nat} {v : Int}
def vUp (f : Nat → Nat → Int32) (j : Nat) (g : Nat → Int32) : Nat → Nat → Int32 := fun i => if i = j then g else f i
theorem vUp_s (f : Nat → Nat → Int32) (j : Nat) (g : Nat → Int32) : vUp f j g j = g := if_pos rfl
theorem vUp_n (f : Nat → Nat → Int32) {i j : Nat} (g : Nat → Int32) (h : i ≠ j) : vUp f j g i = f i := if_neg h
/-- an object of the model being made -/
def MIx (G : xG) (M : HM) (a va oa wa ya : Nat) (qv qw : Nat → Nat) (fa fb : Nat → Option Nat) (fvv fw : Nat → Nat → Int32) : Prop :=
  M a = some (.inr (7, [.int (iN 0), .int (iN 0), .ref va, .ref oa, .ref wa, .ref ya, .null, .int (iN 0), .int (iN 0), .int (iN (-10000)), .int (iN (-10000)), .int (iN (-10000)), .int (iN (-10000))])) ∧
  M va = some (.inl (G.2 4, 3, .inr (.inr (.inr (.inr fa))))) ∧ M oa = some (.inl (G.2 1, 3, .inl (fun j => iN ((O00 j : Nat) : Int)))) ∧ M wa = some (.inl (G.2 4, 3, .inr (.inr (.inr (.inr fb))))) ∧ M ya = some (.inl (G.2 4, 4, .inr (.inr (.inr (.inr (fun _ => none)))))) ∧
  (∀ j, j < 3 → fa j = some (qv j)) ∧ (∀ j, j < 3 → fb j = some (qw j)) ∧ (∀ j, j < 3 → M (qv j) = some (.inl (G.2 1, 100, .inl (fvv j)))) ∧ (∀ j, j < 3 → M (qw j) = some (.inl (G.2 1, 100, .inl (fw j)))) ∧
  (∀ i j, i < 3 → j < 3 → i ≠ j → qv i ≠ qv j) ∧ (∀ i j, i < 3 → j < 3 → qw i ≠ qv j) ∧ (∀ i j, i < 3 → j < 3 → i ≠ j → qw i ≠ qw j)
theorem MIx.val (h : MIx G M a va oa wa ya qv qw fa fb fvv fw) (hj : j < 3) (hM : M1 = va_up M (qv j) (some (.inl (G.2 1, 100, .inl (upd (fvv j) k (iN v)))))) : MIx G M1 a va oa wa ya qv qw fa fb (vUp fvv j (upd (fvv j) k (iN v))) fw := by
  obtain ⟨h1, h2, h3, h4, h5, h6, h7, h8, h9, h10, h11, h12⟩ := h
  have hjv := h8 j hj
  have ko : ∀ {b : Nat} {z : _}, M b = some z → (∀ f, z ≠ .inl (G.2 1, 100, .inl f)) → M1 b = some z := fun {b z} hb hn => by rw [hM, va_up_ne _ _ (fun q => by rw [q, hjv] at hb; exact hn _ (Option.some.inj hb).symm)]; exact hb
  refine ⟨ko h1 (fun _ => by simp), ko h2 (fun _ => by simp), ko h3 (fun _ => by simp), ko h4 (fun _ => by simp), ko h5 (fun _ => by simp), h6, h7, fun i hi => ?_, fun i hi => ?_, h10, h11, h12⟩
  · by_cases e : i = j
    · subst e; rw [hM, va_up_self, vUp_s]
    · rw [hM, va_up_ne _ _ (h10 i j hi hj e), vUp_n _ _ e]; exact h8 i hi
  · rw [hM, va_up_ne _ _ (h11 i j hi hj)]; exact h9 i hi
theorem MIx.wgt (h : MIx G M a va oa wa ya qv qw fa fb fvv fw) (hj : j < 3) (hM : M1 = va_up M (qw j) (some (.inl (G.2 1, 100, .inl (upd (fw j) k (iN v)))))) : MIx G M1 a va oa wa ya qv qw fa fb fvv (vUp fw j (upd (fw j) k (iN v))) := by
  obtain ⟨h1, h2, h3, h4, h5, h6, h7, h8, h9, h10, h11, h12⟩ := h
  have hjv := h9 j hj
  have ko : ∀ {b : Nat} {z : _}, M b = some z → (∀ f, z ≠ .inl (G.2 1, 100, .inl f)) → M1 b = some z := fun {b z} hb hn => by rw [hM, va_up_ne _ _ (fun q => by rw [q, hjv] at hb; exact hn _ (Option.some.inj hb).symm)]; exact hb
  refine ⟨ko h1 (fun _ => by simp), ko h2 (fun _ => by simp), ko h3 (fun _ => by simp), ko h4 (fun _ => by simp), ko h5 (fun _ => by simp), h6, h7, fun i hi => ?_, fun i hi => ?_, h10, h11, h12⟩
  · rw [hM, va_up_ne _ _ (fun e => h11 j i hj hi e.symm)]; exact h8 i hi
  · by_cases e : i = j
    · subst e; rw [hM, va_up_self, vUp_s]
    · rw [hM, va_up_ne _ _ (h12 i j hi hj e), vUp_n _ _ e]; exact h9 i hi
theorem MIx.fa' (h : MIx G M a va oa wa ya qv qw fa fb fvv fw) (hj : j < 3) : fa j = some (qv j) := h.2.2.2.2.2.1 j hj
theorem MIx.fb' (h : MIx G M a va oa wa ya qv qw fa fb fvv fw) (hj : j < 3) : fb j = some (qw j) := h.2.2.2.2.2.2.1 j hj
theorem MIx.rv (h : MIx G M a va oa wa ya qv qw fa fb fvv fw) (hj : j < 3) : M (qv j) = some (.inl (G.2 1, 100, .inl (fvv j))) := h.2.2.2.2.2.2.2.1 j hj
theorem MIx.rw' (h : MIx G M a va oa wa ya qv qw fa fb fvv fw) (hj : j < 3) : M (qw j) = some (.inl (G.2 1, 100, .inl (fw j))) := h.2.2.2.2.2.2.2.2.1 j hj
end MIS
theorem mw_k0 (n : Nat) : ((mwN 0 n : Nat) : Int) = n := by unfold mwN; rw [if_pos rfl]
theorem mw_k1 {n : Nat} (h : n < 100) : (n % 2 = 0 → ((mwN 1 n : Nat) : Int) = 98 - n) ∧ (n % 2 ≠ 0 → ((mwN 1 n : Nat) : Int) = 199 - n) := by
  unfold mwN
  rw [if_neg (by decide), if_pos rfl]
  refine ⟨fun h2 => ?_, fun h2 => ?_⟩
  · rw [if_pos h2]; omega
  · rw [if_neg h2]; omega
theorem mw_k2 (n : Nat) : mwN 2 n = nmN n := by unfold mwN; rw [if_neg (by decide), if_neg (by decide)]
/-- what the loop over the keys has written: values below n, weights below n; the rest is as new -/
def miF (fvv fw : Nat → Nat → Int32) (n : Nat) : Prop := ∀ i k, i < 3 → (fvv i k = if k < n then iN (-10000) else 0) ∧ (k < n → fw i k = iN ((mwN i k : Nat) : Int))
theorem miF_0 : miF (fun _ _ => 0) (fun _ _ => 0) 0 := fun i k _ => ⟨(if_neg (Nat.not_lt_zero k)).symm, fun h => absurd h (Nat.not_lt_zero k)⟩
/-- in the middle of a key: b of the books are written -/
def miB (fvv : Nat → Nat → Int32) (n b : Nat) : Prop := ∀ i k, i < 3 → fvv i k = if k < n ∨ (k = n ∧ i < b) then iN (-10000) else 0
theorem miB_0 {fvv fw : Nat → Nat → Int32} {n : Nat} (h : miF fvv fw n) : miB fvv n 0 := fun i k hi => by
  rw [(h i k hi).1]
  by_cases e : k < n
  · rw [if_pos e, if_pos (Or.inl e)]
  · rw [if_neg e, if_neg (by omega)]
theorem miB_s {fvv : Nat → Nat → Int32} {n b : Nat} (h : miB fvv n b) : miB (vUp fvv b (upd (fvv b) n (iN (-10000)))) n (b + 1) := fun i k hi => by
  by_cases e : i = b
  · subst e
    rw [vUp_s]
    by_cases e2 : k = n
    · subst e2
      rw [if_pos (show k < k ∨ (k = k ∧ i < i + 1) from Or.inr ⟨rfl, Nat.lt_succ_self i⟩)]
      exact if_pos rfl
    · simp only [upd, if_neg e2]; rw [h i k hi]
      by_cases e3 : k < n
      · rw [if_pos (Or.inl e3), if_pos (Or.inl e3)]
      · rw [if_neg (by omega), if_neg (by omega)]
  · rw [vUp_n _ _ e, h i k hi]
    by_cases e3 : k < n ∨ (k = n ∧ i < b)
    · rw [if_pos e3, if_pos (by omega)]
    · rw [if_neg e3, if_neg (by omega)]
theorem miF_s {fvv fw : Nat → Nat → Int32} {n : Nat} {x y z : Int} (hv : miB fvv n 3) (hw : ∀ i k, i < 3 → k < n → fw i k = iN ((mwN i k : Nat) : Int)) (hx : x = (mwN 0 n : Nat)) (hy : y = (mwN 1 n : Nat)) (hz : z = (mwN 2 n : Nat)) {f1 f2 f3 : Nat → Nat → Int32} (e1 : f1 = vUp fw 0 (upd (fw 0) n (iN x))) (e2 : f2 = vUp f1 1 (upd (f1 1) n (iN y))) (e3 : f3 = vUp f2 2 (upd (f2 2) n (iN z))) : miF fvv f3 (n + 1) := fun i k hi => by
  refine ⟨?_, fun hk => ?_⟩
  · rw [hv i k hi]
    by_cases e : k < n + 1
    · rw [if_pos e, if_pos (by omega)]
    · rw [if_neg e, if_neg (by omega)]
  · subst e3; subst e2; subst e1; subst hx; subst hy; subst hz
    rcases (show i = 0 ∨ i = 1 ∨ i = 2 by omega) with rfl | rfl | rfl
    · rw [vUp_n _ _ (by omega), vUp_n _ _ (by omega), vUp_s]
      by_cases e : k = n
      · subst e; simp only [upd, if_true]
      · simp only [upd, if_neg e]; exact hw 0 k hi (by omega)
    · rw [vUp_n _ _ (by omega), vUp_s]
      by_cases e : k = n
      · subst e; simp only [upd, if_true]
      · simp only [upd, if_neg e]; rw [vUp_n _ _ (by omega)]; exact hw 1 k hi (by omega)
    · rw [vUp_s]
      by_cases e : k = n
      · subst e; simp only [upd, if_true]
      · simp only [upd, if_neg e]; rw [vUp_n _ _ (by omega), vUp_n _ _ (by omega)]; exact hw 2 k hi (by omega)
/-- done: a new object of the model -/
theorem MIx.done {G : xG} {M : HM} {a va oa wa ya : Nat} {qv qw : Nat → Nat} {fa fb : Nat → Option Nat} {fvv fw : Nat → Nat → Int32} (h : MIx G M a va oa wa ya qv qw fa fb fvv fw) (hf : miF fvv fw 100) (S : Nat → Bool) : MGm G M a S 0 ST0 := by
  obtain ⟨h1, h2, h3, h4, h5, h6, h7, h8, h9, h10, h11, h12⟩ := h
  refine ⟨va, oa, wa, ya, none, 0, 0, -10000, -10000, qv, qw, fa, fb, fun _ => none, none, ⟨⟨h1, h2, h3, h4, h5, h6, h7, fun j hj => ?_, fun j hj => ⟨fw j, h9 j hj, fun k hk => (hf j k hj).2 hk⟩, h10, h11⟩, ⟨fun j hj => by show O00 j < 3; rw [O00_at hj]; exact hj, fun j k hj hk => ?_, fun j k hj hk hn => absurd (V00_at hk) hn, by omega⟩, fun j hj => trivial, trivial⟩, rfl, rfl, rfl⟩
  · rw [h8 j hj]
    have e : fvv j = fun k => iN (ST0.V j k) := by
      funext k
      show fvv j k = iN (V00 k)
      rw [(hf j k hj).1]
      simp only [V00]
      by_cases e : k < 100
      · rw [if_pos e, if_pos e]
      · rw [if_neg e, if_neg e, iN_0]
    rw [e]
  · show -10000 ≤ V00 k ∧ V00 k ≤ 9999
    rw [V00_at hk]; omega
/-- which weight a name has -/
theorem nm_int : ∀ k, k < 100 → ((k < 4 → (nmN k : Int) = (k % 4 + 1) * 125) ∧ (4 ≤ k → k < 16 → (nmN k : Int) = ((k / 4 % 4 + 1) * 5 + (k % 4 + 1)) * 25) ∧ (16 ≤ k → k < 64 → (nmN k : Int) = (((k / 16 % 4 + 1) * 5 + (k / 4 % 4 + 1)) * 5 + (k % 4 + 1)) * 5) ∧ (64 ≤ k → (nmN k : Int) = (((k / 64 % 4 + 1) * 5 + (k / 16 % 4 + 1)) * 5 + (k / 4 % 4 + 1)) * 5 + (k % 4 + 1))) := fun k hk => by
  simp only [nmN]
  refine ⟨fun h => ?_, fun h h2 => ?_, fun h h2 => ?_, fun h => ?_⟩
  · rw [if_pos h]; omega
  · rw [if_neg (by omega), if_pos h2]; omega
  · rw [if_neg (by omega), if_neg (by omega), if_pos h2]; omega
  · rw [if_neg (by omega), if_neg (by omega), if_neg (by omega)]; omega
/-- a new object of the class under work: j of its books stand -/
def RIx (G : xG) (M : HM) (bs : Nat) (j : Nat) (fb : Nat → Option Nat) (qb qk qv : Nat → Nat) : Prop := M bs = some (.inl (G.2 2, 3, .inr (.inr (.inr (.inr fb))))) ∧ (∀ i, i < j → fb i = some (qb i)) ∧ (∀ i, i < j → BkN G M (qb i) (qk i) (qv i) i) ∧ (∀ i i', i < j → i' < j → i ≠ i' → xAp (qb i) (qk i) (qv i) (qb i') (qk i') (qv i'))
def nUp (f : Nat → Nat) (j x : Nat) : Nat → Nat := fun i => if i = j then x else f i
theorem BkN.ext {G : xG} {M M1 : HM} {b k v n : Nat} (h : BkN G M b k v n) (hx : xExt M M1) : BkN G M1 b k v n := by
  obtain ⟨a1, a2, a3, a4, a5⟩ := h
  exact ⟨a1, a2, a3, a4.ext hx, a5⟩
theorem BkN.in {G : xG} {M : HM} {b k v n : Nat} (h : BkN G M b k v n) : M b ≠ none ∧ M k ≠ none ∧ M v ≠ none := by
  obtain ⟨a1, a2, a3, a8, a5⟩ := h
  exact ⟨fun h => (by rw [a8.1] at h; cases h), fun h => (by rw [a8.2.1] at h; cases h), fun h => (by rw [a8.2.2.1] at h; cases h)⟩
/-- one more book -/
theorem RIx.more {G : xG} {M M1 M2 : HM} {bs j b k v : Nat} {fb : Nat → Option Nat} {qb qk qv : Nat → Nat} (h : RIx G M bs j fb qb qk qv) (hx : xExt M M1) (hB : BkN G M1 b k v j) (nb : M b = none) (nk : M k = none) (nv : M v = none) (hM : M2 = va_up M1 bs (some (.inl (G.2 2, 3, .inr (.inr (.inr (.inr (va_up fb j (some b))))))))) : RIx G M2 bs (j + 1) (va_up fb j (some b)) (nUp qb j b) (nUp qk j k) (nUp qv j v) := by
  obtain ⟨h1, h2, h3, h4⟩ := h
  have hbs := hx _ _ h1
  have ke : ∀ {b k v n : Nat}, BkN G M1 b k v n → BkN G M2 b k v n := fun {b k v n} hB => by
    obtain ⟨a1, a2, a3, ⟨b1, b2, b3, b4⟩, a5⟩ := hB
    refine ⟨a1, a2, a3, ⟨?_, ?_, ?_, b4⟩, a5⟩
    · rw [hM, va_up_ne _ _ (fun e => by rw [e, hbs] at b1; cases b1)]; exact b1
    · rw [hM, va_up_ne _ _ (fun e => by rw [e, hbs] at b2; simp at b2)]; exact b2
    · rw [hM, va_up_ne _ _ (fun e => by rw [e, hbs] at b3; simp at b3)]; exact b3
  have ap : ∀ {b' k' v' n' : Nat}, BkN G M b' k' v' n' → xAp b' k' v' b k v ∧ xAp b k v b' k' v' := fun {b' k' v' n'} hB' => by
    obtain ⟨m1, m2, m3⟩ := hB'.in
    have d : ∀ {x y : Nat}, M x ≠ none → M y = none → x ≠ y := fun {x y} hx hy e => hx (e ▸ hy)
    refine ⟨⟨⟨?_, ?_, ?_⟩, ⟨?_, ?_, ?_⟩, ⟨?_, ?_, ?_⟩⟩, ⟨⟨?_, ?_, ?_⟩, ⟨?_, ?_, ?_⟩, ⟨?_, ?_, ?_⟩⟩⟩ <;> first | exact d m1 nb | exact d m1 nk | exact d m1 nv | exact d m2 nb | exact d m2 nk | exact d m2 nv | exact d m3 nb | exact d m3 nk | exact d m3 nv | exact (d m1 nb).symm | exact (d m1 nk).symm | exact (d m1 nv).symm | exact (d m2 nb).symm | exact (d m2 nk).symm | exact (d m2 nv).symm | exact (d m3 nb).symm | exact (d m3 nk).symm | exact (d m3 nv).symm
  refine ⟨by rw [hM, va_up_self], fun i hi => ?_, fun i hi => ?_, fun i i' hi hi' hn => ?_⟩
  · by_cases e : i = j
    · subst e; rw [va_up_self]; simp [nUp]
    · rw [va_up_ne _ _ e]; simp only [nUp, if_neg e]; exact h2 i (by omega)
  · by_cases e : i = j
    · subst e; simp only [nUp, if_true]; exact ke hB
    · simp only [nUp, if_neg e]; exact ke ((h3 i (by omega)).ext hx)
  · by_cases e : i = j
    · by_cases e2 : i' = j
      · exact absurd (e.trans e2.symm) hn
      · subst e; simp only [nUp, if_true, if_neg e2]; exact (ap (h3 i' (by omega))).2
    · by_cases e2 : i' = j
      · subst e2; simp only [nUp, if_true, if_neg e]; exact (ap (h3 i (by omega))).1
      · simp only [nUp, if_neg e, if_neg e2]; exact h4 i i' (by omega) (by omega) hn
theorem RIx.ext {G : xG} {M M1 : HM} {bs j : Nat} {fb : Nat → Option Nat} {qb qk qv : Nat → Nat} (h : RIx G M bs j fb qb qk qv) (hx : xExt M M1) : RIx G M1 bs j fb qb qk qv := ⟨hx _ _ h.1, h.2.1, fun i hi => (h.2.2.1 i hi).ext hx, h.2.2.2⟩
/-- the object's own cell was written -/
theorem RIx.obj {G : xG} {M M1 : HM} {bs j o ci : Nat} {fs : List Value} {x : Option va_E} {fb : Nat → Option Nat} {qb qk qv : Nat → Nat} (h : RIx G M bs j fb qb qk qv) (ho : M o = some (.inr (ci, fs))) (hc : ci ≠ 2) (hM : M1 = va_up M o x) : RIx G M1 bs j fb qb qk qv := by
  have ka : ∀ {q : Nat} {y : _}, M q = some (.inl y) → M1 q = some (.inl y) := fun hq => x_kA hM ho hq
  refine ⟨ka h.1, h.2.1, fun i hi => ?_, h.2.2.2⟩
  obtain ⟨a1, a2, a3, ⟨b1, b2, b3, b4⟩, a5⟩ := h.2.2.1 i hi
  refine ⟨a1, a2, a3, ⟨?_, ka b2, ka b3, b4⟩, a5⟩
  rw [hM, va_up_ne _ _ (fun e => by rw [e, ho] at b1; cases b1; exact hc rfl)]; exact b1
/-- all three books stand: a new object of the class -/
theorem RIx.done {G : xG} {M : HM} {h0 bs vs : Nat} {fb : Nat → Option Nat} {qb qk qv : Nat → Nat} (h : RIx G M bs 3 fb qb qk qv) (ho : M h0 = some (.inr (5, [.ref bs, .ref vs, .null, .int (iN (-10000)), .int (iN (-10000)), .int 0]))) (hv : M vs = some (.inl (G.2 3, 4, .inr (.inr (.inr (.inr (fun _ => none))))))) (hbv : bs ≠ vs) : RG G M h0 0 ST0 := by
  obtain ⟨h1, h2, h3, h4⟩ := h
  refine ⟨bs, vs, none, qb, qk, qv, fb, fun _ => none, fun _ => 0, fun _ => 0, none, ⟨ho, h1, hv, hbv, h2, fun j hj => ?_, h4, fun j hj => trivial, trivial, fun j hj => ?_, trivial⟩, rfl, by omega, fun j hj => ⟨⟨Int.le_refl 0, Int.le_refl 0⟩, ⟨Int.le_refl 0, by show (0 : Int) ≤ 200 * 0; omega⟩⟩⟩
  · show BkE G M (qb j) (qk j) (qv j) j (O00 j) V00 0 0
    rw [O00_at hj]; exact h3 j hj
  · show O00 j < 3
    rw [O00_at hj]; exact hj
theorem nm_le {n : Nat} (h : n < 100) : nmN n ≤ 999 := by have e := mw_le (o := 2) (by omega) h; rw [mw_k2] at e; exact e
/-! the name's digits, stage by stage -/
def nmU : Nat → Int
  | 0 => 64
  | 1 => 16
  | 2 => 4
  | _ => 1
def nmS (p : Int) : Nat → Int × Int
  | 0 => (0, 0)
  | s + 1 => if p < nmU s ∧ 1 < nmU s then nmS p s else ((nmS p s).1 + 1, (nmS p s).2 * 5 + p / nmU s % 4 + 1)
def nmL (p : Int) (s : Nat) : Int := (nmS p s).1
def nmM (p : Int) (s : Nat) : Int := (nmS p s).2
theorem nm_sk {p : Int} {s : Nat} (h : p < nmU s ∧ 1 < nmU s) : nmL p (s + 1) = nmL p s ∧ nmM p (s + 1) = nmM p s := by
  have e : nmS p (s + 1) = nmS p s := by rw [nmS]; exact if_pos h
  exact ⟨by simp only [nmL]; rw [e], by simp only [nmM]; rw [e]⟩
theorem nm_pt {p : Int} {s : Nat} (h : ¬ (p < nmU s ∧ 1 < nmU s)) : nmL p (s + 1) = nmL p s + 1 ∧ nmM p (s + 1) = nmM p s * 5 + p / nmU s % 4 + 1 := by
  have e : nmS p (s + 1) = ((nmS p s).1 + 1, (nmS p s).2 * 5 + p / nmU s % 4 + 1) := by rw [nmS]; exact if_neg h
  exact ⟨by simp only [nmL]; rw [e], by simp only [nmM]; rw [e]⟩
theorem nm_s0 (p : Int) : (p < 64 → nmL p 1 = nmL p 0 ∧ nmM p 1 = nmM p 0) ∧ (64 ≤ p → nmL p 1 = nmL p 0 + 1 ∧ nmM p 1 = nmM p 0 * 5 + p / 64 % 4 + 1) := ⟨fun h => nm_sk (s := 0) ⟨h, by decide⟩, fun h => nm_pt (s := 0) (fun q => absurd (show p < 64 from q.1) (by omega))⟩
theorem nm_s1 (p : Int) : (p < 16 → nmL p 2 = nmL p 1 ∧ nmM p 2 = nmM p 1) ∧ (16 ≤ p → nmL p 2 = nmL p 1 + 1 ∧ nmM p 2 = nmM p 1 * 5 + p / 16 % 4 + 1) := ⟨fun h => nm_sk (s := 1) ⟨h, by decide⟩, fun h => nm_pt (s := 1) (fun q => absurd (show p < 16 from q.1) (by omega))⟩
theorem nm_s2 (p : Int) : (p < 4 → nmL p 3 = nmL p 2 ∧ nmM p 3 = nmM p 2) ∧ (4 ≤ p → nmL p 3 = nmL p 2 + 1 ∧ nmM p 3 = nmM p 2 * 5 + p / 4 % 4 + 1) := ⟨fun h => nm_sk (s := 2) ⟨h, by decide⟩, fun h => nm_pt (s := 2) (fun q => absurd (show p < 4 from q.1) (by omega))⟩
theorem nm_s3 (p : Int) : nmL p 4 = nmL p 3 + 1 ∧ nmM p 4 = nmM p 3 * 5 + p / 1 % 4 + 1 := nm_pt (s := 3) (fun q => absurd (show (1 : Int) < 1 from q.2) (by decide))
theorem nm_end0 : ∀ k : Nat, k < 100 → ((nmL (k : Int) 4 = 1 ∧ nmM (k : Int) 4 * 125 = (nmN k : Int)) ∨ (nmL (k : Int) 4 = 2 ∧ nmM (k : Int) 4 * 25 = (nmN k : Int)) ∨ (nmL (k : Int) 4 = 3 ∧ nmM (k : Int) 4 * 5 = (nmN k : Int)) ∨ (nmL (k : Int) 4 = 4 ∧ nmM (k : Int) 4 = (nmN k : Int))) := by decide +kernel
theorem nm_end {p : Int} (h : 0 ≤ p ∧ p ≤ 99) : ((nmL p 4 = 1 ∧ nmM p 4 * 125 = (nmN p.toNat : Int)) ∨ (nmL p 4 = 2 ∧ nmM p 4 * 25 = (nmN p.toNat : Int)) ∨ (nmL p 4 = 3 ∧ nmM p 4 * 5 = (nmN p.toNat : Int)) ∨ (nmL p 4 = 4 ∧ nmM p 4 = (nmN p.toNat : Int))) := by
  have e := nm_end0 p.toNat (by omega)
  rw [show ((p.toNat : Nat) : Int) = p by omega] at e
  exact e
