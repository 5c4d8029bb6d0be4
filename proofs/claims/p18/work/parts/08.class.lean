/-! what an object of the class is -/
def BkE (G : xG) (M : HM) (b k v j o : Nat) (V : Nat → Int) (t kc : Int) : Prop := ∃ (sz : Int) (fk fv : Nat → Int32), Bk G M b k v (iN ((j : Nat) : Int)) (iN ((o : Nat) : Int)) (iN (t)) (iN (kc)) sz fk fv ∧ BV o V sz.toNat fk fv
/-- a view's cell, its weights by the orders P -/
def VwT (M : HM) (y : Nat) (qb P : Nat → Nat) (t : VT) : Prop := t.ok ∧ Vw M y (qb t.b) (iN t.lo) (iN t.up) (iN (swN (P t.b) t.lo t.li)) (iN (ewN (P t.b) t.lo t.li t.up t.ui)) t.li t.ui
def VwO (M : HM) (qb P : Nat → Nat) : Option Nat → Option VT → Prop
  | none, none => True
  | some y, some t => VwT M y qb P t
  | _, _ => False
/-- the walk's cell: its view, its place, whether it may drop, the touches and the key changes that it knows -/
def WkO (M : HM) (qb P : Nat → Nat) : Option Nat → WA → Prop
  | none, none => True
  | some w, some (t, ps, cd, tw, kw) => ∃ y : Nat, Wk M w y (iN (ps)) (iN (tw)) (iN (kw)) cd ∧ VwT M y qb P t
  | _, _ => False
def WkG (P : OW) (T C : Nat → Int) : WA → Prop
  | none => True
  | some (t, ps, cd, tw, kw) => (0 ≤ tw ∧ tw ≤ T t.b) ∧ (0 ≤ kw ∧ kw ≤ C t.b) ∧ (ps = -10000 ∨ ((0 ≤ ps ∧ ps ≤ 99) ∧ inM (P t.b) t ps.toNat)) ∧ (cd = 1 → ps ≠ -10000) ∧ (cd = 0 ∨ cd = 1)
/-- an object of the class: its cell, its books' row, its views' row, three books that lie apart, the open views, the walk -/
def RGx (G : xG) (M : HM) (h0 bs vs : Nat) (og : Option Nat) (kk kv rf : Int32) (qb qk qv : Nat → Nat) (fb fv : Nat → Option Nat) (O P : OW) (W : VW) (V : BW) (T C : Nat → Int) (K : WA) : Prop :=
  M h0 = some (.inr (5, [.ref bs, .ref vs, va_rf og, .int kk, .int kv, .int rf])) ∧ M bs = some (.inl (G.2 2, 3, .inr (.inr (.inr (.inr fb))))) ∧ M vs = some (.inl (G.2 3, 4, .inr (.inr (.inr (.inr fv))))) ∧ bs ≠ vs ∧
  (∀ j, j < 3 → fb j = some (qb j)) ∧ (∀ j, j < 3 → BkE G M (qb j) (qk j) (qv j) j (O j) (V j) (T j) (C j)) ∧ (∀ i j, i < 3 → j < 3 → i ≠ j → xAp (qb i) (qk i) (qv i) (qb j) (qk j) (qv j)) ∧
  (∀ j, j < 4 → VwO M qb P (fv j) (W j)) ∧ WkO M qb P og K ∧ (∀ j, j < 3 → O j < 3) ∧ WkG P T C K
/-- the walk as the reference sees it -/
def abK (T C : Nat → Int) : WA → WA
  | none => none
  | some (t, ps, cd, tw, kw) => some (t, ps, cd, if cd = 1 ∧ tw = T t.b then 1 else 0, if kw = C t.b then 0 else 1)
def cbN (N : Int) (T C : Nat → Int) : Prop := N ≤ 600 ∧ ∀ j, j < 3 → (0 ≤ T j ∧ T j ≤ N) ∧ (0 ≤ C j ∧ C j ≤ 200 * N)
def RG (G : xG) (M : HM) (h0 : Nat) (N : Int) (s : ST) : Prop := ∃ (bs vs : Nat) (og : Option Nat) (qb qk qv : Nat → Nat) (fb fv : Nat → Option Nat) (T C : Nat → Int) (K : WA), RGx G M h0 bs vs og s.kk s.kv s.rf qb qk qv fb fv s.O s.O s.W s.V T C K ∧ s.K = abK T C K ∧ cbN N T C
def xExt (M M1 : HM) : Prop := ∀ a e, M a = some e → M1 a = some e
theorem xExt.new {M : HM} {q : Nat} {x : Option va_E} (h : M q = none) : xExt M (va_up M q x) := fun a e he => by rw [va_up_ne _ _ (fun z => by rw [z, h] at he; cases he)]; exact he
theorem xExt.tr {M M1 M2 : HM} (h1 : xExt M M1) (h2 : xExt M1 M2) : xExt M M2 := fun a e he => h2 a e (h1 a e he)
theorem Bk.ext {G : xG} {M M1 : HM} {b k v : Nat} {no o t kc : Int32} {sz : Int} {fk fv : Nat → Int32} (h : Bk G M b k v no o t kc sz fk fv) (hx : xExt M M1) : Bk G M1 b k v no o t kc sz fk fv := by
  obtain ⟨h1, h2, h3, h4⟩ := h
  exact ⟨hx _ _ h1, hx _ _ h2, hx _ _ h3, h4⟩
theorem upV_same (T : Nat → Int) (i : Nat) : upV T i (T i) = T := upV_self rfl
theorem upO_self {O : OW} {i o : Nat} (h : O i = o) : upO O i o = O := by
  funext j
  by_cases e : j = i
  · subst e; rw [upO_s, h]
  · exact upO_n _ _ e
section RGS
variable {G : xG} {M M1 : HM} {h0 bs vs i y w : Nat} {og og2 : Option Nat} {kk kv rf kk2 kv2 rf2 : Int32} {qb qk qv : Nat → Nat} {fb fv fv2 : Nat → Option Nat} {O P P2 : Nat → Nat} {W W2 : VW} {o o2 o3 : Nat} {no oo t kc : Int32} {sz sz2 t1 c1 : Int} {fk fw fk2 fw2 : Nat → Int32} {V : BW} {T C : Nat → Int} {K K2 : WA} {F F2 : Nat → Int}
theorem RGx.fb' (h : RGx G M h0 bs vs og kk kv rf qb qk qv fb fv O P W V T C K) {j : Nat} (hj : j < 3) : fb j = some (qb j) := h.2.2.2.2.1 j hj
theorem RGx.bk (h : RGx G M h0 bs vs og kk kv rf qb qk qv fb fv O P W V T C K) (hj : i < 3) : BkE G M (qb i) (qk i) (qv i) i (O i) (V i) (T i) (C i) := h.2.2.2.2.2.1 i hj
theorem RGx.ap (h : RGx G M h0 bs vs og kk kv rf qb qk qv fb fv O P W V T C K) {i j : Nat} (hi : i < 3) (hj : j < 3) (hn : i ≠ j) : xAp (qb i) (qk i) (qv i) (qb j) (qk j) (qv j) := h.2.2.2.2.2.2.1 i j hi hj hn
theorem RGx.vwo (h : RGx G M h0 bs vs og kk kv rf qb qk qv fb fv O P W V T C K) {j : Nat} (hj : j < 4) : VwO M qb P (fv j) (W j) := h.2.2.2.2.2.2.2.1 j hj
theorem RGx.wk (h : RGx G M h0 bs vs og kk kv rf qb qk qv fb fv O P W V T C K) : WkO M qb P og K := h.2.2.2.2.2.2.2.2.1
theorem RGx.ol (h : RGx G M h0 bs vs og kk kv rf qb qk qv fb fv O P W V T C K) {j : Nat} (hj : j < 3) : O j < 3 := h.2.2.2.2.2.2.2.2.2.1 j hj
theorem RGx.wg (h : RGx G M h0 bs vs og kk kv rf qb qk qv fb fv O P W V T C K) : WkG P T C K := h.2.2.2.2.2.2.2.2.2.2
theorem VwO.yes {a : Option Nat} {x : Option VT} (h : VwO M qb P a x) (ha : a = some y) : ∃ t, x = some t ∧ VwT M y qb P t := by
  subst ha
  rcases x with _ | t
  · exact h.elim
  · exact ⟨t, rfl, h⟩
theorem VwO.nil {a : Option Nat} {x : Option VT} (h : VwO M qb P a x) (ha : a = none) : x = none := by
  subst ha
  rcases x with _ | t
  · rfl
  · exact h.elim
theorem WkO.yes (h : WkO M qb P (some w) K) : ∃ (t : VT) (ps cd tw kw : Int) (y : Nat), K = some (t, ps, cd, tw, kw) ∧ Wk M w y (iN (ps)) (iN (tw)) (iN (kw)) cd ∧ VwT M y qb P t := by
  rcases K with _ | ⟨t, ps, cd, tw, kw⟩
  · exact h.elim
  · obtain ⟨y, h1, h2⟩ := h
    exact ⟨t, ps, cd, tw, kw, y, rfl, h1, h2⟩
theorem WkO.nil (h : WkO M qb P none K) : K = none := by
  rcases K with _ | ⟨t, ps, cd, tw, kw⟩
  · rfl
  · exact h.elim
theorem VwT.at {t : VT} (h : ∀ fs, M y = some (.inr (3, fs)) → M1 y = some (.inr (3, fs))) (hy : VwT M y qb P t) : VwT M1 y qb P t := ⟨hy.1, h _ hy.2.1, hy.2.2⟩
theorem VwO.at {a : Option Nat} {x : Option VT} (h : ∀ y fs, M y = some (.inr (3, fs)) → M1 y = some (.inr (3, fs))) (hy : VwO M qb P a x) : VwO M1 qb P a x := by
  rcases a with _ | y <;> rcases x with _ | t
  · trivial
  · exact hy.elim
  · exact hy.elim
  · exact VwT.at (fun fs => h y fs) hy
theorem WkO.at (h : ∀ a fs, M a = some (.inr (3, fs)) → M1 a = some (.inr (3, fs))) (h4 : ∀ w, og = some w → ∀ fs, M w = some (.inr (4, fs)) → M1 w = some (.inr (4, fs))) (hy : WkO M qb P og K) : WkO M1 qb P og K := by
  rcases og with _ | w <;> rcases K with _ | ⟨t, ps, cd, tw, kw⟩
  · trivial
  · exact hy.elim
  · exact hy.elim
  · obtain ⟨y, ⟨h1, h2⟩, h3⟩ := hy
    exact ⟨y, ⟨h4 w rfl _ h1, h2⟩, h3.at (fun fs => h _ fs)⟩
theorem WkG.up (h : WkG P T C K) (ht : T i ≤ t1) (hc : C i ≤ c1) : WkG P (upV T i t1) (upV C i c1) K := by
  rcases K with _ | ⟨t, ps, cd, tw, kw⟩
  · trivial
  · obtain ⟨⟨a1, a2⟩, ⟨b1, b2⟩, c⟩ := h
    by_cases e : t.b = i
    · refine ⟨⟨a1, ?_⟩, ⟨b1, ?_⟩, c⟩
      · rw [e, upV_s]; rw [e] at a2; omega
      · rw [e, upV_s]; rw [e] at b2; omega
    · exact ⟨⟨a1, by rw [upV_n _ _ e]; exact a2⟩, ⟨b1, by rw [upV_n _ _ e]; exact b2⟩, c⟩
/-- one of its books was written, and may go by another order -/
theorem RGx.bookO (h : RGx G M h0 bs vs og kk kv rf qb qk qv fb fv O P W V T C K) (hi : i < 3) (hB : Bk G M (qb i) (qk i) (qv i) no oo t kc sz fk fw) (hB1 : Bk G M1 (qb i) (qk i) (qv i) (iN ((i : Nat) : Int)) (iN ((o3 : Nat) : Int)) (iN (t1)) (iN (c1)) sz2 fk2 fw2) (hV1 : BV o3 F sz2.toNat fk2 fw2) (ho3 : o3 < 3) (sm : xSm M M1 (qb i) (qk i) (qv i)) (ht : T i ≤ t1) (hc : C i ≤ c1) : RGx G M1 h0 bs vs og kk kv rf qb qk qv fb fv (upO O i o3) P W (upB V i F) (upV T i t1) (upV C i c1) K := by
  obtain ⟨h1, h2, h3, h4, h5, h6, h7, h8, h9, h10, h11⟩ := h
  refine ⟨x_kB hB sm (by decide) h1, x_kBq hB sm h2, x_kBq hB sm h3, h4, h5, fun j hj => ?_, h7, fun j hj => (h8 j hj).at (fun y fs => x_kB hB sm (by decide)), h9.at (fun a fs => x_kB hB sm (by decide)) (fun _ _ fs => x_kB hB sm (by decide)), fun j hj => ?_, h11.up ht hc⟩
  · by_cases e : j = i
    · subst e; rw [upO_s, upB_s, upV_s, upV_s]; exact ⟨_, _, _, hB1, hV1⟩
    · rw [upO_n _ _ e, upB_n _ _ e, upV_n _ _ e, upV_n _ _ e]
      obtain ⟨a1, a3, a4, a8, a9⟩ := h6 j hj
      exact ⟨a1, a3, a4, a8.kept sm (h7 i j hi hj (fun q => e q.symm)), a9⟩
  · by_cases e : j = i
    · subst e; rw [upO_s]; exact ho3
    · rw [upO_n _ _ e]; exact h10 j hj
theorem RGx.book (h : RGx G M h0 bs vs og kk kv rf qb qk qv fb fv O P W V T C K) (hi : i < 3) (hB : Bk G M (qb i) (qk i) (qv i) no oo t kc sz fk fw) (hB1 : Bk G M1 (qb i) (qk i) (qv i) (iN ((i : Nat) : Int)) (iN ((O i : Nat) : Int)) (iN (t1)) (iN (c1)) sz2 fk2 fw2) (hV1 : BV (O i) F sz2.toNat fk2 fw2) (sm : xSm M M1 (qb i) (qk i) (qv i)) (ht : T i ≤ t1) (hc : C i ≤ c1) : RGx G M1 h0 bs vs og kk kv rf qb qk qv fb fv O P W (upB V i F) (upV T i t1) (upV C i c1) K := by
  have g := h.bookO hi hB hB1 hV1 (h.ol hi) sm ht hc
  rw [upO_self rfl] at g
  exact g
/-- the views' weights, reckoned by other orders that are the same for their books -/
theorem RGx.reP (h : RGx G M h0 bs vs og kk kv rf qb qk qv fb fv O P W V T C K) (hp : ∀ j, j < 4 → ∀ t, W j = some t → P2 t.b = P t.b) (hk : ∀ k, K = some k → P2 k.1.b = P k.1.b) : RGx G M h0 bs vs og kk kv rf qb qk qv fb fv O P2 W V T C K := by
  obtain ⟨h1, h2, h3, h4, h5, h6, h7, h8, h9, h10, h11⟩ := h
  refine ⟨h1, h2, h3, h4, h5, h6, h7, fun j hj => ?_, ?_, h10, ?_⟩
  · have g := h8 j hj
    cases ea : fv j with
    | none => rw [ea] at g; rw [g.nil rfl]; trivial
    | some y =>
      rw [ea] at g
      obtain ⟨t, ht, hT⟩ := g.yes rfl
      rw [ht]
      have e := hp j hj t ht
      exact ⟨hT.1, by rw [e]; exact hT.2⟩
  · rcases og with _ | w <;> rcases K with _ | ⟨t, ps, cd, tw, kw⟩
    · trivial
    · exact h9.elim
    · exact h9.elim
    · obtain ⟨y, g1, g2⟩ := h9
      have e := hk _ rfl
      exact ⟨y, g1, g2.1, by rw [e]; exact g2.2⟩
  · rcases K with _ | ⟨t, ps, cd, tw, kw⟩
    · trivial
    · have e := hk _ rfl
      obtain ⟨g1, g2, g3, g4⟩ := h11
      exact ⟨g1, g2, by rw [e]; exact g3, g4⟩
/-- two views' books are the same just if they are one -/
theorem RGx.qne (h : RGx G M h0 bs vs og kk kv rf qb qk qv fb fv O P W V T C K) {i j : Nat} (hi : i < 3) (hj : j < 3) (hn : qb i ≠ qb j) : i ≠ j := fun e => hn (by rw [e])
theorem RGx.qeq (h : RGx G M h0 bs vs og kk kv rf qb qk qv fb fv O P W V T C K) {i j : Nat} (hi : i < 3) (hj : j < 3) (hn : qb i = qb j) : i = j := by
  by_cases e : i = j
  · exact e
  · exact absurd hn.symm (h.ap hi hj e).1.1
theorem RGx.ext (h : RGx G M h0 bs vs og kk kv rf qb qk qv fb fv O P W V T C K) (hx : xExt M M1) : RGx G M1 h0 bs vs og kk kv rf qb qk qv fb fv O P W V T C K := by
  obtain ⟨h1, h2, h3, h4, h5, h6, h7, h8, h9, h10, h11⟩ := h
  refine ⟨hx _ _ h1, hx _ _ h2, hx _ _ h3, h4, h5, fun j hj => ?_, h7, fun j hj => (h8 j hj).at (fun y fs => hx _ _), h9.at (fun a fs => hx _ _) (fun _ _ fs => hx _ _), h10, h11⟩
  obtain ⟨a1, a3, a4, b, a9⟩ := h6 j hj
  exact ⟨a1, a3, a4, b.ext hx, a9⟩
/-- its own cell was written -/
theorem RGx.obj (h : RGx G M h0 bs vs og kk kv rf qb qk qv fb fv O P W V T C K) (hM : M1 = va_up M h0 (some (.inr (5, [.ref bs, .ref vs, va_rf og2, .int kk2, .int kv2, .int rf2])))) (ho : WkO M qb P og2 K2) (hg : WkG P T C K2) : RGx G M1 h0 bs vs og2 kk2 kv2 rf2 qb qk qv fb fv O P W V T C K2 := by
  obtain ⟨h1, h2, h3, h4, h5, h6, h7, h8, h9, h10, h11⟩ := h
  have sm := xS1.up hM
  refine ⟨by rw [hM, va_up_self], x_k1a sm h1 h2, x_k1a sm h1 h3, h4, h5, fun j hj => ?_, h7, fun j hj => (h8 j hj).at (fun y fs => x_k1 sm h1 (by decide)), ho.at (fun a fs => x_k1 sm h1 (by decide)) (fun _ _ fs => x_k1 sm h1 (by decide)), h10, hg⟩
  obtain ⟨a1, a3, a4, a8, a9⟩ := h6 j hj
  exact ⟨a1, a3, a4, a8.kept1 sm (by decide) h1, a9⟩
/-- the row of views was written -/
theorem RGx.views (h : RGx G M h0 bs vs og kk kv rf qb qk qv fb fv O P W V T C K) (hM : M1 = va_up M vs (some (.inl (G.2 3, 4, .inr (.inr (.inr (.inr fv2))))))) (hv : ∀ j, j < 4 → VwO M qb P (fv2 j) (W2 j)) : RGx G M1 h0 bs vs og kk kv rf qb qk qv fb fv2 O P W2 V T C K := by
  obtain ⟨h1, h2, h3, h4, h5, h6, h7, h8, h9, h10, h11⟩ := h
  have sm := xS1.up hM
  have ko : ∀ {a c fs}, M a = some (.inr (c, fs)) → M1 a = some (.inr (c, fs)) := fun {a c fs} ha => by rw [sm a (fun q => by rw [q, h3] at ha; cases ha)]; exact ha
  refine ⟨ko h1, by rw [sm bs h4]; exact h2, by rw [hM, va_up_self], h4, h5, fun j hj => ?_, h7, fun j hj => (hv j hj).at (fun y fs => ko), h9.at (fun a fs => ko) (fun _ _ fs => ko), h10, h11⟩
  obtain ⟨a1, a3, a4, a8, a9⟩ := h6 j hj
  exact ⟨a1, a3, a4, a8.kept1q sm h3, a9⟩
/-- its walk made a step -/
theorem RGx.step {tt : VT} {ps cd tw kw ps1 cd1 tw1 kw1 : Int} (h : RGx G M h0 bs vs (some w) kk kv rf qb qk qv fb fv O P W V T C (some (tt, ps, cd, tw, kw))) (hW : Wk M w y (iN (ps)) (iN (tw)) (iN (kw)) cd) (hW1 : Wk M1 w y (iN (ps1)) (iN (tw1)) (iN (kw1)) cd1) (sm : xS1 M M1 w) (hg : WkG P T C (some (tt, ps1, cd1, tw1, kw1))) : RGx G M1 h0 bs vs (some w) kk kv rf qb qk qv fb fv O P W V T C (some (tt, ps1, cd1, tw1, kw1)) := by
  obtain ⟨h1, h2, h3, h4, h5, h6, h7, h8, h9, h10, h11⟩ := h
  refine ⟨x_k1 sm hW.1 (by decide) h1, x_k1a sm hW.1 h2, x_k1a sm hW.1 h3, h4, h5, fun j hj => ?_, h7, fun j hj => (h8 j hj).at (fun y fs => x_k1 sm hW.1 (by decide)), ?_, h10, hg⟩
  · obtain ⟨a1, a3, a4, a8, a9⟩ := h6 j hj
    exact ⟨a1, a3, a4, a8.kept1 sm (by decide) hW.1, a9⟩
  · obtain ⟨y0, g1, g2⟩ := h9
    have e0 : y0 = y := by
      have e1 := g1.1
      rw [hW.1] at e1
      exact (Value.ref.inj (List.cons.inj (Prod.mk.inj (Sum.inr.inj (Option.some.inj e1))).2).1).symm
    subst e0
    exact ⟨y0, hW1, g2.at (fun fs => x_k1 sm hW.1 (by decide))⟩
/-- its walk dropped a pair -/
theorem RGx.drop {tt : VT} {ps cd tw kw ps1 cd1 tw1 kw1 : Int} (h : RGx G M h0 bs vs (some w) kk kv rf qb qk qv fb fv O P W V T C (some (tt, ps, cd, tw, kw))) (hi : i < 3) (hB : Bk G M (qb i) (qk i) (qv i) no oo t kc sz fk fw) (hW : Wk M w y (iN (ps)) (iN (tw)) (iN (kw)) cd) (hW1 : Wk M1 w y (iN (ps1)) (iN (tw1)) (iN (kw1)) cd1) (hB1 : Bk G M1 (qb i) (qk i) (qv i) (iN ((i : Nat) : Int)) (iN ((O i : Nat) : Int)) (iN (T i)) (iN (c1)) sz2 fk2 fw2) (hV1 : BV (O i) F sz2.toNat fk2 fw2) (fr : ∀ a, a ≠ w → a ≠ qb i → a ≠ qk i → a ≠ qv i → M1 a = M a) (hg : WkG P T (upV C i c1) (some (tt, ps1, cd1, tw1, kw1))) : RGx G M1 h0 bs vs (some w) kk kv rf qb qk qv fb fv O P W (upB V i F) T (upV C i c1) (some (tt, ps1, cd1, tw1, kw1)) := by
  obtain ⟨h1, h2, h3, h4, h5, h6, h7, h8, h9, h10, h11⟩ := h
  have ko : ∀ {a c fs}, c ≠ 2 → c ≠ 4 → M a = some (.inr (c, fs)) → M1 a = some (.inr (c, fs)) := fun {a c fs} n1 n2 ha => by
    rw [fr a (fun q => by rw [q, hW.1] at ha; cases ha; exact n2 rfl) (fun q => by rw [q, hB.1] at ha; cases ha; exact n1 rfl) (fun q => by rw [q, hB.2.1] at ha; cases ha) (fun q => by rw [q, hB.2.2.1] at ha; cases ha)]; exact ha
  have kq : ∀ {a n cA f}, M a = some (.inl (cA, n, .inr (.inr (.inr (.inr f))))) → M1 a = some (.inl (cA, n, .inr (.inr (.inr (.inr f))))) := fun {a n cA f} ha => by
    rw [fr a (fun q => by rw [q, hW.1] at ha; cases ha) (fun q => by rw [q, hB.1] at ha; cases ha) (fun q => by rw [q, hB.2.1] at ha; cases ha) (fun q => by rw [q, hB.2.2.1] at ha; cases ha)]; exact ha
  refine ⟨ko (by decide) (by decide) h1, kq h2, kq h3, h4, h5, fun j hj => ?_, h7, fun j hj => (h8 j hj).at (fun y fs => ko (by decide) (by decide)), ?_, h10, hg⟩
  · by_cases e : j = i
    · subst e; rw [upB_s, upV_s]; exact ⟨_, _, _, hB1, hV1⟩
    · rw [upB_n _ _ e, upV_n _ _ e]
      obtain ⟨a1, a3, a4, ⟨b1, b2, b3, b4⟩, a9⟩ := h6 j hj
      have ap := h7 i j hi hj (fun q => e q.symm)
      exact ⟨a1, a3, a4, ⟨by rw [fr _ (fun q => by rw [q, hW.1] at b1; cases b1) ap.1.1 ap.1.2.1 ap.1.2.2]; exact b1, by rw [fr _ (fun q => by rw [q, hW.1] at b2; cases b2) ap.2.1.1 ap.2.1.2.1 ap.2.1.2.2]; exact b2, by rw [fr _ (fun q => by rw [q, hW.1] at b3; cases b3) ap.2.2.1 ap.2.2.2.1 ap.2.2.2.2]; exact b3, b4⟩, a9⟩
  · obtain ⟨y0, g1, g2⟩ := h9
    have e0 : y0 = y := by
      have e1 := g1.1
      rw [hW.1] at e1
      exact (Value.ref.inj (List.cons.inj (Prod.mk.inj (Sum.inr.inj (Option.some.inj e1))).2).1).symm
    subst e0
    exact ⟨y0, hW1, g2.at (fun fs => ko (by decide) (by decide))⟩
theorem abK_mut {m : Int} {Vi : Nat → Int} (hg : WkG P T C K) (hk : kcs Vi F (C i) c1 m) : abK (upV T i (T i + 1)) (upV C i c1) K = mutK (abK T C K) i Vi F := by
  rcases K with _ | ⟨t, ps, cd, tw, kw⟩
  · rfl
  · obtain ⟨⟨a1, a2⟩, ⟨b1, b2⟩, c⟩ := hg
    obtain ⟨k1, k2, k3⟩ := hk
    simp only [abK, mutK]
    by_cases e : t.b = i
    · rw [if_pos e, e, upV_s, upV_s]
      rw [e] at a2 b2
      rw [if_neg (by omega)]
      by_cases q : cgN Vi F 100 = 0
      · rw [if_pos q, k3.mpr q]
      · rw [if_neg q]
        have : c1 ≠ C i := fun x => q (k3.mp x)
        rw [if_neg (by omega)]
    · rw [if_neg e, upV_n _ _ e, upV_n _ _ e]
theorem cbN.up {N : Int} (h : cbN N T C) (hN : N + 1 ≤ 600) (hi : i < 3) (ht : t1 ≤ T i + 1) (ht0 : T i ≤ t1) (hc : c1 ≤ C i + 150) (hc0 : C i ≤ c1) : cbN (N + 1) (upV T i t1) (upV C i c1) := by
  refine ⟨hN, fun j hj => ?_⟩
  have g := h.2 j hj
  by_cases e : j = i
  · subst e; rw [upV_s, upV_s]; omega
  · rw [upV_n _ _ e, upV_n _ _ e]; omega
theorem cbN.mono {N N2 : Int} (h : cbN N T C) (h1 : N ≤ N2) (h2 : N2 ≤ 600) : cbN N2 T C := ⟨h2, fun j hj => by have := h.2 j hj; omega⟩
theorem RG.of {N N2 : Int} (h : RGx G M h0 bs vs og kk kv rf qb qk qv fb fv O O W V T C K) (hb : cbN N T C) (h1 : N ≤ N2) (h2 : N2 ≤ 600) : RG G M h0 N2 (O, V, W, abK T C K, kk, kv, rf) := ⟨bs, vs, og, qb, qk, qv, fb, fv, T, C, K, h, rfl, hb.mono h1 h2⟩
/-- a call that may write is through -/
theorem RG.mut {N m : Int} (hg : WkG O T C K) (h : RGx G M h0 bs vs og kk kv rf qb qk qv fb fv O O W (upB V i F) (upV T i (T i + 1)) (upV C i c1) K) (hi : i < 3) (hk : kcs (V i) F (C i) c1 m) (hm : m ≤ 150) (hb : cbN N T C) (hN : N ≤ 599) (e : F = F2) : RG G M h0 (N + 1) (mutS (O, V, W, abK T C K, kk, kv, rf) i F2) := by
  subst e
  refine ⟨bs, vs, og, qb, qk, qv, fb, fv, _, _, K, h, (abK_mut hg hk).symm, hb.up (by omega) hi (by omega) (by omega) (by have := hk.2.1; omega) hk.1⟩
theorem RG.mut0 {N : Int} (hg : WkG O T C K) (h : RGx G M h0 bs vs og kk kv rf qb qk qv fb fv O O W V (upV T i (T i + 1)) C K) (hi : i < 3) (hb : cbN N T C) (hN : N ≤ 599) (e : V i = F2) : RG G M h0 (N + 1) (mutS (O, V, W, abK T C K, kk, kv, rf) i F2) := by
  subst e
  have h2 : RGx G M h0 bs vs og kk kv rf qb qk qv fb fv O O W (upB V i (V i)) (upV T i (T i + 1)) (upV C i (C i)) K := by
    rw [upB_self rfl, upV_same C]; exact h
  exact RG.mut hg h2 hi kcs.rf (by omega) hb hN rfl
end RGS
