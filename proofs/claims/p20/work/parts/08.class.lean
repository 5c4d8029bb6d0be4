/-! what an object of the class is -/
def BkE (G : xG) (M : HM) (b k v o : Nat) : Prop := ∃ (no t kc : Int32) (sz : Int) (fk fv : Nat → Int32), Bk G M b k v no (iN ((o : Nat) : Int)) t kc sz fk fv
def VwE (M : HM) (y : Nat) (qb : Nat → Nat) : Prop := ∃ (i : Nat) (lo up sw ew : Int32) (li ui : Int), i < 3 ∧ Vw M y (qb i) lo up sw ew li ui
/-- a view's cell, its weights by the orders P -/
def VwT (M : HM) (y : Nat) (qb P : Nat → Nat) (t : VT) : Prop := t.ok ∧ Vw M y (qb t.b) (iN t.lo) (iN t.up) (iN (swN (P t.b) t.lo t.li)) (iN (ewN (P t.b) t.lo t.li t.up t.ui)) t.li t.ui
def VwO (M : HM) (qb P : Nat → Nat) : Option Nat → Option VT → Prop
  | none, none => True
  | some y, some t => VwT M y qb P t
  | _, _ => False
def WkE (M : HM) (w : Nat) (qb : Nat → Nat) : Prop := ∃ (y : Nat) (ps t kc : Int32) (cd : Int), Wk M w y ps t kc cd ∧ VwE M y qb
/-- an object of the class: its cell, its books' row, its views' row, three books that lie apart, the open views, the walk -/
def RGx (G : xG) (M : HM) (h0 bs vs : Nat) (og : Option Nat) (kk kv rf : Int32) (qb qk qv : Nat → Nat) (fb fv : Nat → Option Nat) (O P : Nat → Nat) (W : VW) : Prop :=
  M h0 = some (.inr (5, [.ref bs, .ref vs, va_rf og, .int kk, .int kv, .int rf])) ∧ M bs = some (.inl (G.2 2, 3, .inr (.inr (.inr (.inr fb))))) ∧ M vs = some (.inl (G.2 3, 4, .inr (.inr (.inr (.inr fv))))) ∧ bs ≠ vs ∧
  (∀ j, j < 3 → fb j = some (qb j)) ∧ (∀ j, j < 3 → BkE G M (qb j) (qk j) (qv j) (O j)) ∧ (∀ i j, i < 3 → j < 3 → i ≠ j → xAp (qb i) (qk i) (qv i) (qb j) (qk j) (qv j)) ∧
  (∀ j, j < 4 → VwO M qb P (fv j) (W j)) ∧ (∀ w, og = some w → WkE M w qb) ∧ (∀ j, j < 3 → O j < 3)
def RG (G : xG) (M : HM) (h0 : Nat) (rf : Int32) (O : Nat → Nat) (W : VW) : Prop := ∃ (bs vs : Nat) (og : Option Nat) (kk kv : Int32) (qb qk qv : Nat → Nat) (fb fv : Nat → Option Nat), RGx G M h0 bs vs og kk kv rf qb qk qv fb fv O O W
def xExt (M M1 : HM) : Prop := ∀ a e, M a = some e → M1 a = some e
theorem xExt.new {M : HM} {q : Nat} {x : Option va_E} (h : M q = none) : xExt M (va_up M q x) := fun a e he => by rw [va_up_ne _ _ (fun z => by rw [z, h] at he; cases he)]; exact he
theorem xExt.tr {M M1 M2 : HM} (h1 : xExt M M1) (h2 : xExt M1 M2) : xExt M M2 := fun a e he => h2 a e (h1 a e he)
theorem Bk.ext {G : xG} {M M1 : HM} {b k v : Nat} {no o t kc : Int32} {sz : Int} {fk fv : Nat → Int32} (h : Bk G M b k v no o t kc sz fk fv) (hx : xExt M M1) : Bk G M1 b k v no o t kc sz fk fv := by
  obtain ⟨h1, h2, h3, h4⟩ := h
  exact ⟨hx _ _ h1, hx _ _ h2, hx _ _ h3, h4⟩
section RGS
variable {G : xG} {M M1 : HM} {h0 bs vs i y w : Nat} {og og2 : Option Nat} {kk kv rf kk2 kv2 rf2 : Int32} {qb qk qv : Nat → Nat} {fb fv fv2 : Nat → Option Nat} {O P P2 : Nat → Nat} {W W2 : VW} {o o2 : Nat} {no t kc no2 t2 kc2 : Int32} {sz sz2 : Int} {fk fw fk2 fw2 : Nat → Int32}
theorem RGx.fb' (h : RGx G M h0 bs vs og kk kv rf qb qk qv fb fv O P W) {j : Nat} (hj : j < 3) : fb j = some (qb j) := h.2.2.2.2.1 j hj
theorem RGx.bk (h : RGx G M h0 bs vs og kk kv rf qb qk qv fb fv O P W) (hj : i < 3) : BkE G M (qb i) (qk i) (qv i) (O i) := h.2.2.2.2.2.1 i hj
theorem RGx.ap (h : RGx G M h0 bs vs og kk kv rf qb qk qv fb fv O P W) {i j : Nat} (hi : i < 3) (hj : j < 3) (hn : i ≠ j) : xAp (qb i) (qk i) (qv i) (qb j) (qk j) (qv j) := h.2.2.2.2.2.2.1 i j hi hj hn
theorem RGx.vwo (h : RGx G M h0 bs vs og kk kv rf qb qk qv fb fv O P W) {j : Nat} (hj : j < 4) : VwO M qb P (fv j) (W j) := h.2.2.2.2.2.2.2.1 j hj
theorem RGx.ol (h : RGx G M h0 bs vs og kk kv rf qb qk qv fb fv O P W) {j : Nat} (hj : j < 3) : O j < 3 := h.2.2.2.2.2.2.2.2.2 j hj
theorem VwO.yes {a : Option Nat} {x : Option VT} (h : VwO M qb P a x) (ha : a = some y) : ∃ t, x = some t ∧ VwT M y qb P t := by
  subst ha
  rcases x with _ | t
  · exact h.elim
  · exact ⟨t, rfl, h⟩
theorem VwO.nil {a : Option Nat} {x : Option VT} (h : VwO M qb P a x) (ha : a = none) : x = none := by
  subst ha
  rcases x with _ | t
  · rfl
  · exact h.elim
theorem VwT.at {t : VT} (h : ∀ fs, M y = some (.inr (3, fs)) → M1 y = some (.inr (3, fs))) (hy : VwT M y qb P t) : VwT M1 y qb P t := ⟨hy.1, h _ hy.2.1, hy.2.2⟩
theorem VwO.at {a : Option Nat} {x : Option VT} (h : ∀ y fs, M y = some (.inr (3, fs)) → M1 y = some (.inr (3, fs))) (hy : VwO M qb P a x) : VwO M1 qb P a x := by
  rcases a with _ | y <;> rcases x with _ | t
  · trivial
  · exact hy.elim
  · exact hy.elim
  · exact VwT.at (fun fs => h y fs) hy
theorem VwT.e {t : VT} (h : VwT M y qb P t) : VwE M y qb := ⟨t.b, _, _, _, _, _, _, h.1.1, h.2⟩
theorem RGx.wk (h : RGx G M h0 bs vs og kk kv rf qb qk qv fb fv O P W) (hw : og = some w) : WkE M w qb := h.2.2.2.2.2.2.2.2.1 w hw
theorem VwE.at (h : ∀ fs, M y = some (.inr (3, fs)) → M1 y = some (.inr (3, fs))) (hy : VwE M y qb) : VwE M1 y qb := by
  obtain ⟨i, lo, up, sw, ew, li, ui, hi, h1, h2⟩ := hy
  exact ⟨i, lo, up, sw, ew, li, ui, hi, h _ h1, h2⟩
theorem WkE.at (h : ∀ a fs, M a = some (.inr (3, fs)) → M1 a = some (.inr (3, fs))) (h4 : ∀ fs, M w = some (.inr (4, fs)) → M1 w = some (.inr (4, fs))) (hy : WkE M w qb) : WkE M1 w qb := by
  obtain ⟨y, ps, t, kc, cd, ⟨h1, h2⟩, h3⟩ := hy
  exact ⟨y, ps, t, kc, cd, ⟨h4 _ h1, h2⟩, h3.at (fun fs => h _ fs)⟩
/-- one of its books was written -/
theorem RGx.book (h : RGx G M h0 bs vs og kk kv rf qb qk qv fb fv O P W) (hi : i < 3) (hB : Bk G M (qb i) (qk i) (qv i) no (iN ((o : Nat) : Int)) t kc sz fk fw) (hB1 : Bk G M1 (qb i) (qk i) (qv i) no2 (iN ((O i : Nat) : Int)) t2 kc2 sz2 fk2 fw2) (sm : xSm M M1 (qb i) (qk i) (qv i)) : RGx G M1 h0 bs vs og kk kv rf qb qk qv fb fv O P W := by
  obtain ⟨h1, h2, h3, h4, h5, h6, h7, h8, h9, h10⟩ := h
  refine ⟨x_kB hB sm (by decide) h1, x_kBq hB sm h2, x_kBq hB sm h3, h4, h5, fun j hj => ?_, h7, fun j hj => (h8 j hj).at (fun y fs => x_kB hB sm (by decide)), fun w hw => (h9 w hw).at (fun a fs => x_kB hB sm (by decide)) (fun fs => x_kB hB sm (by decide)), h10⟩
  by_cases e : j = i
  · subst e; exact ⟨_, _, _, _, _, _, hB1⟩
  · obtain ⟨a1, a3, a4, a5, a6, a7, a8⟩ := h6 j hj
    exact ⟨a1, a3, a4, a5, a6, a7, a8.kept sm (h7 i j hi hj (fun q => e q.symm))⟩
/-- one of its books was written, and goes by another order -/
theorem RGx.bookO (h : RGx G M h0 bs vs og kk kv rf qb qk qv fb fv O P W) (hi : i < 3) (hB : Bk G M (qb i) (qk i) (qv i) no (iN ((o : Nat) : Int)) t kc sz fk fw) {o3 : Nat} (hB1 : Bk G M1 (qb i) (qk i) (qv i) no2 (iN ((o3 : Nat) : Int)) t2 kc2 sz2 fk2 fw2) (ho3 : o3 < 3) (sm : xSm M M1 (qb i) (qk i) (qv i)) : RGx G M1 h0 bs vs og kk kv rf qb qk qv fb fv (upO O i o3) P W := by
  obtain ⟨h1, h2, h3, h4, h5, h6, h7, h8, h9, h10⟩ := h
  refine ⟨x_kB hB sm (by decide) h1, x_kBq hB sm h2, x_kBq hB sm h3, h4, h5, fun j hj => ?_, h7, fun j hj => (h8 j hj).at (fun y fs => x_kB hB sm (by decide)), fun w hw => (h9 w hw).at (fun a fs => x_kB hB sm (by decide)) (fun fs => x_kB hB sm (by decide)), fun j hj => ?_⟩
  · by_cases e : j = i
    · subst e; rw [upO_s]; exact ⟨_, _, _, _, _, _, hB1⟩
    · rw [upO_n _ _ e]
      obtain ⟨a1, a3, a4, a5, a6, a7, a8⟩ := h6 j hj
      exact ⟨a1, a3, a4, a5, a6, a7, a8.kept sm (h7 i j hi hj (fun q => e q.symm))⟩
  · by_cases e : j = i
    · subst e; rw [upO_s]; exact ho3
    · rw [upO_n _ _ e]; exact h10 j hj
/-- the views' weights, reckoned by other orders that are the same for their books -/
theorem RGx.reP (h : RGx G M h0 bs vs og kk kv rf qb qk qv fb fv O P W) (hp : ∀ j, j < 4 → ∀ t, W j = some t → P2 t.b = P t.b) : RGx G M h0 bs vs og kk kv rf qb qk qv fb fv O P2 W := by
  obtain ⟨h1, h2, h3, h4, h5, h6, h7, h8, h9, h10⟩ := h
  refine ⟨h1, h2, h3, h4, h5, h6, h7, fun j hj => ?_, h9, h10⟩
  have g := h8 j hj
  cases ea : fv j with
  | none => rw [ea] at g; rw [g.nil rfl]; trivial
  | some y =>
    rw [ea] at g
    obtain ⟨t, ht, hT⟩ := g.yes rfl
    rw [ht]
    have e := hp j hj t ht
    exact ⟨hT.1, by rw [e]; exact hT.2⟩
/-- two views' books are the same just if they are one -/
theorem RGx.qne (h : RGx G M h0 bs vs og kk kv rf qb qk qv fb fv O P W) {i j : Nat} (hi : i < 3) (hj : j < 3) (hn : qb i ≠ qb j) : i ≠ j := fun e => hn (by rw [e])
theorem RGx.qeq (h : RGx G M h0 bs vs og kk kv rf qb qk qv fb fv O P W) {i j : Nat} (hi : i < 3) (hj : j < 3) (hn : qb i = qb j) : i = j := by
  by_cases e : i = j
  · exact e
  · exact absurd hn.symm (h.ap hi hj e).1.1
theorem RGx.ext (h : RGx G M h0 bs vs og kk kv rf qb qk qv fb fv O P W) (hx : xExt M M1) : RGx G M1 h0 bs vs og kk kv rf qb qk qv fb fv O P W := by
  obtain ⟨h1, h2, h3, h4, h5, h6, h7, h8, h9, h10⟩ := h
  refine ⟨hx _ _ h1, hx _ _ h2, hx _ _ h3, h4, h5, fun j hj => ?_, h7, fun j hj => (h8 j hj).at (fun y fs => hx _ _), fun w hw => (h9 w hw).at (fun a fs => hx _ _) (fun fs => hx _ _), h10⟩
  obtain ⟨a1, a3, a4, a5, a6, a7, b1, b2, b3, b4⟩ := h6 j hj
  exact ⟨a1, a3, a4, a5, a6, a7, hx _ _ b1, hx _ _ b2, hx _ _ b3, b4⟩
/-- its own cell was written -/
theorem RGx.obj (h : RGx G M h0 bs vs og kk kv rf qb qk qv fb fv O P W) (hM : M1 = va_up M h0 (some (.inr (5, [.ref bs, .ref vs, va_rf og2, .int kk2, .int kv2, .int rf2])))) (ho : ∀ w, og2 = some w → WkE M w qb) : RGx G M1 h0 bs vs og2 kk2 kv2 rf2 qb qk qv fb fv O P W := by
  obtain ⟨h1, h2, h3, h4, h5, h6, h7, h8, h9, h10⟩ := h
  have sm := xS1.up hM
  refine ⟨by rw [hM, va_up_self], x_k1a sm h1 h2, x_k1a sm h1 h3, h4, h5, fun j hj => ?_, h7, fun j hj => (h8 j hj).at (fun y fs => x_k1 sm h1 (by decide)), fun w hw => (ho w hw).at (fun a fs => x_k1 sm h1 (by decide)) (fun fs => x_k1 sm h1 (by decide)), h10⟩
  obtain ⟨a1, a3, a4, a5, a6, a7, a8⟩ := h6 j hj
  exact ⟨a1, a3, a4, a5, a6, a7, a8.kept1 sm (by decide) h1⟩
/-- the row of views was written -/
theorem RGx.views (h : RGx G M h0 bs vs og kk kv rf qb qk qv fb fv O P W) (hM : M1 = va_up M vs (some (.inl (G.2 3, 4, .inr (.inr (.inr (.inr fv2))))))) (hv : ∀ j, j < 4 → VwO M qb P2 (fv2 j) (W2 j)) : RGx G M1 h0 bs vs og kk kv rf qb qk qv fb fv2 O P2 W2 := by
  obtain ⟨h1, h2, h3, h4, h5, h6, h7, h8, h9, h10⟩ := h
  have sm := xS1.up hM
  have ko : ∀ {a c fs}, M a = some (.inr (c, fs)) → M1 a = some (.inr (c, fs)) := fun {a c fs} ha => by rw [sm a (fun q => by rw [q, h3] at ha; cases ha)]; exact ha
  refine ⟨ko h1, by rw [sm bs h4]; exact h2, by rw [hM, va_up_self], h4, h5, fun j hj => ?_, h7, fun j hj => (hv j hj).at (fun y fs => ko), fun w hw => (h9 w hw).at (fun a fs => ko) (fun fs => ko), h10⟩
  obtain ⟨a1, a3, a4, a5, a6, a7, a8⟩ := h6 j hj
  exact ⟨a1, a3, a4, a5, a6, a7, a8.kept1q sm h3⟩
/-- its walk went on -/
theorem RGx.walk (h : RGx G M h0 bs vs (some w) kk kv rf qb qk qv fb fv O P W) (hi : i < 3) (hB : Bk G M (qb i) (qk i) (qv i) no (iN ((o : Nat) : Int)) t kc sz fk fw) {ps tt kk9 : Int32} {cd : Int} (hW : Wk M w y ps tt kk9 cd) {ps2 tt2 kk92 : Int32} {cd2 : Int} (hW1 : Wk M1 w y ps2 tt2 kk92 cd2) (hB1 : Bk G M1 (qb i) (qk i) (qv i) no2 (iN ((O i : Nat) : Int)) t2 kc2 sz2 fk2 fw2) (fr : ∀ a, a ≠ w → a ≠ qb i → a ≠ qk i → a ≠ qv i → M1 a = M a) : RGx G M1 h0 bs vs (some w) kk kv rf qb qk qv fb fv O P W := by
  obtain ⟨h1, h2, h3, h4, h5, h6, h7, h8, h9, h10⟩ := h
  have ko : ∀ {a c fs}, c ≠ 2 → c ≠ 4 → M a = some (.inr (c, fs)) → M1 a = some (.inr (c, fs)) := fun {a c fs} n1 n2 ha => by
    rw [fr a (fun q => by rw [q, hW.1] at ha; cases ha; exact n2 rfl) (fun q => by rw [q, hB.1] at ha; cases ha; exact n1 rfl) (fun q => by rw [q, hB.2.1] at ha; cases ha) (fun q => by rw [q, hB.2.2.1] at ha; cases ha)]; exact ha
  have kq : ∀ {a n cA f}, M a = some (.inl (cA, n, .inr (.inr (.inr (.inr f))))) → M1 a = some (.inl (cA, n, .inr (.inr (.inr (.inr f))))) := fun {a n cA f} ha => by
    rw [fr a (fun q => by rw [q, hW.1] at ha; cases ha) (fun q => by rw [q, hB.1] at ha; cases ha) (fun q => by rw [q, hB.2.1] at ha; cases ha) (fun q => by rw [q, hB.2.2.1] at ha; cases ha)]; exact ha
  refine ⟨ko (by decide) (by decide) h1, kq h2, kq h3, h4, h5, fun j hj => ?_, h7, fun j hj => (h8 j hj).at (fun y fs => ko (by decide) (by decide)), fun w2 hw2 => ?_, h10⟩
  · by_cases e : j = i
    · subst e; exact ⟨_, _, _, _, _, _, hB1⟩
    · obtain ⟨a1, a3, a4, a5, a6, a7, b1, b2, b3, b4⟩ := h6 j hj
      have ap := h7 i j hi hj (fun q => e q.symm)
      exact ⟨a1, a3, a4, a5, a6, a7, by rw [fr _ (fun q => by rw [q, hW.1] at b1; cases b1) ap.1.1 ap.1.2.1 ap.1.2.2]; exact b1, by rw [fr _ (fun q => by rw [q, hW.1] at b2; cases b2) ap.2.1.1 ap.2.1.2.1 ap.2.1.2.2]; exact b2, by rw [fr _ (fun q => by rw [q, hW.1] at b3; cases b3) ap.2.2.1 ap.2.2.2.1 ap.2.2.2.2]; exact b3, b4⟩
  · cases hw2
    obtain ⟨y0, p0, t0, k0, c0, hw0, hv0⟩ := h9 w rfl
    have e0 : y0 = y := by
      have e1 := hw0.1
      rw [hW.1] at e1
      exact (Value.ref.inj (List.cons.inj (Prod.mk.inj (Sum.inr.inj (Option.some.inj e1))).2).1).symm
    subst e0
    exact ⟨y0, _, _, _, _, hW1, hv0.at (fun fs => ko (by decide) (by decide))⟩
end RGS
