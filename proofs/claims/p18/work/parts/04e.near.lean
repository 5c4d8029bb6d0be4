/-! the pure part: next to a key, in a book and in a view; the reference's searches -/
section FNEAR
/-- which places come into question -/
def cndB (o : Nat) (w what : Int) (k : Nat) : Prop := (what = 0 ∧ (cwN o k : Int) < w) ∨ (what = 1 ∧ (cwN o k : Int) ≤ w) ∨ (what = 2 ∧ w ≤ (cwN o k : Int)) ∨ (what = 3 ∧ w < (cwN o k : Int))
def clB (o n : Nat) (fk : Nat → Int32) (w what st en z : Int) : Prop :=
  (z = -10000 ∧ ∀ q : Nat, q < n → (st ≤ (q : Int) ∧ (q : Int) < en) → ¬ cndB o w what (kN fk q)) ∨
  (∃ q : Nat, q < n ∧ (st ≤ (q : Int) ∧ (q : Int) < en) ∧ z = (fk q).toInt ∧ cndB o w what (kN fk q) ∧ ∀ r : Nat, r < n → (st ≤ (r : Int) ∧ (r : Int) < en) → cndB o w what (kN fk r) → (what ≤ 1 → r ≤ q) ∧ (2 ≤ what → q ≤ r))
section
variable {o : Nat} {V : Nat → Int} {fk fv : Nat → Int32} {what st en sz p0 pl pb z m : Int}
theorem clB_is (ho : o < 3) (hV : BV o V sz.toNat fk fv) (hk : 0 ≤ p0 ∧ p0 ≤ 99) (h0 : 0 ≤ pl) (hpl : plW o sz.toNat fk (cwN o p0.toNat) pl.toNat) (h1 : pl < sz) (h2 : (fk pl.toNat).toInt = p0) (h3 : st ≤ pl ∧ pl < en) (hw : what = 1 ∨ what = 2) : clB o sz.toNat fk (cwN o p0.toNat) what st en p0 := by
  have ek : kN fk pl.toNat = p0.toNat := kNz h2
  refine Or.inr ⟨pl.toNat, by omega, by omega, h2.symm, ?_, fun r hr hr2 hc => ?_⟩
  · rw [ek]; simp only [cndB]; omega
  · have g := hpl.2 r hr
    constructor
    · intro q
      rcases hc with ⟨a, -⟩ | ⟨-, b⟩ | ⟨a, -⟩ | ⟨a, -⟩
      · omega
      · by_cases e : (cwN o (kN fk r) : Int) < cwN o p0.toNat
        · have := g.mp e; omega
        · have e2 : kN fk r = kN fk pl.toNat := by rw [ek]; exact cw_inj ho (hV.k hr).2.1 (by omega) (by omega)
          have := hV.inj hr (show pl.toNat < sz.toNat by omega) e2
          omega
      · omega
      · omega
    · intro q
      rcases hc with ⟨a, -⟩ | ⟨a, -⟩ | ⟨-, b⟩ | ⟨a, b⟩
      · omega
      · omega
      · by_cases e : r < pl.toNat
        · have := g.mpr e; omega
        · omega
      · omega
theorem clB_eq (ho : o < 3) (hV : BV o V sz.toNat fk fv) (hk : 0 ≤ p0 ∧ p0 ≤ 99) (h0 : 0 ≤ pl) (hpl : plW o sz.toNat fk (cwN o p0.toNat) pl.toNat) {r : Nat} (hr : r < sz.toNat) (e : (cwN o (kN fk r) : Int) = cwN o p0.toNat) : (r : Int) = pl ∧ pl < sz ∧ (fk pl.toNat).toInt = p0 := by
  have e2 : kN fk r = p0.toNat := cw_inj ho (hV.k hr).2.1 (by omega) (by omega)
  have g := hpl.2 r hr
  have h3 : r = pl.toNat := by
    by_cases x : r < pl.toNat
    · have := g.mpr x; omega
    · by_cases y : r = pl.toNat
      · exact y
      · have g2 := hpl.2 pl.toNat (by omega)
        have := hV.so (p := pl.toNat) (q := r) (by omega) hr
        omega
  have k1 := (hV.k hr).2.2
  rw [e2] at k1
  rw [h3] at k1
  exact ⟨by omega, by omega, by omega⟩
theorem clB_lo (ho : o < 3) (hV : BV o V sz.toNat fk fv) (hk : 0 ≤ p0 ∧ p0 ≤ 99) (h0 : 0 ≤ pl) (hpl : plW o sz.toNat fk (cwN o p0.toNat) pl.toNat) (hs : 0 ≤ st) (he : en ≤ sz) (hw : what = 0 ∨ (what = 1 ∧ ¬ (pl < sz ∧ (fk pl.toNat).toInt = p0 ∧ st ≤ pl ∧ pl < en))) (hm : (pl ≤ en ∧ m = pl) ∨ (en < pl ∧ m = en)) (hz : (m - 1 < st ∧ z = -10000) ∨ (st ≤ m - 1 ∧ z = (fk (m - 1).toNat).toInt)) : clB o sz.toNat fk (cwN o p0.toNat) what st en z := by
  have hp1 := hpl.1
  have key : ∀ r : Nat, r < sz.toNat → (st ≤ (r : Int) ∧ (r : Int) < en) → (cndB o (cwN o p0.toNat) what (kN fk r) ↔ (r : Int) < pl) := fun r hr hr2 => by
    have g := hpl.2 r hr
    constructor
    · rintro (⟨a, b⟩ | ⟨a, b⟩ | ⟨a, b⟩ | ⟨a, b⟩)
      · have := g.mp b; omega
      · by_cases e : (cwN o (kN fk r) : Int) < cwN o p0.toNat
        · have := g.mp e; omega
        · have e2 := clB_eq ho hV hk h0 hpl hr (by omega)
          omega
      · omega
      · omega
    · intro h
      have := g.mpr (by omega)
      simp only [cndB]; omega
  rcases hz with ⟨h1, rfl⟩ | ⟨h1, rfl⟩
  · exact Or.inl ⟨rfl, fun q hq h2 c => by have := (key q hq h2).mp c; omega⟩
  · refine Or.inr ⟨(m - 1).toNat, by omega, by omega, rfl, (key _ (by omega) (by omega)).mpr (by omega), fun r hr h2 c => ?_⟩
    have := (key r hr h2).mp c
    omega
theorem clB_hi (ho : o < 3) (hV : BV o V sz.toNat fk fv) (hk : 0 ≤ p0 ∧ p0 ≤ 99) (h0 : 0 ≤ pl) (hpl : plW o sz.toNat fk (cwN o p0.toNat) pl.toNat) (h0b : 0 ≤ pb) (hpb : plW o sz.toNat fk ((cwN o p0.toNat : Int) + 1) pb.toNat) (hs : 0 ≤ st) (he : en ≤ sz) (hw : what = 3 ∨ (what = 2 ∧ ¬ (pl < sz ∧ (fk pl.toNat).toInt = p0 ∧ st ≤ pl ∧ pl < en))) (hm : (st ≤ pb ∧ m = pb) ∨ (pb < st ∧ m = st)) (hz : (en ≤ m ∧ z = -10000) ∨ (m < en ∧ z = (fk m.toNat).toInt)) : clB o sz.toNat fk (cwN o p0.toNat) what st en z := by
  have hp1 := hpb.1
  have key : ∀ r : Nat, r < sz.toNat → (st ≤ (r : Int) ∧ (r : Int) < en) → (cndB o (cwN o p0.toNat) what (kN fk r) ↔ pb ≤ (r : Int)) := fun r hr hr2 => by
    have g := hpb.2 r hr
    constructor
    · rintro (⟨a, b⟩ | ⟨a, b⟩ | ⟨a, b⟩ | ⟨a, b⟩)
      · omega
      · omega
      · by_cases e : (cwN o (kN fk r) : Int) = cwN o p0.toNat
        · have e2 := clB_eq ho hV hk h0 hpl hr e
          omega
        · have : ¬ r < pb.toNat := fun x => by have := g.mpr x; omega
          omega
      · have : ¬ r < pb.toNat := fun x => by have := g.mpr x; omega
        omega
    · intro h
      have : ¬ (cwN o (kN fk r) : Int) < (cwN o p0.toNat : Int) + 1 := fun x => by have := g.mp x; omega
      simp only [cndB]; omega
  rcases hz with ⟨h1, rfl⟩ | ⟨h1, rfl⟩
  · exact Or.inl ⟨rfl, fun q hq h2 c => by have := (key q hq h2).mp c; omega⟩
  · refine Or.inr ⟨m.toNat, by omega, by omega, rfl, (key _ (by omega) (by omega)).mpr (by omega), fun r hr h2 c => ?_⟩
    have := (key r hr h2).mp c
    omega
end
/-- the reference's search: the shown key closest to a weight -/
abbrev OW := Nat → Nat
abbrev BW := Nat → Nat → Int
def inM' (o : Nat) (t : VT) (k : Nat) : Bool := decide ((t.lo = -10000 ∨ (mwN o t.lo.toNat : Int) + 1 - t.li ≤ mwN o k) ∧ (t.up = -10000 ∨ (mwN o k : Int) ≤ mwN o t.up.toNat - 1 + t.ui))
theorem inM'_iff {o : Nat} {t : VT} {k : Nat} : inM' o t k = true ↔ inM o t k := by simp only [inM', inM, decide_eq_true_eq]
/-- whether a view shows a key -/
def shM (O : OW) (V : BW) (t : VT) (k : Nat) : Bool := decide (V t.b k ≠ -10000) && inM' (O t.b) t k
theorem shM_iff {O : OW} {V : BW} {t : VT} {k : Nat} : shM O V t k = true ↔ V t.b k ≠ -10000 ∧ inM (O t.b) t k := by
  simp only [shM, Bool.and_eq_true, decide_eq_true_eq, inM'_iff]
/-- the view onto the whole of a book -/
def whT (b : Nat) : VT := (b, -10000, -10000, 0, 0)
theorem shM_wh {O : OW} {V : BW} {b k : Nat} : shM O V (whT b) k = true ↔ V b k ≠ -10000 := by
  rw [shM_iff]
  exact ⟨fun h => h.1, fun h => ⟨h, Or.inl rfl, Or.inl rfl⟩⟩
def okC (w x : Int) (bh : Int) : Bool := decide ((bh ≠ 0 ∧ w < x) ∨ (bh = 0 ∧ x < w))
theorem okC_iff {w x bh : Int} : okC w x bh = true ↔ ((bh ≠ 0 ∧ w < x) ∨ (bh = 0 ∧ x < w)) := by simp only [okC, decide_eq_true_eq]
theorem okC_f {w x bh : Int} : okC w x bh = false ↔ ¬ ((bh ≠ 0 ∧ w < x) ∨ (bh = 0 ∧ x < w)) := by simp only [okC, decide_eq_false_iff_not]
/-- the search, key by key -/
def clF (O : OW) (V : BW) (t : VT) (w bh : Int) : Nat → Int
  | 0 => -10000
  | n + 1 => if shM O V t n = true ∧ okC w (mwN (O t.b) n) bh = true ∧ (clF O V t w bh n = -10000 ∨ (bh ≠ 0 ∧ mwN (O t.b) n < mwN (O t.b) (clF O V t w bh n).toNat) ∨ (bh = 0 ∧ ¬ mwN (O t.b) n < mwN (O t.b) (clF O V t w bh n).toNat)) then n else clF O V t w bh n
/-- what it finds -/
def clQ (O : OW) (V : BW) (t : VT) (w bh : Int) (n : Nat) (z : Int) : Prop :=
  (z = -10000 ∧ ∀ k, k < n → shM O V t k = true → okC w (mwN (O t.b) k) bh = false) ∨ (0 ≤ z ∧ z < n ∧ shM O V t z.toNat = true ∧ okC w (mwN (O t.b) z.toNat) bh = true ∧ ∀ k, k < n → shM O V t k = true → okC w (mwN (O t.b) k) bh = true → (bh ≠ 0 → mwN (O t.b) z.toNat ≤ mwN (O t.b) k) ∧ (bh = 0 → mwN (O t.b) k ≤ mwN (O t.b) z.toNat))
theorem clF_Q (O : OW) (V : BW) (t : VT) (w bh : Int) : ∀ n, clQ O V t w bh n (clF O V t w bh n)
  | 0 => Or.inl ⟨rfl, fun k hk => absurd hk (Nat.not_lt_zero k)⟩
  | n + 1 => by
    have ih := clF_Q O V t w bh n
    simp only [clF]
    by_cases c : shM O V t n = true ∧ okC w (mwN (O t.b) n) bh = true ∧ (clF O V t w bh n = -10000 ∨ (bh ≠ 0 ∧ mwN (O t.b) n < mwN (O t.b) (clF O V t w bh n).toNat) ∨ (bh = 0 ∧ ¬ mwN (O t.b) n < mwN (O t.b) (clF O V t w bh n).toNat))
    · rw [if_pos c]
      obtain ⟨c1, c2, c3⟩ := c
      refine Or.inr ⟨by omega, by omega, by rw [Int.toNat_natCast]; exact c1, by rw [Int.toNat_natCast]; exact c2, fun k hk h1 h2 => ?_⟩
      rw [Int.toNat_natCast]
      by_cases e : k = n
      · subst e; exact ⟨fun _ => Nat.le_refl _, fun _ => Nat.le_refl _⟩
      · rcases ih with ⟨a1, a2⟩ | ⟨a1, a2, a3, a4, a5⟩
        · have := a2 k (by omega) h1
          rw [h2] at this; cases this
        · have h5 := a5 k (by omega) h1 h2
          constructor
          · intro hb
            have := h5.1 hb
            omega
          · intro hb
            have := h5.2 hb
            omega
    · rw [if_neg c]
      rcases ih with ⟨a1, a2⟩ | ⟨a1, a2, a3, a4, a5⟩
      · refine Or.inl ⟨a1, fun k hk h1 => ?_⟩
        by_cases e : k = n
        · subst e
          cases e2 : okC w (mwN (O t.b) k) bh with
          | false => rfl
          | true => exact absurd ⟨h1, e2, Or.inl a1⟩ c
        · exact a2 k (by omega) h1
      · refine Or.inr ⟨a1, by omega, a3, a4, fun k hk h1 h2 => ?_⟩
        by_cases e : k = n
        · subst e
          constructor
          · intro hb
            by_cases q : mwN (O t.b) k < mwN (O t.b) (clF O V t w bh k).toNat
            · exact absurd ⟨h1, h2, Or.inr (Or.inl ⟨hb, q⟩)⟩ c
            · omega
          · intro hb
            by_cases q : mwN (O t.b) k < mwN (O t.b) (clF O V t w bh k).toNat
            · omega
            · exact absurd ⟨h1, h2, Or.inr (Or.inr ⟨hb, q⟩)⟩ c
        · exact a5 k (by omega) h1 h2
theorem clQ_uniq {O : OW} {V : BW} {t : VT} {w bh z y : Int} (ho : O t.b < 3) (h : clQ O V t w bh 100 z) (g : clQ O V t w bh 100 y) : z = y := by
  rcases h with ⟨a1, a2⟩ | ⟨a1, a2, a3, a4, a5⟩ <;> rcases g with ⟨b1, b2⟩ | ⟨b1, b2, b3, b4, b5⟩
  · rw [a1, b1]
  · have := a2 y.toNat (by omega) b3
    rw [b4] at this; cases this
  · have := b2 z.toNat (by omega) a3
    rw [a4] at this; cases this
  · have h1 := a5 y.toNat (by omega) b3 b4
    have h2 := b5 z.toNat (by omega) a3 a4
    have h3 : mwN (O t.b) z.toNat = mwN (O t.b) y.toNat := by
      by_cases hb : bh = 0
      · have := h1.2 hb; have := h2.2 hb; omega
      · have := h1.1 hb; have := h2.1 hb; omega
    have := mw_inj ho (a := z.toNat) (b := y.toNat) (by omega) (by omega) h3
    omega
theorem clF_eq {O : OW} {V : BW} {t : VT} {w bh z : Int} (ho : O t.b < 3) (h : clQ O V t w bh 100 z) : z = clF O V t w bh 100 := clQ_uniq ho h (clF_Q O V t w bh 100)
theorem clF_rng {O : OW} {V : BW} {t : VT} {w bh : Int} : clF O V t w bh 100 = -10000 ∨ (0 ≤ clF O V t w bh 100 ∧ clF O V t w bh 100 ≤ 99 ∧ V t.b (clF O V t w bh 100).toNat ≠ -10000) := by
  rcases clF_Q O V t w bh 100 with ⟨a1, a2⟩ | ⟨a1, a2, a3, a4, a5⟩
  · exact Or.inl a1
  · exact Or.inr ⟨a1, by omega, (shM_iff.mp a3).1⟩
/-- the ends, the keys next to one -/
def endF (O : OW) (V : BW) (t : VT) (last : Int) : Int := if last = 0 then clF O V t (-1) 1 100 else clF O V t 1000 0 100
def nrF (O : OW) (V : BW) (t : VT) (k : Nat) (what : Int) : Int := if what = 0 then clF O V t (mwN (O t.b) k) 0 100 else if what = 1 then clF O V t (mwN (O t.b) k + 1) 0 100 else if what = 2 then clF O V t (mwN (O t.b) k - 1) 1 100 else clF O V t (mwN (O t.b) k) 1 100
/-- how many are shown, their sum, how many lie ahead -/
def mnF (O : OW) (V : BW) (t : VT) (n : Nat) : Int := sI (fun k => if shM O V t k = true then 1 else 0) n
def smF (O : OW) (V : BW) (t : VT) (n : Nat) : Int := sI (fun k => if shM O V t k = true then V t.b k else 0) n
def ahF (O : OW) (V : BW) (b : Nat) (key : Nat) (n : Nat) : Int := sI (fun k => if shM O V (whT b) k = true ∧ mwN (O b) k < mwN (O b) key then 1 else 0) n
section
variable {o : Nat} {V : BW} {O : OW} {t : VT} {fk fv : Nat → Int32} {what st en sz z w : Int}
/-- which places a view shows -/
theorem shP (hO : O t.b < 3) (ht : t.ok) (hV : BV (O t.b) (V t.b) sz.toNat fk fv) (hst : plW (O t.b) sz.toNat fk (swN (O t.b) t.lo t.li) st.toNat) (hen : plW (O t.b) sz.toNat fk (ewN (O t.b) t.lo t.li t.up t.ui) en.toNat) (h0 : 0 ≤ st) (h1 : 0 ≤ en) {q : Nat} (hq : q < sz.toNat) : (st ≤ (q : Int) ∧ (q : Int) < en) ↔ shM O V t (kN fk q) = true := by
  have hk := (hV.k hq).2.1
  rw [shM_iff, ← in_eq hO ht hk]
  have a := hst.2 q hq
  have b := hen.2 q hq
  have c := (hV.v hq).2
  simp only [inC]
  constructor
  · rintro ⟨x, y⟩
    refine ⟨c, ?_, ?_⟩
    · by_cases e : (cwN (O t.b) (kN fk q) : Int) < swN (O t.b) t.lo t.li
      · have := a.mp e; omega
      · omega
    · exact b.mpr (by omega)
  · rintro ⟨-, x, y⟩
    have := b.mp y
    refine ⟨?_, by omega⟩
    by_cases e : q < st.toNat
    · have := a.mpr e; omega
    · omega
theorem clB_F (hO : O t.b < 3) (ht : t.ok) (hV : BV (O t.b) (V t.b) sz.toNat fk fv) (hst : plW (O t.b) sz.toNat fk (swN (O t.b) t.lo t.li) st.toNat) (hen : plW (O t.b) sz.toNat fk (ewN (O t.b) t.lo t.li t.up t.ui) en.toNat) (h0 : 0 ≤ st) (h1 : 0 ≤ en) {key : Nat} (hkey : key < 100) (hwh : 0 ≤ what ∧ what ≤ 3) (h : clB (O t.b) sz.toNat fk (cwN (O t.b) key) what st en z) : z = nrF O V t key what := by
  have sh : ∀ q, q < sz.toNat → ((st ≤ (q : Int) ∧ (q : Int) < en) ↔ shM O V t (kN fk q) = true) := fun q hq => shP hO ht hV hst hen h0 h1 hq
  have gen : ∀ (W bh : Int), (bh = 0 ↔ what ≤ 1) → (∀ k, k < 100 → (cndB (O t.b) (cwN (O t.b) key) what k ↔ okC W (mwN (O t.b) k) bh = true)) → z = clF O V t W bh 100 := fun W bh hb hc => by
    refine clF_eq hO ?_
    rcases h with ⟨a1, a2⟩ | ⟨q, a1, a2, a3, a4, a5⟩
    · refine Or.inl ⟨a1, fun k hk hs => ?_⟩
      obtain ⟨p, hp, rfl⟩ := hV.at hk (shM_iff.mp hs).1
      cases e : okC W (mwN (O t.b) (kN fk p)) bh with
      | false => rfl
      | true => exact absurd ((hc _ hk).mpr e) (a2 p hp ((sh p hp).mpr hs))
    · have k1 := hV.k a1
      have ez : z.toNat = kN fk q := by rw [a3]
      refine Or.inr ⟨by omega, by omega, by rw [ez]; exact (sh q a1).mp a2, by rw [ez]; exact (hc _ k1.2.1).mp a4, fun k hk hs hok => ?_⟩
      obtain ⟨p, hp, rfl⟩ := hV.at hk (shM_iff.mp hs).1
      have g := a5 p hp ((sh p hp).mpr hs) ((hc _ hk).mpr hok)
      have so : ∀ {x y : Nat}, x ≤ y → y < sz.toNat → mwN (O t.b) (kN fk x) ≤ mwN (O t.b) (kN fk y) := fun {x y} hxy hy => by
        by_cases e : x = y
        · subst e; exact Nat.le_refl _
        · have := (cw_mw hO (hV.k (p := x) (by omega)).2.1 (hV.k hy).2.1).mp (hV.so (p := x) (q := y) (by omega) hy)
          omega
      rw [ez]
      refine ⟨fun hb2 => so (g.2 (by omega)) hp, fun hb2 => so (g.1 (by omega)) a1⟩
  have cm1 : ∀ k, k < 100 → ((cwN (O t.b) k : Int) < cwN (O t.b) key ↔ mwN (O t.b) k < mwN (O t.b) key) := fun k hk => by have := cw_mw hO hk hkey; omega
  have cm2 : ∀ k, k < 100 → ((cwN (O t.b) key : Int) < cwN (O t.b) k ↔ mwN (O t.b) key < mwN (O t.b) k) := fun k hk => by have := cw_mw hO hkey hk; omega
  simp only [nrF]
  rcases (show what = 0 ∨ what = 1 ∨ what = 2 ∨ what = 3 by omega) with rfl | rfl | rfl | rfl
  · rw [if_pos rfl]
    exact gen _ _ (by omega) (fun k hk => by have := cm1 k hk; rw [okC_iff]; unfold cndB; omega)
  · rw [if_neg (by omega), if_pos rfl]
    exact gen _ _ (by omega) (fun k hk => by have := cm2 k hk; rw [okC_iff]; unfold cndB; omega)
  · rw [if_neg (by omega), if_neg (by omega), if_pos rfl]
    exact gen _ _ (by omega) (fun k hk => by have := cm1 k hk; rw [okC_iff]; unfold cndB; omega)
  · rw [if_neg (by omega), if_neg (by omega), if_neg (by omega)]
    exact gen _ _ (by omega) (fun k hk => by have := cm2 k hk; rw [okC_iff]; unfold cndB; omega)
/-- the ends -/
theorem endP (hO : O t.b < 3) (ht : t.ok) (hV : BV (O t.b) (V t.b) sz.toNat fk fv) (hst : plW (O t.b) sz.toNat fk (swN (O t.b) t.lo t.li) st.toNat) (hen : plW (O t.b) sz.toNat fk (ewN (O t.b) t.lo t.li t.up t.ui) en.toNat) (h0 : 0 ≤ st) (h1 : 0 ≤ en) {last : Int} (h : (en ≤ st ∧ z = -10000) ∨ (st < en ∧ last = 0 ∧ z = (fk st.toNat).toInt) ∨ (st < en ∧ last ≠ 0 ∧ z = (fk (en - 1).toNat).toInt)) : z = endF O V t last := by
  have sh : ∀ q, q < sz.toNat → ((st ≤ (q : Int) ∧ (q : Int) < en) ↔ shM O V t (kN fk q) = true) := fun q hq => shP hO ht hV hst hen h0 h1 hq
  have h2 := hst.1
  have h3 := hen.1
  have so : ∀ {x y : Nat}, x ≤ y → y < sz.toNat → mwN (O t.b) (kN fk x) ≤ mwN (O t.b) (kN fk y) := fun {x y} hxy hy => by
    by_cases e : x = y
    · subst e; exact Nat.le_refl _
    · have := (cw_mw hO (hV.k (p := x) (by omega)).2.1 (hV.k hy).2.1).mp (hV.so (p := x) (q := y) (by omega) hy)
      omega
  have none : en ≤ st → ∀ k, k < 100 → shM O V t k = true → False := fun hle k hk hs => by
    obtain ⟨p, hp, rfl⟩ := hV.at hk (shM_iff.mp hs).1
    have := (sh p hp).mpr hs
    omega
  have one : ∀ (W bh : Int) (q : Nat), q < sz.toNat → (st ≤ (q : Int) ∧ (q : Int) < en) → (∀ k, k < 100 → okC W (mwN (O t.b) k) bh = true) → (∀ r : Nat, (st ≤ (r : Int) ∧ (r : Int) < en) → (bh ≠ 0 → q ≤ r) ∧ (bh = 0 → r ≤ q)) → (fk q).toInt = clF O V t W bh 100 := fun W bh q hq hq2 hok hr => by
    have k1 := hV.k hq
    refine clF_eq hO (Or.inr ⟨k1.1.1, by omega, (sh q hq).mp hq2, hok _ k1.2.1, fun k hk hs _ => ?_⟩)
    obtain ⟨p, hp, rfl⟩ := hV.at hk (shM_iff.mp hs).1
    have g := hr p ((sh p hp).mpr hs)
    exact ⟨fun hb => so (g.1 hb) hp, fun hb => so (g.2 hb) hq⟩
  have ml : ∀ k, k < 100 → mwN (O t.b) k ≤ 999 := fun k hk => mw_le hO hk
  simp only [endF]
  rcases h with ⟨a, rfl⟩ | ⟨a, rfl, rfl⟩ | ⟨a, b, rfl⟩
  · by_cases e : last = 0
    · rw [if_pos e]; exact clF_eq hO (Or.inl ⟨rfl, fun k hk hs => (none a k hk hs).elim⟩)
    · rw [if_neg e]; exact clF_eq hO (Or.inl ⟨rfl, fun k hk hs => (none a k hk hs).elim⟩)
  · rw [if_pos rfl]
    exact one (-1) 1 st.toNat (by omega) (by omega) (fun k hk => by rw [okC_iff]; omega) (fun r hr => ⟨fun _ => by omega, fun q => by omega⟩)
  · rw [if_neg b]
    exact one 1000 0 (en - 1).toNat (by omega) (by omega) (fun k hk => by have := ml k hk; rw [okC_iff]; omega) (fun r hr => ⟨fun q => by omega, fun _ => by omega⟩)
/-- the key behind the last step -/
theorem stepP (hO : O t.b < 3) (ht : t.ok) (hV : BV (O t.b) (V t.b) sz.toNat fk fv) (hst : plW (O t.b) sz.toNat fk (swN (O t.b) t.lo t.li) st.toNat) (hen : plW (O t.b) sz.toNat fk (ewN (O t.b) t.lo t.li t.up t.ui) en.toNat) (h0 : 0 ≤ st) (h1 : 0 ≤ en) {ps pb : Int} (hp : 0 ≤ ps ∧ ps ≤ 99) (hin : inM (O t.b) t ps.toNat) (hpb0 : 0 ≤ pb) (hpb : plW (O t.b) sz.toNat fk ((cwN (O t.b) ps.toNat : Int) + 1) pb.toNat) (h : (en ≤ pb ∧ z = -10000) ∨ (pb < en ∧ z = (fk pb.toNat).toInt)) : z = clF O V t (mwN (O t.b) ps.toNat) 1 100 := by
  have sh : ∀ q, q < sz.toNat → ((st ≤ (q : Int) ∧ (q : Int) < en) ↔ shM O V t (kN fk q) = true) := fun q hq => shP hO ht hV hst hen h0 h1 hq
  have h2 := hst.1
  have h3 := hen.1
  have hpl := hpb.1
  rw [← in_eq hO ht (by omega)] at hin
  have bk : ∀ q, q < sz.toNat → (pb ≤ (q : Int) ↔ mwN (O t.b) ps.toNat < mwN (O t.b) (kN fk q)) := fun q hq => by
    have g := hpb.2 q hq
    have c := cw_mw hO (show ps.toNat < 100 by omega) (hV.k hq).2.1
    constructor
    · intro x
      refine c.mp ?_
      by_cases e : (cwN (O t.b) (kN fk q) : Int) < (cwN (O t.b) ps.toNat : Int) + 1
      · have := g.mp e; omega
      · omega
    · intro x
      have := c.mpr x
      by_cases e : q < pb.toNat
      · have := g.mpr e; omega
      · omega
  have stb : ∀ q, q < sz.toNat → pb ≤ (q : Int) → st ≤ (q : Int) := fun q hq x => by
    have := (cw_mw hO (show ps.toNat < 100 by omega) (hV.k hq).2.1).mpr ((bk q hq).mp x)
    have g := hst.2 q hq
    have h5 := hin.1
    by_cases e : q < st.toNat
    · have := g.mpr e; omega
    · omega
  have so : ∀ {x y : Nat}, x ≤ y → y < sz.toNat → mwN (O t.b) (kN fk x) ≤ mwN (O t.b) (kN fk y) := fun {x y} hxy hy => by
    by_cases e : x = y
    · subst e; exact Nat.le_refl _
    · have := (cw_mw hO (hV.k (p := x) (by omega)).2.1 (hV.k hy).2.1).mp (hV.so (p := x) (q := y) (by omega) hy)
      omega
  refine clF_eq hO ?_
  rcases h with ⟨a, rfl⟩ | ⟨a, rfl⟩
  · refine Or.inl ⟨rfl, fun k hk hs => ?_⟩
    obtain ⟨p, hp2, rfl⟩ := hV.at hk (shM_iff.mp hs).1
    have g := (sh p hp2).mpr hs
    have g2 := bk p hp2
    rw [okC_f]; omega
  · have hlt : pb.toNat < sz.toNat := by omega
    have k1 := hV.k hlt
    refine Or.inr ⟨k1.1.1, by omega, (sh _ hlt).mp ⟨stb _ hlt (by omega), by omega⟩, ?_, fun k hk hs hok => ?_⟩
    · have := (bk _ hlt).mp (by omega)
      show okC _ (mwN (O t.b) (kN fk pb.toNat)) 1 = true
      rw [okC_iff]; omega
    · obtain ⟨p, hp2, rfl⟩ := hV.at hk (shM_iff.mp hs).1
      refine ⟨fun _ => so ?_ hp2, fun q => by omega⟩
      rw [okC_iff] at hok
      have := (bk p hp2).mpr (by omega)
      omega
/-- how many, which sum -/
theorem mnP (hO : O t.b < 3) (ht : t.ok) (hV : BV (O t.b) (V t.b) sz.toNat fk fv) (hst : plW (O t.b) sz.toNat fk (swN (O t.b) t.lo t.li) st.toNat) (hen : plW (O t.b) sz.toNat fk (ewN (O t.b) t.lo t.li t.up t.ui) en.toNat) (h0 : 0 ≤ st) (hse : st ≤ en) : en - st = mnF O V t 100 := by
  have sh : ∀ q, q < sz.toNat → ((st ≤ (q : Int) ∧ (q : Int) < en) ↔ shM O V t (kN fk q) = true) := fun q hq => shP hO ht hV hst hen h0 (by omega) hq
  have h3 := hen.1
  have e := hV.sum (fun k => if shM O V t k = true then 1 else 0)
  have e1 : ∀ m : Nat, m ≤ sz.toNat → sI (fun p => if shM O V t (kN fk p) = true then 1 else 0) m = (if (m : Int) ≤ st then 0 else if (m : Int) ≤ en then (m : Int) - st else en - st) := fun m => by
    induction m with
    | zero => intro _; simp only [sI]; rw [if_pos (by omega)]
    | succ m ih =>
      intro hm
      have g := sh m (by omega)
      simp only [sI]
      rw [ih (by omega)]
      by_cases q : st ≤ (m : Int) ∧ (m : Int) < en
      · rw [if_pos (g.mp q)]; (repeat' split) <;> omega
      · rw [if_neg (fun x => q (g.mpr x))]; (repeat' split) <;> omega
  rw [e1 _ (Nat.le_refl _)] at e
  rw [mnF]
  have e2 : sI (fun k => if shM O V t k = true then 1 else 0) 100 = sI (fun k => if V t.b k ≠ -10000 then (if shM O V t k = true then 1 else 0) else 0) 100 := sI_congr (fun k _ => by
    by_cases q : V t.b k = -10000
    · rw [if_neg (fun x => (shM_iff.mp x).1 q), if_neg (fun x => x q)]
    · rw [if_pos q])
  rw [e2, ← e]
  (repeat' split) <;> omega
theorem smPF (hO : O t.b < 3) (ht : t.ok) (hV : BV (O t.b) (V t.b) sz.toNat fk fv) (hst : plW (O t.b) sz.toNat fk (swN (O t.b) t.lo t.li) st.toNat) (hen : plW (O t.b) sz.toNat fk (ewN (O t.b) t.lo t.li t.up t.ui) en.toNat) (h0 : 0 ≤ st) (hse : st ≤ en) : smP fv st en.toNat = smF O V t 100 := by
  have sh : ∀ q, q < sz.toNat → ((st ≤ (q : Int) ∧ (q : Int) < en) ↔ shM O V t (kN fk q) = true) := fun q hq => shP hO ht hV hst hen h0 (by omega) hq
  have h3 := hen.1
  have e := hV.sum (fun k => if shM O V t k = true then V t.b k else 0)
  have e1 : ∀ m : Nat, m ≤ sz.toNat → sI (fun p => if shM O V t (kN fk p) = true then V t.b (kN fk p) else 0) m = smP fv st (if (m : Int) ≤ en then m else en.toNat) := fun m => by
    induction m with
    | zero => intro _; rw [if_pos (by omega)]; rfl
    | succ m ih =>
      intro hm
      have g := sh m (by omega)
      simp only [sI]
      rw [ih (by omega)]
      by_cases q : (m : Int) < en
      · rw [show (if (m : Int) ≤ en then m else en.toNat) = m from if_pos (by omega), show (if ((m + 1 : Nat) : Int) ≤ en then m + 1 else en.toNat) = m + 1 from if_pos (by omega)]
        show _ = smP fv st m + (if st ≤ (m : Int) then (fv m).toInt else 0)
        by_cases q2 : st ≤ (m : Int)
        · rw [if_pos (g.mp ⟨q2, q⟩), if_pos q2, (hV.v (p := m) (by omega)).1]
        · rw [if_neg (fun x => q2 (g.mpr x).1), if_neg q2]
      · rw [if_neg (fun x => q (g.mpr x).2)]
        by_cases q2 : (m : Int) ≤ en
        · rw [show (if (m : Int) ≤ en then m else en.toNat) = m from if_pos (by omega), show (if ((m + 1 : Nat) : Int) ≤ en then m + 1 else en.toNat) = en.toNat from if_neg (by omega), show en.toNat = m by omega]; omega
        · rw [show (if (m : Int) ≤ en then m else en.toNat) = en.toNat from if_neg (by omega), show (if ((m + 1 : Nat) : Int) ≤ en then m + 1 else en.toNat) = en.toNat from if_neg (by omega)]; omega
  rw [e1 _ (Nat.le_refl _)] at e
  have e3 : (if ((sz.toNat : Nat) : Int) ≤ en then sz.toNat else en.toNat) = en.toNat := by split <;> omega
  rw [e3] at e
  rw [e, smF]
  exact sI_congr (fun k _ => by
    by_cases q : V t.b k = -10000
    · rw [if_neg (fun x => x q), if_neg (fun x => (shM_iff.mp x).1 q)]
    · rw [if_pos q])
end
end FNEAR
