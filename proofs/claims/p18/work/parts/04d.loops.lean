/-! the pure part: a book's loops and questions -/
section FLOOPS
def bdN (x : Int) : Int := if 9999 < x then 9999 else if x < -9999 then -9999 else x
theorem bdN_eq {x z : Int} (h : (9999 < x ∧ z = 9999) ∨ (x < -9999 ∧ z = -9999) ∨ ((-9999 ≤ x ∧ x ≤ 9999) ∧ z = x)) : bdN x = z := by
  simp only [bdN]
  rcases h with ⟨h1, h2⟩ | ⟨h1, h2⟩ | ⟨h1, h2⟩
  · rw [if_pos h1, h2]
  · rw [if_neg (by omega), if_pos h1, h2]
  · rw [if_neg (by omega), if_neg (by omega), h2]
theorem bdN_rng (x : Int) : -9999 ≤ bdN x ∧ bdN x ≤ 9999 := by
  simp only [bdN]; (repeat' split) <;> omega
/-- what becomes of a key's value -/
def mgN (x v : Int) : Int := if x = -10000 then v else if bdN (x + v) = 0 then -10000 else bdN (x + v)
def gwN (x k : Int) : Int := if x = -10000 ∧ k % 7 ≠ 0 then 3 * k - 50 else x
def hvN (x : Int) : Int := if x = -10000 ∨ x.tdiv 2 = 0 then -10000 else x.tdiv 2
def twN (x k : Int) : Int := if x = -10000 then k else if -500 ≤ x ∧ x ≤ 500 then 2 * x else -10000
/-- V with the values of F at the keys below n -/
def mapN (V F : Nat → Int) (n : Nat) : Nat → Int := fun k => if k < n then F k else V k
theorem mapN_lt {V F : Nat → Int} {n k : Nat} (h : k < n) : mapN V F n k = F k := if_pos h
theorem mapN_ge {V F : Nat → Int} {n k : Nat} (h : n ≤ k) : mapN V F n k = V k := if_neg (Nat.not_lt.mpr h)
theorem mapN_0 (V F : Nat → Int) : mapN V F 0 = V := by funext k; exact mapN_ge (Nat.zero_le k)
theorem mapN_set {V F : Nat → Int} {n : Nat} {v : Int} (h : v = F n) : upV (mapN V F n) n v = mapN V F (n + 1) := by
  funext k
  by_cases e : k = n
  · subst e; rw [upV_s, mapN_lt (Nat.lt_succ_self k), h]
  · rw [upV_n _ _ e]
    by_cases q : k < n
    · rw [mapN_lt q, mapN_lt (by omega)]
    · rw [mapN_ge (by omega), mapN_ge (by omega)]
theorem mapN_skip {V F : Nat → Int} {n : Nat} (h : F n = V n) : mapN V F n = mapN V F (n + 1) := by
  rw [← mapN_set rfl, upV_self]
  rw [mapN_ge (Nat.le_refl n), h]
theorem BV.map {o n : Nat} {V V1 F : Nat → Int} {fk fv : Nat → Int32} (h : BV o V1 n fk fv) (e : ∀ k, k < 100 → V1 k = F k) : BV o (mapN V F 100) n fk fv := h.cg (fun k hk => by rw [mapN_lt hk, e k hk])
theorem kcs.map {V V1 F : Nat → Int} {kc kc1 m : Int} (h : kcs V V1 kc kc1 m) (e : ∀ k, k < 100 → V1 k = F k) : kcs V (mapN V F 100) kc kc1 m := h.cg (fun k hk => by rw [mapN_lt hk, e k hk])
/-- how many were struck -/
def stN (V F : Nat → Int) (n : Nat) : Int := sI (fun k => if V k ≠ -10000 ∧ F k = -10000 then 1 else 0) n
theorem stN_cnt {V F : Nat → Int} (h : ∀ k, k < 100 → F k = V k ∨ F k = -10000) : cntV V - cntV F = stN V F 100 := by
  have g : ∀ n, n ≤ 100 → sI (fun k => if V k = -10000 then 0 else 1) n - sI (fun k => if F k = -10000 then 0 else 1) n = stN V F n := fun n => by
    induction n with
    | zero => intro _; rfl
    | succ n ih =>
      intro hn
      have e := ih (by omega)
      have e2 : stN V F (n + 1) = stN V F n + (if V n ≠ -10000 ∧ F n = -10000 then 1 else 0) := rfl
      simp only [sI]
      rw [e2, ← e]
      rcases h n (by omega) with q | q
      · by_cases x : V n = -10000
        · rw [if_pos x, if_pos (by rw [q, x]), if_neg (fun y => y.1 x)]; omega
        · rw [if_neg x, if_neg (by rw [q]; exact x), if_neg (fun y => x (by rw [← q]; exact y.2))]; omega
      · by_cases x : V n = -10000
        · rw [if_pos x, if_pos q, if_neg (fun y => y.1 x)]; omega
        · rw [if_neg x, if_pos q, if_pos ⟨x, q⟩]; omega
  exact g 100 (Nat.le_refl _)
theorem cntV_cg {V V1 : Nat → Int} (h : ∀ k, k < 100 → V k = V1 k) : cntV V = cntV V1 := sI_congr (fun k hk => by rw [h k hk])
section
variable {o n : Nat} {V V1 V2 : Nat → Int} {fk fv f1 f2 fk2 fv2 : Nat → Int32} {pl sz sz1 z : Int}
/-- each value is raised, place by place -/
def rsA (n : Nat) (fk : Nat → Int32) (V V1 : Nat → Int) (by1 pl cn : Int) : Prop :=
  (∀ q, q < n → V1 (kN fk q) = if (q : Int) < pl then bdN (V (kN fk q) + by1) else V (kN fk q)) ∧ (∀ k, k < 100 → V k = -10000 → V1 k = -10000) ∧ cn = sI (fun q => if bdN (V (kN fk q) + by1) = V (kN fk q) then 0 else 1) pl.toNat
theorem rsA.init {by1 : Int} : rsA n fk V V by1 0 0 := ⟨fun q _ => by rw [if_neg (by omega)], fun _ _ h => h, rfl⟩
theorem rsA.old {by1 cn : Int} (h : rsA sz.toNat fk V V1 by1 pl cn) (h0 : 0 ≤ pl) (h1 : pl < sz) : V1 (kN fk pl.toNat) = V (kN fk pl.toNat) := by
  rw [h.1 pl.toNat (by omega), if_neg (by omega)]
theorem rsA.set {by1 cn r x : Int} (hV : BV o V sz.toNat fk fv) (h : rsA sz.toNat fk V V1 by1 pl cn) (h0 : 0 ≤ pl) (h1 : pl < sz) (hx : x = V1 (kN fk pl.toNat)) (hr : bdN (x + by1) = r) (hn : r ≠ x) : rsA sz.toNat fk V (upV V1 (kN fk pl.toNat) r) by1 (pl + 1) (cn + 1) := by
  rw [h.old h0 h1] at hx
  refine ⟨fun q hq => ?_, fun k hk hv => ?_, ?_⟩
  · by_cases e : q = pl.toNat
    · subst e; rw [upV_s, if_pos (by omega), ← hx, hr]
    · rw [upV_n _ _ (fun y => e (hV.inj hq (by omega) y)), h.1 q hq]
      by_cases e2 : (q : Int) < pl
      · rw [if_pos e2, if_pos (by omega)]
      · rw [if_neg e2, if_neg (by omega)]
  · rw [upV_n _ _ (fun y => (hV.v (p := pl.toNat) (by omega)).2 (by rw [← y]; exact hv))]; exact h.2.1 k hk hv
  · rw [show (pl + 1).toNat = pl.toNat + 1 by omega]
    simp only [sI]
    rw [← h.2.2, ← hx, hr, if_neg hn]
theorem rsA.skip {by1 cn r x : Int} (h : rsA sz.toNat fk V V1 by1 pl cn) (h0 : 0 ≤ pl) (h1 : pl < sz) (hx : x = V1 (kN fk pl.toNat)) (hr : bdN (x + by1) = r) (hn : r = x) : rsA sz.toNat fk V V1 by1 (pl + 1) cn := by
  rw [h.old h0 h1] at hx
  refine ⟨fun q hq => ?_, h.2.1, ?_⟩
  · rw [h.1 q hq]
    by_cases e : q = pl.toNat
    · subst e; rw [if_neg (by omega), if_pos (by omega), ← hx, hr, hn]
    · by_cases e2 : (q : Int) < pl
      · rw [if_pos e2, if_pos (by omega)]
      · rw [if_neg e2, if_neg (by omega)]
  · rw [show (pl + 1).toNat = pl.toNat + 1 by omega]
    simp only [sI]
    rw [← h.2.2, ← hx, hr, if_pos hn]; omega
def F_raise (V : Nat → Int) (by1 : Int) : Nat → Int := fun k => if V k = -10000 then -10000 else bdN (V k + by1)
def rsN (V : Nat → Int) (by1 : Int) (n : Nat) : Int := sI (fun k => if V k = -10000 then 0 else if bdN (V k + by1) = V k then 0 else 1) n
theorem rsA.fin {by1 cn : Int} (hV : BV o V sz.toNat fk fv) (h : rsA sz.toNat fk V V1 by1 pl cn) (h1 : pl = sz) : (∀ k, k < 100 → V1 k = F_raise V by1 k) ∧ cn = rsN V by1 100 := by
  subst h1
  refine ⟨fun k hk => ?_, ?_⟩
  · simp only [F_raise]
    by_cases e : V k = -10000
    · rw [if_pos e]; exact h.2.1 k hk e
    · rw [if_neg e]
      obtain ⟨p, hp, rfl⟩ := hV.at hk e
      rw [h.1 p hp, if_pos (by omega)]
  · rw [h.2.2, hV.sum (fun k => if bdN (V k + by1) = V k then 0 else 1)]
    exact sI_congr (fun k _ => by
      by_cases e : V k = -10000
      · rw [if_pos e, if_neg (fun q => q e)]
      · rw [if_neg e, if_pos e])
theorem kcs.raise {by1 kc : Int} : kcs V (mapN V (F_raise V by1) 100) kc kc 0 := ⟨by omega, by omega, ⟨fun _ => cgN_0 (fun k hk => by
  rw [mapN_lt hk]; simp only [F_raise]
  have := bdN_rng (V k + by1)
  by_cases e : V k = -10000
  · simp [e]
  · simp only [if_neg e]; omega), fun _ => rfl⟩⟩
/-- keys are struck, from the last place down -/
def rmA (V V1 : Nat → Int) (C : Nat → Prop) (f1 : Nat → Int32) (sz1 pl : Int) : Prop :=
  (∀ k, k < 100 → V1 k = V k ∨ (C k ∧ V1 k = -10000)) ∧ (∀ q : Nat, pl < (q : Int) → (q : Int) < sz1 → ¬ C (kN f1 q)) ∧ pl < sz1
theorem rmA.init {C : Nat → Prop} (h : pl = sz - 1) : rmA V V C fk sz pl := ⟨fun _ _ => Or.inl rfl, fun q h1 h2 => by omega, by omega⟩
theorem rmA.mono {C : Nat → Prop} (h : rmA V V1 C f1 sz1 pl) : ∀ k, k < 100 → V k = -10000 → V1 k = -10000 := fun k hk hv => by
  rcases h.1 k hk with e | e
  · rw [e]; exact hv
  · exact e.2
theorem rmA.old {C : Nat → Prop} (hV : BV o V1 sz1.toNat f1 f2) (h : rmA V V1 C f1 sz1 pl) (h0 : 0 ≤ pl) : V1 (kN f1 pl.toNat) = V (kN f1 pl.toNat) ∧ V (kN f1 pl.toNat) ≠ -10000 := by
  have h1 := h.2.2
  have g := hV.v (p := pl.toNat) (by omega)
  have k := hV.k (p := pl.toNat) (by omega)
  rcases h.1 _ k.2.1 with e | e
  · exact ⟨e, by rw [← e]; exact g.2⟩
  · exact absurd e.2 g.2
theorem rmA.skip {C : Nat → Prop} (h : rmA V V1 C f1 sz1 pl) (hc : ¬ C (kN f1 pl.toNat)) (h0 : 0 ≤ pl) : rmA V V1 C f1 sz1 (pl - 1) := by
  refine ⟨h.1, fun q h1 h2 => ?_, by have := h.2.2; omega⟩
  by_cases e : (q : Int) = pl
  · rw [show q = pl.toNat by omega]; exact hc
  · exact h.2.1 q (by omega) h2
theorem rmA.strike {C : Nat → Prop} {f3 : Nat → Int32} {sz3 : Int} (hV : BV o V1 sz1.toNat f1 f2) (h : rmA V V1 C f1 sz1 pl) (hc : C (kN f1 pl.toNat)) (h0 : 0 ≤ pl) (hs : sz3 = sz1 - 1) (hf : ∀ q : Nat, (q : Int) < sz3 → kN f3 q = kN f1 (if (q : Int) < pl then q else q + 1)) : rmA V (upV V1 (kN f1 pl.toNat) (-10000)) C f3 sz3 (pl - 1) := by
  have h1 := h.2.2
  refine ⟨fun k hk => ?_, fun q h3 h2 => ?_, by omega⟩
  · by_cases e : k = kN f1 pl.toNat
    · subst e; rw [upV_s]; exact Or.inr ⟨hc, rfl⟩
    · rw [upV_n _ _ e]; exact h.1 k hk
  · rw [hf q h2, if_neg (by omega)]
    exact h.2.1 (q + 1) (by omega) (by omega)
theorem rmA.fin {C : Nat → Prop} (hV : BV o V1 sz1.toNat f1 f2) (h : rmA V V1 C f1 sz1 pl) (h0 : pl < 0) (k : Nat) (hk : k < 100) : (C k → V k ≠ -10000) → (V1 k = -10000 ∧ (C k ∨ V k = -10000)) ∨ (¬ C k ∧ V1 k = V k) := fun hcv => by
  by_cases c : C k
  · refine Or.inl ⟨?_, Or.inl c⟩
    rcases h.1 k hk with e | e
    · obtain ⟨p, hp, rfl⟩ := hV.at hk (by rw [e]; exact hcv c)
      exact absurd c (h.2.1 p (by omega) (by omega))
    · exact e.2
  · rcases h.1 k hk with e | e
    · exact Or.inr ⟨c, e⟩
    · exact absurd e.1 c
def F_sift (V : Nat → Int) (by1 : Int) : Nat → Int := fun k => if V k ≠ -10000 ∧ (V k).tmod by1 = 0 then -10000 else V k
def F_thin (V V2 : Nat → Int) (c : Int) : Nat → Int := fun k => if V k ≠ -10000 ∧ (V2 k ≠ -10000 ↔ c = 1) then -10000 else V k
theorem rmA.fins {by1 : Int} (hV : BV o V1 sz1.toNat f1 f2) (h : rmA V V1 (fun k => V k ≠ -10000 ∧ (V k).tmod by1 = 0) f1 sz1 pl) (h0 : pl < 0) : ∀ k, k < 100 → V1 k = F_sift V by1 k := fun k hk => by
  simp only [F_sift]
  rcases h.fin hV h0 k hk (fun q => q.1) with ⟨a, b⟩ | ⟨a, b⟩
  · by_cases e : V k = -10000
    · rw [if_neg (fun q => q.1 e), a, e]
    · rw [if_pos (b.elim (fun b => b) (fun b => absurd b e)), a]
  · rw [if_neg a, b]
theorem rmA.fint {c : Int} (hV : BV o V1 sz1.toNat f1 f2) (h : rmA V V1 (fun k => V k ≠ -10000 ∧ (V2 k ≠ -10000 ↔ c = 1)) f1 sz1 pl) (h0 : pl < 0) : ∀ k, k < 100 → V1 k = F_thin V V2 c k := fun k hk => by
  simp only [F_thin]
  rcases h.fin hV h0 k hk (fun q => q.1) with ⟨a, b⟩ | ⟨a, b⟩
  · by_cases e : V k = -10000
    · rw [if_neg (fun q => q.1 e), a, e]
    · rw [if_pos (b.elim (fun b => b) (fun b => absurd b e)), a]
  · rw [if_neg a, b]
/-- how many were struck, by the sizes -/
theorem stN_sz {F : Nat → Int} (hV : BV o V sz.toNat fk fv) (h0 : 0 ≤ sz) (hV1 : BV o V1 sz1.toNat f1 f2) (h1 : 0 ≤ sz1) (e : ∀ k, k < 100 → V1 k = F k) (hF : ∀ k, k < 100 → F k = V k ∨ F k = -10000) : sz - sz1 = stN V F 100 := by
  rw [← stN_cnt hF, ← cntV_cg e, hV.cnt, hV1.cnt]; omega
theorem F_sift_or (V : Nat → Int) (by1 : Int) (k : Nat) : F_sift V by1 k = V k ∨ F_sift V by1 k = -10000 := by
  simp only [F_sift]; split <;> simp
theorem F_thin_or (V V2 : Nat → Int) (c : Int) (k : Nat) : F_thin V V2 c k = V k ∨ F_thin V V2 c k = -10000 := by
  simp only [F_thin]; split <;> simp
/-- a book is poured into another -/
def enA (n2 : Nat) (fk2 : Nat → Int32) (V V2 V1 : Nat → Int) (pl : Int) : Prop := (∀ q, q < n2 → V1 (kN fk2 q) = if (q : Int) < pl then V2 (kN fk2 q) else V (kN fk2 q)) ∧ (∀ k, k < 100 → V2 k = -10000 → V1 k = V k)
theorem enA.init : enA n fk2 V V2 V 0 := ⟨fun q _ => by rw [if_neg (by omega)], fun _ _ _ => rfl⟩
theorem enA.step {x y : Int} (hV2 : BV o V2 sz.toNat fk2 fv2) (h : enA sz.toNat fk2 V V2 V1 pl) (h0 : 0 ≤ pl) (h1 : pl < sz) (hx : x = (fk2 pl.toNat).toInt) (hy : y = V2 (kN fk2 pl.toNat)) : enA sz.toNat fk2 V V2 (upV V1 x.toNat y) (pl + 1) := by
  have ex : x.toNat = kN fk2 pl.toNat := by rw [hx]
  rw [ex]
  refine ⟨fun q hq => ?_, fun k hk hv => ?_⟩
  · by_cases e : q = pl.toNat
    · subst e; rw [upV_s, if_pos (by omega), hy]
    · rw [upV_n _ _ (fun y => e (hV2.inj hq (by omega) y)), h.1 q hq]
      by_cases e2 : (q : Int) < pl
      · rw [if_pos e2, if_pos (by omega)]
      · rw [if_neg e2, if_neg (by omega)]
  · rw [upV_n _ _ (fun q => (hV2.v (p := pl.toNat) (by omega)).2 (by rw [← q]; exact hv))]; exact h.2 k hk hv
def F_pour (V V2 : Nat → Int) : Nat → Int := fun k => if V2 k = -10000 then V k else V2 k
theorem enA.fin (hV2 : BV o V2 sz.toNat fk2 fv2) (h : enA sz.toNat fk2 V V2 V1 pl) (h1 : pl = sz) : ∀ k, k < 100 → V1 k = F_pour V V2 k := fun k hk => by
  subst h1
  simp only [F_pour]
  by_cases e : V2 k = -10000
  · rw [if_pos e]; exact h.2 k hk e
  · rw [if_neg e]
    obtain ⟨p, hp, rfl⟩ := hV2.at hk e
    rw [h.1 p hp, if_pos (by omega)]
/-- an empty book goes by any order -/
theorem BV.empty {o o2 : Nat} (h : BV o V 0 fk fv) : BV o2 V 0 fk fv := ⟨h.1, fun p hp => absurd hp (Nat.not_lt_zero p), fun p q _ hq => absurd hq (Nat.not_lt_zero q), h.2.2.2.1, h.2.2.2.2⟩
/-- two books have the same pairs -/
theorem sI_lt {f g : Nat → Int} : ∀ {n : Nat}, (∀ k, k < n → f k ≤ g k) → ∀ {j : Nat}, j < n → f j < g j → sI f n < sI g n
  | 0, _, j, hj, _ => absurd hj (Nat.not_lt_zero j)
  | n + 1, h, j, hj, hl => by
    simp only [sI]
    have h2 := h n (Nat.lt_succ_self n)
    by_cases e : j = n
    · subst e
      have h1 := sI_le (n := j) (fun k hk => h k (Nat.lt_succ_of_lt hk))
      omega
    · have h1 := sI_lt (n := n) (fun k hk => h k (Nat.lt_succ_of_lt hk)) (j := j) (by omega) hl
      omega
theorem BV.like (hV : BV o V sz.toNat fk fv) (hV2 : BV n V2 sz1.toNat fk2 fv2) (h0 : 0 ≤ sz) (h1 : 0 ≤ sz1) (hs : sz = sz1) (h : ∀ q, q < sz.toNat → V2 (kN fk q) = V (kN fk q)) : ∀ k, k < 100 → V k = V2 k := fun k hk => by
  have c1 := hV.cnt
  have c2 := hV2.cnt
  by_cases e : V k = -10000
  · by_cases e2 : V2 k = -10000
    · rw [e, e2]
    · have l : cntV V < cntV V2 := sI_lt (fun j hj => by
        by_cases a : V j = -10000
        · simp only [if_pos a]; split <;> omega
        · obtain ⟨p, hp, rfl⟩ := hV.at hj a
          simp only [if_neg a]
          rw [if_neg (by rw [h p hp]; exact a)]; omega) hk (by simp only [if_pos e, if_neg e2]; omega)
      omega
  · obtain ⟨p, hp, rfl⟩ := hV.at hk e
    rw [h p hp]
theorem BV.unlike (hV : BV o V sz.toNat fk fv) (hV2 : BV n V2 sz1.toNat fk2 fv2) (h0 : 0 ≤ sz) (h1 : 0 ≤ sz1) (hs : sz ≠ sz1) : ¬ ∀ k, k < 100 → V k = V2 k := fun h => by
  have c1 := hV.cnt
  have c2 := hV2.cnt
  rw [cntV_cg h, c2] at c1
  omega
/-- sums over places -/
def smP (fv : Nat → Int32) (a : Int) (n : Nat) : Int := sI (fun q => if a ≤ (q : Int) then (fv q).toInt else 0) n
theorem smP_0 {a : Int} (h : 0 ≤ a) : smP fv a a.toNat = 0 := by
  rw [smP, sI_congr (g := fun _ => 0) (fun q hq => if_neg (by omega)), sI_zero]
theorem smP_s {a : Int} (h : 0 ≤ a) (h1 : a ≤ pl) : smP fv a (pl + 1).toNat = smP fv a pl.toNat + (fv pl.toNat).toInt := by
  rw [show (pl + 1).toNat = pl.toNat + 1 by omega]
  simp only [smP, sI]
  rw [if_pos (by omega)]
theorem smP_rng {a : Int} (hV : BV o V sz.toNat fk fv) (h1 : pl ≤ sz) : -(10000 * (pl.toNat : Int)) ≤ smP fv a pl.toNat ∧ smP fv a pl.toNat ≤ 10000 * pl.toNat := sI_abs (c := 10000) (by omega) (fun q hq => by
  have h2 := hV.v (p := q) (by omega)
  have h3 := hV.vr (hV.k (p := q) (by omega)).2.1
  by_cases e : a ≤ (q : Int)
  · rw [if_pos e]; omega
  · rw [if_neg e]; omega)
/-- how many places have a value -/
def cvP (fv : Nat → Int32) (v : Int) (n : Nat) : Int := sI (fun q => if (fv q).toInt = v then 1 else 0) n
def cvN (V : Nat → Int) (v : Int) (n : Nat) : Int := sI (fun k => if V k = v then 1 else 0) n
theorem cvP_N {v : Int} (hV : BV o V n fk fv) (hv : v ≠ -10000) : cvP fv v n = cvN V v 100 := by
  rw [cvP, sI_congr (g := fun p => if V (kN fk p) = v then 1 else 0) (fun p hp => by rw [(hV.v hp).1]), hV.sum (fun k => if V k = v then 1 else 0)]
  exact sI_congr (fun k _ => by
    by_cases e : V k = -10000
    · rw [if_neg (fun q => q e), if_neg (fun q => hv (by rw [← q, e]))]
    · rw [if_pos e])
theorem cvP_s {v x : Int} (h : 0 ≤ pl) (hx : x = (fv pl.toNat).toInt) : cvP fv v (pl + 1).toNat = cvP fv v pl.toNat + (if x = v then 1 else 0) := by
  rw [show (pl + 1).toNat = pl.toNat + 1 by omega, hx]
  rfl
end
end FLOOPS
