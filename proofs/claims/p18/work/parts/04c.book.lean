/-! the pure part: what a book's methods do -/
section FBOOK
/-- how many keys came or went -/
def cgN (V F : Nat → Int) (n : Nat) : Int := sI (fun k => if (V k = -10000 ↔ F k = -10000) then 0 else 1) n
theorem cgN_nn (V F : Nat → Int) (n : Nat) : 0 ≤ cgN V F n := (sI_rng (c := 1) (by omega) (fun k _ => by split <;> omega)).1
theorem cgN_0 {V F : Nat → Int} {n : Nat} (h : ∀ k, k < n → (V k = -10000 ↔ F k = -10000)) : cgN V F n = 0 := by
  rw [cgN, sI_congr (g := fun _ => 0) (fun k hk => if_pos (h k hk)), sI_zero]
theorem cgN_ne {V F : Nat → Int} : ∀ {n k : Nat}, k < n → ¬ (V k = -10000 ↔ F k = -10000) → cgN V F n ≠ 0
  | 0, k, hk, _ => absurd hk (Nat.not_lt_zero _)
  | n + 1, k, hk, h => by
    have h0 := cgN_nn V F n
    have e0 : cgN V F (n + 1) = cgN V F n + (if (V n = -10000 ↔ F n = -10000) then 0 else 1) := rfl
    rw [e0]
    by_cases e : k = n
    · subst e; rw [if_neg h]; omega
    · have h1 := cgN_ne (n := n) (k := k) (by omega) h
      split <;> omega
theorem cgN_all {V F : Nat → Int} {n : Nat} (h : cgN V F n = 0) {k : Nat} (hk : k < n) : (V k = -10000 ↔ F k = -10000) := by
  by_cases e : (V k = -10000 ↔ F k = -10000)
  · exact e
  · exact absurd h (cgN_ne hk e)
theorem cgN_congr {V F F2 : Nat → Int} {n : Nat} (h : ∀ k, k < n → F k = F2 k) : cgN V F n = cgN V F2 n := sI_congr (fun k hk => by rw [h k hk])
/-- the count of key changes, beside the keys -/
def kcs (V V1 : Nat → Int) (kc kc1 m : Int) : Prop := kc ≤ kc1 ∧ kc1 ≤ kc + m ∧ (kc1 = kc ↔ cgN V V1 100 = 0)
theorem kcs.rf {V : Nat → Int} {kc : Int} : kcs V V kc kc 0 := ⟨by omega, by omega, ⟨fun _ => cgN_0 (fun _ _ => Iff.rfl), fun _ => rfl⟩⟩
theorem kcs.le {V V1 : Nat → Int} {kc kc1 m m2 : Int} (h : kcs V V1 kc kc1 m) (hm : m ≤ m2) : kcs V V1 kc kc1 m2 := ⟨h.1, by have := h.2.1; omega, h.2.2⟩
theorem kcs.cg {V V1 V2 : Nat → Int} {kc kc1 m : Int} (h : kcs V V1 kc kc1 m) (e : ∀ k, k < 100 → V1 k = V2 k) : kcs V V2 kc kc1 m := ⟨h.1, h.2.1, by rw [← cgN_congr e]; exact h.2.2⟩
theorem kcs.one {V : Nat → Int} {k : Nat} {v kc kc1 : Int} (hk : k < 100) (h1 : (V k = -10000 ↔ v = -10000) → kc1 = kc) (h2 : ¬ (V k = -10000 ↔ v = -10000) → kc1 = kc + 1) : kcs V (upV V k v) kc kc1 1 := by
  by_cases e : (V k = -10000 ↔ v = -10000)
  · have e1 := h1 e
    refine ⟨by omega, by omega, ⟨fun _ => cgN_0 (fun j _ => ?_), fun _ => e1⟩⟩
    by_cases q : j = k
    · subst q; rw [upV_s]; exact e
    · rw [upV_n _ _ q]
  · have e1 := h2 e
    exact ⟨by omega, by omega, ⟨fun q => by omega, fun q => absurd q (cgN_ne hk (by rw [upV_s]; exact e))⟩⟩
theorem kcs.add {V V1 : Nat → Int} {k : Nat} {v kc kc1 kc2 m : Int} (hm : ∀ k, k < 100 → V k ≠ -10000 → V1 k ≠ -10000) (h : kcs V V1 kc kc1 m) (hk : k < 100) (hv : v ≠ -10000) (h1 : kc2 = kc1 + (if V1 k = -10000 then 1 else 0)) : kcs V (upV V1 k v) kc kc2 (m + 1) ∧ ∀ j, j < 100 → V j ≠ -10000 → upV V1 k v j ≠ -10000 := by
  have mono : ∀ j, j < 100 → V j ≠ -10000 → upV V1 k v j ≠ -10000 := fun j hj hn => by
    by_cases q : j = k
    · subst q; rw [upV_s]; exact hv
    · rw [upV_n _ _ q]; exact hm j hj hn
  obtain ⟨a1, a2, a3⟩ := h
  refine ⟨?_, mono⟩
  by_cases e : V1 k = -10000
  · rw [if_pos e] at h1
    have e2 : V k = -10000 := by
      by_cases q : V k = -10000
      · exact q
      · exact absurd e (hm k hk q)
    exact ⟨by omega, by omega, ⟨fun q => by omega, fun q => absurd q (cgN_ne hk (by rw [upV_s]; intro x; exact hv (x.mp e2)))⟩⟩
  · rw [if_neg e] at h1
    have e3 : cgN V (upV V1 k v) 100 = cgN V V1 100 := sI_congr (fun j hj => by
      by_cases q : j = k
      · subst q; rw [upV_s]; simp [hv, e]
      · rw [upV_n _ _ q])
    exact ⟨by omega, by omega, by rw [e3]; exact ⟨fun q => a3.mp (by omega), fun q => by have := a3.mpr q; omega⟩⟩
theorem kcs.sub {V V1 : Nat → Int} {k : Nat} {kc kc1 kc2 m : Int} (hm : ∀ k, k < 100 → V k = -10000 → V1 k = -10000) (h : kcs V V1 kc kc1 m) (hk : k < 100) (h1 : kc2 = kc1 + (if V1 k = -10000 then 0 else 1)) : kcs V (upV V1 k (-10000)) kc kc2 (m + 1) ∧ ∀ j, j < 100 → V j = -10000 → upV V1 k (-10000) j = -10000 := by
  have mono : ∀ j, j < 100 → V j = -10000 → upV V1 k (-10000) j = -10000 := fun j hj hn => by
    by_cases q : j = k
    · subst q; rw [upV_s]
    · rw [upV_n _ _ q]; exact hm j hj hn
  obtain ⟨a1, a2, a3⟩ := h
  refine ⟨?_, mono⟩
  by_cases e : V1 k = -10000
  · rw [if_pos e] at h1
    have e3 : cgN V (upV V1 k (-10000)) 100 = cgN V V1 100 := sI_congr (fun j hj => by
      by_cases q : j = k
      · subst q; rw [upV_s]; simp [e]
      · rw [upV_n _ _ q])
    exact ⟨by omega, by omega, by rw [e3]; exact ⟨fun q => a3.mp (by omega), fun q => by have := a3.mpr q; omega⟩⟩
  · rw [if_neg e] at h1
    have e2 : V k ≠ -10000 := fun q => e (hm k hk q)
    exact ⟨by omega, by omega, ⟨fun q => by omega, fun q => absurd q (cgN_ne hk (by rw [upV_s]; intro x; exact e2 (x.mpr rfl)))⟩⟩
theorem upV_self {V : Nat → Int} {k : Nat} {v : Int} (h : V k = v) : upV V k v = V := by
  funext j
  by_cases q : j = k
  · subst q; rw [upV_s, h]
  · exact upV_n _ _ q
theorem BV.cg {o n : Nat} {V V1 : Nat → Int} {fk fv : Nat → Int32} (h : BV o V n fk fv) (e : ∀ k, k < 100 → V1 k = V k) : BV o V1 n fk fv := by
  have hk := fun {p} (hp : p < n) => (h.k hp).2.1
  obtain ⟨h1, h2, h3, h4, h5⟩ := h
  exact ⟨h1, fun p hp => by rw [e _ (hk hp)]; exact h2 p hp, h3, fun k hk' hv => h4 k hk' (by rw [← e k hk']; exact hv), fun k hk' => by rw [e k hk']; exact h5 k hk'⟩
/-- the search for a weight's place -/
def plI (o n : Nat) (fk : Nat → Int32) (w low high : Int) : Prop := (∀ q, q < n → (q : Int) < low → (cwN o (kN fk q) : Int) < w) ∧ (∀ q, q < n → high ≤ (q : Int) → w ≤ (cwN o (kN fk q) : Int))
section
variable {o n : Nat} {V V1 : Nat → Int} {fk fv : Nat → Int32} {w low high m sz p0 z : Int}
theorem plI_0 (h : 0 ≤ sz) : plI o sz.toNat fk w 0 sz := ⟨fun q _ h2 => by omega, fun q h1 h2 => by omega⟩
theorem plI.lo (hV : BV o V sz.toNat fk fv) (h : plI o sz.toNat fk w low high) (h0 : 0 ≤ m) (hm : m < sz) {a b : Int} (ha : a = (cwN o (kN fk m.toNat) : Int)) (hb : b = w) (hw : a < b) : plI o sz.toNat fk w (m + 1) high := by
  refine ⟨fun q hq hl => ?_, h.2⟩
  by_cases e : q = m.toNat
  · subst e; omega
  · have := hV.so (p := q) (q := m.toNat) (by omega) (by omega)
    omega
theorem plI.hi (hV : BV o V sz.toNat fk fv) (h : plI o sz.toNat fk w low high) (h0 : 0 ≤ m) (hm : m < sz) {a b : Int} (ha : a = (cwN o (kN fk m.toNat) : Int)) (hb : b = w) (hw : b ≤ a) : plI o sz.toNat fk w low m := by
  refine ⟨h.1, fun q hq hl => ?_⟩
  by_cases e : q = m.toNat
  · subst e; omega
  · have := hV.so (p := m.toNat) (q := q) (by omega) hq
    omega
theorem plI.pl (h : plI o sz.toNat fk w low high) (h0 : 0 ≤ low) (h1 : high ≤ low) (h2 : low ≤ sz) : plW o sz.toNat fk w low.toNat := by
  refine ⟨by omega, fun q hq => ⟨fun hw => ?_, fun hl => h.1 q hq (by omega)⟩⟩
  by_cases e : q < low.toNat
  · exact e
  · have := h.2 q hq (by omega)
    omega
/-- one place is that of a weight -/
theorem plW_uniq {a c : Nat} (h : plW o n fk w a) (g : plW o n fk w c) : a = c := by
  have h1 := h.1; have g1 := g.1
  by_cases e : a < c
  · have h2 := h.2 a (by omega); have g2 := g.2 a (by omega); omega
  · by_cases e2 : c < a
    · have h2 := h.2 c (by omega); have g2 := g.2 c (by omega); omega
    · omega
theorem BV.kr (h : BV o V sz.toNat fk fv) (hp : 0 ≤ p0 ∧ p0 < sz) : 0 ≤ (fk p0.toNat).toInt ∧ (fk p0.toNat).toInt ≤ 99 := (h.k (p := p0.toNat) (by omega)).1
theorem BV.vr' (h : BV o V sz.toNat fk fv) (hp : 0 ≤ p0 ∧ p0 < sz) : (fv p0.toNat).toInt = V (kN fk p0.toNat) ∧ -9999 ≤ (fv p0.toNat).toInt ∧ (fv p0.toNat).toInt ≤ 9999 := by
  have h1 := h.v (p := p0.toNat) (by omega)
  have h2 := h.vr (h.k (p := p0.toNat) (by omega)).2.1
  exact ⟨h1.1, by omega, by omega⟩
theorem BV.vof (ho : o < 3) (h : BV o V sz.toNat fk fv) (hk : 0 ≤ p0 ∧ p0 ≤ 99) (hz0 : 0 ≤ z) (hz : plW o sz.toNat fk (cwN o p0.toNat) z.toNat) : (z < sz ∧ (fk z.toNat).toInt = p0 ∧ (fv z.toNat).toInt = V p0.toNat ∧ V p0.toNat ≠ -10000) ∨ (V p0.toNat = -10000 ∧ (z < sz → (fk z.toNat).toInt ≠ p0)) := by
  rcases h.find ho (k := p0.toNat) (by omega) hz with ⟨a1, a2, a3⟩ | ⟨a1, a2⟩
  · have h1 := h.k (p := z.toNat) a2
    have h2 := h.v (p := z.toNat) a2
    rw [a3] at h2
    refine Or.inl ⟨by omega, ?_, h2.1, a1⟩
    have := h1.2.2
    omega
  · refine Or.inr ⟨a1, fun q e => a2 z.toNat (by omega) ?_⟩
    simp only [kN]; rw [e]
theorem BV.insZ (ho : o < 3) (h : BV o V sz.toNat fk fv) (hs : 0 ≤ sz) {k v : Int} (hk : 0 ≤ k ∧ k ≤ 99) (hv : -9999 ≤ v ∧ v ≤ 9999) (hn : V k.toNat = -10000) (hp : 0 ≤ p0 ∧ p0 ≤ sz) (hz : plW o sz.toNat fk (cwN o k.toNat) p0.toNat) :
    BV o (upV V k.toNat v) (sz + 1).toNat (upd (va_cpy fk fk p0.toNat (p0 + 1).toNat (sz - p0).toNat) p0.toNat (iN k)) (upd (va_cpy fv fv p0.toNat (p0 + 1).toNat (sz - p0).toNat) p0.toNat (iN v)) := by
  have := h.ins ho hk hv hn hz
  rw [show (sz + 1).toNat = sz.toNat + 1 by omega, show (p0 + 1).toNat = p0.toNat + 1 by omega, show (sz - p0).toNat = sz.toNat - p0.toNat by omega]
  exact this
theorem BV.overZ (h : BV o V sz.toNat fk fv) {v : Int} (hv : -9999 ≤ v ∧ v ≤ 9999) (hz : 0 ≤ p0 ∧ p0 < sz) {k : Nat} (hk : kN fk p0.toNat = k) : BV o (upV V k v) sz.toNat fk (upd fv p0.toNat (iN v)) := by
  subst hk; exact h.over hv (by omega)
theorem BV.roomZ (h : BV o V sz.toNat fk fv) {k : Nat} (hk : k < 100) (hv : V k = -10000) (hs : 0 ≤ sz) : sz < 100 := by
  have := h.room hk hv; omega
theorem kNz {x : Nat} {k : Int} (h : (fk x).toInt = k) : kN fk x = k.toNat := by simp only [kN]; rw [h]
/-- the pairs from the place a on to that ahead of e were struck -/
theorem BV.remZ {a e : Int} (h : BV o V sz.toNat fk fv) (h0 : 0 ≤ a) (hae : a < e) (hen : e ≤ sz) (hV : ∀ q, q < sz.toNat → V1 (kN fk q) = if a ≤ (q : Int) ∧ (q : Int) < e then -10000 else V (kN fk q)) (hV2 : ∀ k, k < 100 → V k = -10000 → V1 k = -10000) :
    BV o V1 (sz - (e - a)).toNat (va_cpy fk fk e.toNat a.toNat (sz - e).toNat) (va_cpy fv fv e.toNat a.toNat (sz - e).toNat) ∧ ∀ q : Nat, (q : Int) < sz - (e - a) → kN (va_cpy fk fk e.toNat a.toNat (sz - e).toNat) q = kN fk (if (q : Int) < a then q else q + (e - a).toNat) := by
  have := h.rem (a := a.toNat) (e := e.toNat) (V1 := V1) (by omega) (by omega) (fun p hp => by
    rw [hV p hp]
    by_cases q : a ≤ (p : Int) ∧ (p : Int) < e
    · rw [if_pos q, if_pos (by omega)]
    · rw [if_neg q, if_neg (by omega)]) hV2
  rw [show (sz - (e - a)).toNat = sz.toNat - (e.toNat - a.toNat) by omega, show (sz - e).toNat = sz.toNat - e.toNat by omega]
  refine ⟨this, fun q hq => ?_⟩
  simp only [kN, va_cpy]
  by_cases x : (q : Int) < a
  · rw [if_neg (by omega), if_pos x]
  · rw [if_pos (by omega), if_neg x, show e.toNat + (q - a.toNat) = q + (e - a).toNat by omega]
/-- nothing is struck -/
theorem BV.rem0 {a e : Int} (h : BV o V sz.toNat fk fv) (hae : e ≤ a) (hV : ∀ q, q < sz.toNat → V1 (kN fk q) = if a ≤ (q : Int) ∧ (q : Int) < e then -10000 else V (kN fk q)) (hV2 : ∀ k, k < 100 → V k = -10000 → V1 k = -10000) : BV o V1 sz.toNat fk fv :=
  h.cg (fun k hk => by
    by_cases e1 : V k = -10000
    · rw [hV2 k hk e1, e1]
    · obtain ⟨p, hp, rfl⟩ := h.at hk e1
      rw [hV p hp, if_neg (by omega)])
/-- one key is struck -/
theorem BV.one1 (h : BV o V sz.toNat fk fv) (hp : 0 ≤ p0 ∧ p0 < sz) {k : Nat} (hk : kN fk p0.toNat = k) : ∀ q, q < sz.toNat → upV V k (-10000) (kN fk q) = if p0 ≤ (q : Int) ∧ (q : Int) < p0 + 1 then -10000 else V (kN fk q) := fun q hq => by
  subst hk
  by_cases e : q = p0.toNat
  · subst e; rw [upV_s, if_pos (by omega)]
  · rw [upV_n _ _ (fun x => e (h.inj hq (by omega) x)), if_neg (by omega)]
theorem up_mono {k : Nat} : ∀ j, j < 100 → V j = -10000 → upV V k (-10000) j = -10000 := fun j _ hj => by
  by_cases e : j = k
  · subst e; rw [upV_s]
  · rw [upV_n _ _ e]; exact hj
end
/-- the key z is struck, if it is one -/
def rmV (V : Nat → Int) (z : Int) : Nat → Int := if z = -10000 then V else upV V z.toNat (-10000)
theorem rmV_0 {V : Nat → Int} {z : Int} (h : z = -10000) : rmV V z = V := if_pos h
theorem rmV_1 {V : Nat → Int} {z : Int} (h : z ≠ -10000) : rmV V z = upV V z.toNat (-10000) := if_neg h
theorem kcs.rm {V : Nat → Int} {z kc kc1 : Int} (hz : z = -10000 ∨ (0 ≤ z ∧ z ≤ 99 ∧ V z.toNat ≠ -10000)) (h : kc1 = kc + (if z = -10000 then 0 else 1)) : kcs V (rmV V z) kc kc1 1 := by
  by_cases e : z = -10000
  · rw [rmV_0 e]; rw [if_pos e] at h; obtain rfl : kc1 = kc := by omega
    exact kcs.rf.le (by omega)
  · rw [rmV_1 e]; rw [if_neg e] at h
    have hz1 : V z.toNat ≠ -10000 := hz.elim (fun q => absurd q e) (fun q => q.2.2)
    exact kcs.one (by omega) (fun q => absurd (q.mpr rfl) hz1) (fun _ => h)
end FBOOK
