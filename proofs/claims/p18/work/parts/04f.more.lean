/-! the pure part: what is left of a book -/
section FMORE
variable {o o2 : Nat} {V V1 V2 : Nat → Int} {fk fv fk2 fv2 : Nat → Int32} {sz sz2 pl a e z : Int}
theorem rem_cg (hV : BV o V sz.toNat fk fv) (hae : e ≤ a) (hr1 : ∀ q, q < sz.toNat → V1 (kN fk q) = if a ≤ (q : Int) ∧ (q : Int) < e then -10000 else V (kN fk q)) (hr2 : ∀ k, k < 100 → V k = -10000 → V1 k = -10000) (k : Nat) (hk : k < 100) : V1 k = V k := by
  by_cases e1 : V k = -10000
  · rw [hr2 k hk e1, e1]
  · obtain ⟨p, hp, rfl⟩ := hV.at hk e1
    rw [hr1 p hp, if_neg (by omega)]
theorem kcs.rng {kc kc1 : Int} (hV : BV o V sz.toNat fk fv) (h0 : 0 ≤ a) (hae : a < e) (hen : e ≤ sz) (hr1 : ∀ q, q < sz.toNat → V1 (kN fk q) = if a ≤ (q : Int) ∧ (q : Int) < e then -10000 else V (kN fk q)) (hr2 : ∀ k, k < 100 → V k = -10000 → V1 k = -10000) (h : kc1 = kc + 1) : kcs V V1 kc kc1 1 :=
  ⟨by omega, by omega, ⟨fun q => by omega, fun q => by
    have h1 := cgN_all q (hV.k (p := a.toNat) (by omega)).2.1
    have h2 := (hV.v (p := a.toNat) (by omega)).2
    have h3 := hr1 a.toNat (by omega)
    rw [if_pos (by omega)] at h3
    exact absurd (h1.mpr h3) h2⟩⟩
theorem add_mono {k : Nat} {v : Int} (hm : ∀ k, k < 100 → V k ≠ -10000 → V1 k ≠ -10000) (hv : v ≠ -10000) : ∀ j, j < 100 → V j ≠ -10000 → upV V1 k v j ≠ -10000 := fun j hj hn => by
  by_cases q : j = k
  · subst q; rw [upV_s]; exact hv
  · rw [upV_n _ _ q]; exact hm j hj hn
theorem stN_rng (V F : Nat → Int) : 0 ≤ stN V F 100 ∧ stN V F 100 ≤ 100 := by
  have := sI_rng (c := 1) (f := fun k => if V k ≠ -10000 ∧ F k = -10000 then 1 else 0) (n := 100) (by omega) (fun k _ => by split <;> omega)
  exact ⟨this.1, by have := this.2; simp only [stN]; omega⟩
theorem tdv_rng {x z : Int} (h : z = x.tdiv 2) (hx : -10000 ≤ x ∧ x ≤ 10000) : -5000 ≤ z ∧ z ≤ 5000 := by
  subst h
  have h1 : (x.tdiv 2).natAbs = x.natAbs / 2 := Int.natAbs_tdiv x 2
  omega
/-- how many places hold a value that stands nowhere ahead -/
def unP (fv : Nat → Int32) (n : Nat) : Int := sI (fun q => if ∀ p, p < q → (fv p).toInt ≠ (fv q).toInt then 1 else 0) n
theorem unP_s {cn cn1 x : Int} (h : 0 ≤ pl) (hp : pl < sz) (hc : cn = unP fv pl.toNat) (hf : (z = -10000 ∧ ∀ q : Nat, (q : Int) < sz → (fv q).toInt ≠ x) ∨ ((0 ≤ z ∧ z < sz) ∧ (fv z.toNat).toInt = x ∧ ∀ q : Nat, (q : Int) < z → (fv q).toInt ≠ x)) (hx : x = (fv pl.toNat).toInt) (h1 : (z = pl ∧ cn1 = cn + 1) ∨ (z ≠ pl ∧ cn1 = cn)) : cn1 = unP fv (pl + 1).toNat := by
  rw [show (pl + 1).toNat = pl.toNat + 1 by omega]
  have e : unP fv (pl.toNat + 1) = unP fv pl.toNat + (if ∀ p, p < pl.toNat → (fv p).toInt ≠ (fv pl.toNat).toInt then 1 else 0) := rfl
  rw [e, ← hc, ← hx]
  rcases hf with ⟨a1, a2⟩ | ⟨a1, a2, a3⟩
  · exact absurd hx.symm (a2 pl.toNat (by omega))
  · by_cases q : z = pl
    · subst q
      rw [if_pos (fun p hp2 => a3 p (by omega))]; omega
    · have h2 : ¬ ∀ p, p < pl.toNat → (fv p).toInt ≠ x := fun g => by
        have h3 : ¬ pl < z := fun y => a3 pl.toNat (by omega) hx.symm
        exact g z.toNat (by omega) a2
      rw [if_neg h2]; omega
theorem sz_like (hV : BV o V sz.toNat fk fv) (hV2 : BV o2 V2 sz2.toNat fk2 fv2) (h0 : 0 ≤ sz) (h1 : 0 ≤ sz2) (h : ∀ k, k < 100 → V k = V2 k) : sz = sz2 := by
  have c1 := hV.cnt
  have c2 := hV2.cnt
  rw [cntV_cg h, c2] at c1
  omega
theorem smP_all (hV : BV o V sz.toNat fk fv) : smP fv 0 sz.toNat = sI (fun k => if V k ≠ -10000 then V k else 0) 100 := by
  rw [← hV.sum V, smP]
  exact sI_congr (fun p hp => by rw [if_pos (by omega), (hV.v hp).1])
theorem sm_like (hV : BV o V sz.toNat fk fv) (hV2 : BV o2 V2 sz2.toNat fk2 fv2) (h0 : 0 ≤ sz) (h1 : 0 ≤ sz2) (h : ∀ k, k < 100 → V k = V2 k) : smP fv 0 sz.toNat = smP fv2 0 sz2.toNat := by
  rw [smP_all hV, smP_all hV2]
  exact sI_congr (fun k hk => by rw [h k hk])
theorem io_ah (hV : BV o V sz.toNat fk fv) (h0 : 0 ≤ pl) (h1 : pl < sz) : 0 < pl → cwN o (kN fk (pl - 1).toNat) < cwN o (kN fk pl.toNat) := fun h2 => hV.so (by omega) (by omega)
theorem io_pl (hV : BV o V sz.toNat fk fv) (h0 : 0 ≤ pl) (h1 : pl < sz) : plW o sz.toNat fk (cwN o (kN fk pl.toNat)) pl.toNat := by
  refine ⟨by omega, fun q hq => ⟨fun h => ?_, fun h => ?_⟩⟩
  · by_cases e : q < pl.toNat
    · exact e
    · by_cases e2 : q = pl.toNat
      · subst e2; omega
      · have := hV.so (p := pl.toNat) (q := q) (by omega) hq
        omega
  · have := hV.so h (by omega)
    omega
theorem io_cl (hV : BV o V sz.toNat fk fv) (h0 : 0 ≤ pl) (h1 : pl < sz) (h : clB o sz.toNat fk (cwN o (kN fk pl.toNat)) 0 0 sz z) : (pl = 0 ∧ z = -10000) ∨ (0 < pl ∧ z = (fk (pl - 1).toNat).toInt) := by
  have hp := io_pl hV h0 h1
  have c : ∀ r : Nat, r < sz.toNat → (cndB o (cwN o (kN fk pl.toNat)) 0 (kN fk r) ↔ (r : Int) < pl) := fun r hr => by
    have g := hp.2 r hr
    constructor
    · rintro (⟨a, b⟩ | ⟨a, b⟩ | ⟨a, b⟩ | ⟨a, b⟩)
      · have := g.mp b; omega
      · omega
      · omega
      · omega
    · intro x
      exact Or.inl ⟨rfl, g.mpr (by omega)⟩
  rcases h with ⟨a1, a2⟩ | ⟨q, a1, a2, a3, a4, a5⟩
  · by_cases e : pl = 0
    · exact Or.inl ⟨e, a1⟩
    · exact absurd ((c (pl - 1).toNat (by omega)).mpr (by omega)) (a2 (pl - 1).toNat (by omega) (by omega))
  · have h2 := (c q a1).mp a4
    refine Or.inr ⟨by omega, ?_⟩
    have h3 := (a5 (pl - 1).toNat (by omega) (by omega) ((c _ (by omega)).mpr (by omega))).1 (by omega)
    rw [a3, show (pl - 1).toNat = q by omega]
end FMORE
