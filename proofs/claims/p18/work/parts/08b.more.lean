/-! what an object of the class is: its calls' ends -/
section RGS2
variable {G : xG} {M M1 : HM} {h0 bs vs i y w : Nat} {og : Option Nat} {kk kv rf : Int32} {qb qk qv : Nat → Nat} {fb fv : Nat → Option Nat} {O : Nat → Nat} {W : VW} {V : BW} {T C : Nat → Int} {K : WA} {F F2 : Nat → Int} {t : VT} {ps cd tw kw ps1 cd1 tw1 z c1 N : Int}
theorem upV_upV {A : Nat → Int} {i : Nat} {x x2 : Int} : upV (upV A i x) i x2 = upV A i x2 := by
  funext j
  by_cases e : j = i
  · subst e; rw [upV_s, upV_s]
  · rw [upV_n _ _ e, upV_n _ _ e, upV_n _ _ e]
theorem abK_new {T C : Nat → Int} {t : VT} {c : Int} (h : c = C t.b) : abK T C (some (t, -10000, 0, 0, c)) = some (t, -10000, 0, 0, 0) := by
  simp only [abK]
  rw [if_neg (by omega), if_pos h]
theorem kS_ab : kS (abK T C (some (t, ps, cd, tw, kw))) = 1 ↔ kw = C t.b := by
  simp only [abK]
  rw [kS_some]
  by_cases e : kw = C t.b
  · rw [if_pos e]; exact ⟨fun _ => e, fun _ => rfl⟩
  · rw [if_neg e]; exact ⟨fun q => by omega, fun q => absurd q e⟩
theorem kS_none : kS (abK T C none) = 0 := rfl
theorem kH_ab : kH (abK T C (some (t, ps, cd, tw, kw))) = if cd = 1 ∧ tw = T t.b then 1 else 0 := rfl
theorem kC_ab : kC (abK T C (some (t, ps, cd, tw, kw))) = cd := rfl
theorem kB_ab : kB (abK T C (some (t, ps, cd, tw, kw))) = if kw = C t.b then 0 else 1 := rfl
theorem kP_ab : kP (abK T C (some (t, ps, cd, tw, kw))) = ps := rfl
theorem WkG.step (hg : WkG O T C (some (t, ps, cd, tw, kw))) (ht : 0 ≤ T t.b) {x : Int} (hz : z = clF O V t x 1 100) (hx : (z = -10000 ∧ ps1 = ps ∧ tw1 = tw ∧ cd1 = cd) ∨ (z ≠ -10000 ∧ ps1 = z ∧ tw1 = T t.b ∧ cd1 = 1)) : WkG O T C (some (t, ps1, cd1, tw1, kw)) := by
  rcases hx with ⟨-, rfl, rfl, rfl⟩ | ⟨h, rfl, rfl, rfl⟩
  · exact hg
  · obtain ⟨g1, g2, g3, g4, g5⟩ := hg
    rcases clF_Q O V t x 1 100 with ⟨a1, -⟩ | ⟨a1, a2, a3, a4, a5⟩
    · exact absurd (hz.trans a1) h
    · rw [← hz] at a1 a2 a3
      exact ⟨⟨ht, by omega⟩, g2, Or.inr ⟨⟨a1, by omega⟩, (shM_iff.mp a3).2⟩, fun _ => h, Or.inr rfl⟩
theorem RG.step (h : RGx G M1 h0 bs vs og kk kv rf qb qk qv fb fv O O W V T C (some (t, ps1, cd1, tw1, kw))) (hkw : kw = C t.b) (hz : z = clF O V t (rcW O t ps) 1 100) (hx : (z = -10000 ∧ ps1 = ps ∧ tw1 = tw ∧ cd1 = cd) ∨ (z ≠ -10000 ∧ ps1 = z ∧ tw1 = T t.b ∧ cd1 = 1)) (hb : cbN N T C) (hN : N ≤ 599) :
    z = A_step (O, V, W, abK T C (some (t, ps, cd, tw, kw)), kk, kv, rf) ∧ RG G M1 h0 (N + 1) (S_step (O, V, W, abK T C (some (t, ps, cd, tw, kw)), kk, kv, rf)) := by
  have hA : A_step (O, V, W, abK T C (some (t, ps, cd, tw, kw)), kk, kv, rf) = z := hz.symm
  refine ⟨hA.symm, ?_⟩
  have g := RG.of h hb (show N ≤ N + 1 by omega) (by omega)
  simp only [S_step, hA]
  rcases hx with ⟨e, h1, h2, h3⟩ | ⟨e, h1, h2, h3⟩
  · rw [if_pos e]; rw [h1, h2, h3] at g; exact g
  · rw [if_neg e]
    have e2 : abK T C (some (t, ps1, cd1, tw1, kw)) = some (t, z, 1, 1, kB (abK T C (some (t, ps, cd, tw, kw)))) := by
      show some (t, ps1, cd1, (if cd1 = 1 ∧ tw1 = T t.b then 1 else 0), (if kw = C t.b then 0 else 1)) = _
      rw [if_pos ⟨h3, h2⟩, h1, h3, kB_ab]
    rw [e2] at g
    exact g
theorem RG.write (h : RGx G M1 h0 bs vs og kk kv rf qb qk qv fb fv O O W (upB V t.b (upV (V t.b) ps.toNat z)) T (upV C t.b c1) (some (t, ps, cd, tw, kw))) (hkw : kw = C t.b) (hc1 : V t.b ps.toNat = -10000 → c1 = C t.b + 1) (hc2 : V t.b ps.toNat ≠ -10000 → c1 = C t.b) (hi : t.b < 3) (hb : cbN N T C) (hN : N ≤ 599) : RG G M1 h0 (N + 1) (S_write (O, V, W, abK T C (some (t, ps, cd, tw, kw)), kk, kv, rf) z) := by
  have hb2 : cbN (N + 1) (upV T t.b (T t.b)) (upV C t.b c1) := hb.up (by omega) hi (by omega) (by omega) (by by_cases e : V t.b ps.toNat = -10000; (· have := hc1 e; omega); (· have := hc2 e; omega)) (by by_cases e : V t.b ps.toNat = -10000; (· have := hc1 e; omega); (· have := hc2 e; omega))
  rw [upV_same] at hb2
  have g := RG.of h hb2 (Int.le_refl _) (by omega)
  have e : abK T (upV C t.b c1) (some (t, ps, cd, tw, kw)) = some (t, ps, cd, kH (abK T C (some (t, ps, cd, tw, kw))), if V t.b ps.toNat = -10000 then 1 else 0) := by
    rw [kH_ab]
    show some (t, ps, cd, (if cd = 1 ∧ tw = T t.b then 1 else 0), (if kw = upV C t.b c1 t.b then 0 else 1)) = _
    rw [upV_s]
    by_cases q : V t.b ps.toNat = -10000
    · rw [show (if kw = c1 then (0 : Int) else 1) = 1 from if_neg (by have := hc1 q; omega), show (if V t.b ps.toNat = -10000 then (1 : Int) else 0) = 1 from if_pos q]
    · rw [show (if kw = c1 then (0 : Int) else 1) = 0 from if_pos (by have := hc2 q; omega), show (if V t.b ps.toNat = -10000 then (1 : Int) else 0) = 0 from if_neg q]
  rw [e] at g
  exact g
theorem RG.drop {m : Int} (h : RGx G M1 h0 bs vs og kk kv rf qb qk qv fb fv O O W (upB V t.b (upV (V t.b) ps.toNat (-10000))) T (upV C t.b c1) (some (t, ps, 0, tw, c1))) (hk : kcs (V t.b) F (C t.b) c1 m) (hm : m ≤ 150) (hi : t.b < 3) (hb : cbN N T C) (hN : N ≤ 599) : RG G M1 h0 (N + 1) (S_drop (O, V, W, abK T C (some (t, ps, cd, tw, kw)), kk, kv, rf)) := by
  have hb2 : cbN (N + 1) (upV T t.b (T t.b)) (upV C t.b c1) := hb.up (by omega) hi (by omega) (by omega) (by have := hk.2.1; omega) hk.1
  rw [upV_same] at hb2
  have g := RG.of h hb2 (Int.le_refl _) (by omega)
  have e : abK T (upV C t.b c1) (some (t, ps, 0, tw, c1)) = some (t, ps, 0, 0, 0) := by
    show some (t, ps, (0 : Int), (if (0 : Int) = 1 ∧ tw = T t.b then 1 else 0), (if c1 = upV C t.b c1 t.b then 0 else 1)) = _
    rw [upV_s, if_neg (by omega), if_pos rfl]
  rw [e] at g
  exact g
/-- a whole book as a view -/
theorem whT_ok {b : Nat} (h : b < 3) : (whT b).ok := ⟨h, Or.inl rfl, Or.inl rfl, Or.inl rfl, Or.inl rfl⟩
section
variable {o : Nat} {X : Nat → Int} {fk fw : Nat → Int32} {sz st en : Int}
theorem wh_st : plW o sz.toNat fk (swN o (whT i).lo (whT i).li) (0 : Int).toNat := by
  refine ⟨Nat.zero_le _, fun q hq => ⟨fun h => ?_, fun h => absurd h (Nat.not_lt_zero _)⟩⟩
  have e : swN o (whT i).lo (whT i).li = 0 := rfl
  rw [e] at h; omega
theorem wh_en (ho : o < 3) (hV : BV o X sz.toNat fk fw) : plW o sz.toNat fk (ewN o (whT i).lo (whT i).li (whT i).up (whT i).ui) sz.toNat := by
  refine ⟨Nat.le_refl _, fun q hq => ⟨fun _ => hq, fun _ => ?_⟩⟩
  have e : ewN o (whT i).lo (whT i).li (whT i).up (whT i).ui = 1024 := rfl
  rw [e]
  have := cw_lt ho (hV.k hq).2.1
  omega
theorem wh_end {last : Int} (hO : O i < 3) (hi : i < 3) (hV : BV (O i) (V i) sz.toNat fk fw) (hs : 0 ≤ sz) (h : (sz ≤ 0 ∧ z = -10000) ∨ (0 < sz ∧ last = 0 ∧ z = (fk (0 : Int).toNat).toInt) ∨ (0 < sz ∧ last ≠ 0 ∧ z = (fk (sz - 1).toNat).toInt)) : z = endF O V (whT i) last :=
  endP (t := whT i) hO (whT_ok hi) hV wh_st (wh_en hO hV) (Int.le_refl 0) hs h
theorem wh_mn (hO : O i < 3) (hi : i < 3) (hV : BV (O i) (V i) sz.toNat fk fw) (hs : 0 ≤ sz) : sz = mnF O V (whT i) 100 := by
  have := mnP (t := whT i) hO (whT_ok hi) hV wh_st (wh_en hO hV) (Int.le_refl 0) hs
  omega
theorem wh_sm (hO : O i < 3) (hi : i < 3) (hV : BV (O i) (V i) sz.toNat fk fw) (hs : 0 ≤ sz) : smP fw 0 sz.toNat = smF O V (whT i) 100 := smPF (t := whT i) hO (whT_ok hi) hV wh_st (wh_en hO hV) (Int.le_refl 0) hs
theorem wh_nr {what : Int} {key : Nat} (hO : O i < 3) (hi : i < 3) (hV : BV (O i) (V i) sz.toNat fk fw) (hs : 0 ≤ sz) (hkey : key < 100) (hw : 0 ≤ what ∧ what ≤ 3) (h : clB (O i) sz.toNat fk (cwN (O i) key) what 0 sz z) : z = nrF O V (whT i) key what := clB_F (t := whT i) hO (whT_ok hi) hV wh_st (wh_en hO hV) (Int.le_refl 0) hs hkey hw h
/-- the keys that a view shows are struck -/
theorem sa1 (hO : O t.b < 3) (ht : t.ok) (hV : BV (O t.b) (V t.b) sz.toNat fk fw) (hst : plW (O t.b) sz.toNat fk (swN (O t.b) t.lo t.li) st.toNat) (hen : plW (O t.b) sz.toNat fk (ewN (O t.b) t.lo t.li t.up t.ui) en.toNat) (h0 : 0 ≤ st) (h1 : 0 ≤ en) : ∀ q, q < sz.toNat → mapN (V t.b) (F_sa O V t) 100 (kN fk q) = if st ≤ (q : Int) ∧ (q : Int) < en then -10000 else V t.b (kN fk q) := fun q hq => by
  have hk := (hV.k hq).2.1
  have g := shP hO ht hV hst hen h0 h1 hq
  rw [mapN_lt hk]
  simp only [F_sa]
  by_cases e : st ≤ (q : Int) ∧ (q : Int) < en
  · rw [if_pos e, if_pos (g.mp e)]
  · rw [if_neg e, if_neg (fun x => e (g.mpr x))]
theorem sa2 : ∀ k, k < 100 → V t.b k = -10000 → mapN (V t.b) (F_sa O V t) 100 k = -10000 := fun k hk h => by
  rw [mapN_lt hk]; simp only [F_sa]; split
  · rfl
  · exact h
/-- places of keys -/
theorem ah_F (hO : O i < 3) {k : Nat} (hk : k < 100) : ahF O V i k 100 = ahV (O i) (V i) (cwN (O i) k) := sI_congr (fun j hj => by
  have c := cw_mw hO hj hk
  by_cases e : V i j ≠ -10000
  · by_cases q : mwN (O i) j < mwN (O i) k
    · rw [if_pos ⟨shM_wh.mpr e, q⟩, if_pos ⟨e, by have := c.mpr q; omega⟩]
    · rw [if_neg (fun x => q x.2), if_neg (fun x => q (c.mp (by have := x.2; omega)))]
  · rw [if_neg (fun x => e (shM_wh.mp x.1)), if_neg (fun x => e x.1)])
theorem ah_pl (hO : O i < 3) (hV : BV (O i) (V i) sz.toNat fk fw) {k : Nat} (hk : k < 100) {z : Int} (h0 : 0 ≤ z) (hz : plW (O i) sz.toNat fk (cwN (O i) k) z.toNat) : z = ahF O V i k 100 := by
  rw [ah_F hO hk, hV.ah hz]; omega
theorem at_Q (hO : O i < 3) (hV : BV (O i) (V i) sz.toNat fk fw) {pl : Int} (h0 : 0 ≤ pl) (hz : (sz ≤ pl ∧ z = -10000) ∨ (pl < sz ∧ z = (fk pl.toNat).toInt)) : atQ O V i pl z := by
  have at1 : ∀ q : Nat, q < sz.toNat → ahF O V i (kN fk q) 100 = q := fun q hq => by
    have h := io_pl hV (pl := (q : Int)) (by omega) (by omega)
    rw [Int.toNat_natCast] at h
    rw [ah_F hO (hV.k hq).2.1, hV.ah h]
  rcases hz with ⟨h1, rfl⟩ | ⟨h1, rfl⟩
  · refine Or.inl ⟨rfl, fun k hk hv => ?_⟩
    obtain ⟨p, hp, rfl⟩ := hV.at hk hv
    rw [at1 p hp]; omega
  · have hk := hV.k (p := pl.toNat) (by omega)
    refine Or.inr ⟨hk.1, (hV.v (p := pl.toNat) (by omega)).2, ?_⟩
    rw [show ((fk pl.toNat).toInt).toNat = kN fk pl.toNat from rfl, at1 _ (by omega)]; omega
/-- the one key with a value is struck -/
theorem cvN_2 {X : Nat → Int} {v : Int} : ∀ {n k j : Nat}, k < j → j < n → X k = v → X j = v → 2 ≤ cvN X v n
  | 0, k, j, _, hj, _, _ => absurd hj (Nat.not_lt_zero j)
  | n + 1, k, j, hkj, hj, hk, hj2 => by
    have e : cvN X v (n + 1) = cvN X v n + (if X n = v then 1 else 0) := rfl
    have nn : ∀ m, 0 ≤ cvN X v m := fun m => (sI_rng (c := 1) (by omega) (fun k _ => by split <;> omega)).1
    by_cases q : j = n
    · subst q
      rw [e, if_pos hj2]
      have one : ∀ m, k < m → 1 ≤ cvN X v m := fun m => by
        induction m with
        | zero => intro h; omega
        | succ m ih =>
          intro h
          have e2 : cvN X v (m + 1) = cvN X v m + (if X m = v then 1 else 0) := rfl
          have := nn m
          by_cases q2 : k = m
          · subst q2; rw [e2, if_pos hk]; omega
          · have := ih (by omega)
            rw [e2]; split <;> omega
      have := one j hkj
      omega
    · have := cvN_2 (X := X) (v := v) (n := n) hkj (by omega) hk hj2
      rw [e]; split <;> omega
theorem cvP_no {fv : Nat → Int32} {v : Int} {n : Nat} (h : ∀ q, q < n → (fv q).toInt ≠ v) : cvP fv v n = 0 := by
  rw [cvP, sI_congr (g := fun _ => 0) (fun q hq => if_neg (h q hq)), sI_zero]
theorem cvP_at {fv : Nat → Int32} {v : Int} : ∀ {n q : Nat}, q < n → (fv q).toInt = v → 1 ≤ cvP fv v n
  | 0, q, hq, _ => absurd hq (Nat.not_lt_zero q)
  | n + 1, q, hq, h => by
    have e : cvP fv v (n + 1) = cvP fv v n + (if (fv n).toInt = v then 1 else 0) := rfl
    have nn : 0 ≤ cvP fv v n := (sI_rng (c := 1) (by omega) (fun k _ => by split <;> omega)).1
    by_cases x : q = n
    · subst x; rw [e, if_pos h]; omega
    · have := cvP_at (fv := fv) (v := v) (n := n) (q := q) (by omega) h
      rw [e]; split <;> omega
theorem cvN_at {X : Nat → Int} {v : Int} : ∀ {n k : Nat}, k < n → X k = v → 1 ≤ cvN X v n
  | 0, k, hk, _ => absurd hk (Nat.not_lt_zero k)
  | n + 1, k, hk, h => by
    have e : cvN X v (n + 1) = cvN X v n + (if X n = v then 1 else 0) := rfl
    have nn : 0 ≤ cvN X v n := (sI_rng (c := 1) (by omega) (fun k _ => by split <;> omega)).1
    by_cases q : k = n
    · subst q; rw [e, if_pos h]; omega
    · have := cvN_at (X := X) (v := v) (n := n) (k := k) (by omega) h
      rw [e]; split <;> omega
theorem sv_0 {X : Nat → Int} {v : Int} (h : cvN X v 100 = 0) : X = mapN X (F_sv X v) 100 := by
  funext k
  by_cases hk : k < 100
  · rw [mapN_lt hk]; simp only [F_sv]
    rw [if_neg (fun q => by have := cvN_at hk q; omega)]
  · rw [mapN_ge (by omega)]
theorem sv_1 {X : Nat → Int} {v : Int} (h : cvN X v 100 ≤ 1) {z : Int} (hz : 0 ≤ z ∧ z ≤ 99) (hv : X z.toNat = v) : rmV X z = mapN X (F_sv X v) 100 := by
  rw [rmV_1 (by omega)]
  funext k
  by_cases e : k = z.toNat
  · subst e; rw [upV_s, mapN_lt (by omega)]; simp only [F_sv]; rw [if_pos hv]
  · rw [upV_n _ _ e]
    by_cases hk : k < 100
    · rw [mapN_lt hk]; simp only [F_sv]
      rw [if_neg (fun q => ?_)]
      rcases Nat.lt_or_gt_of_ne e with g | g
      · have := cvN_2 (X := X) (v := v) (n := 100) g (by omega) q hv; omega
      · have := cvN_2 (X := X) (v := v) (n := 100) g hk hv q; omega
    · rw [mapN_ge (by omega)]
end
end RGS2
