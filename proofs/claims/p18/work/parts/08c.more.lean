/-! what an object of the class is: copies, drops, ends of views, unlike values -/
section RGS3
theorem sw_end {o : Nat} {p0 p1 s : Int} (h : (p0 = -10000 ∧ s = 0) ∨ (p0 ≠ -10000 ∧ s = (cwN o p0.toNat : Int) + 1 - p1)) : swN o p0 p1 = s := by
  simp only [swN]
  rcases h with ⟨h, h'⟩ | ⟨h, h'⟩
  · rw [if_pos h, h']
  · rw [if_neg h, h']
theorem ew_end {o : Nat} {p0 p1 p2 p3 s e z : Int} (e1 : swN o p0 p1 = s) (h2 : (p2 = -10000 ∧ e = 1024) ∨ (p2 ≠ -10000 ∧ e = (cwN o p2.toNat : Int) + p3)) (hz : (e ≤ s ∧ z = s) ∨ (s < e ∧ z = e)) : ewN o p0 p1 p2 p3 = z := by
  have h3 : (if p2 = -10000 then (1024 : Int) else (cwN o p2.toNat : Int) + p3) = e := by
    rcases h2 with ⟨h, h'⟩ | ⟨h, h'⟩
    · rw [if_pos h, h']
    · rw [if_neg h, h']
  simp only [ewN]
  rw [h3, e1]
  rcases hz with ⟨h, h'⟩ | ⟨h, h'⟩
  · by_cases h4 : s ≤ e
    · rw [if_pos h4]; omega
    · rw [if_neg h4]; omega
  · rw [if_pos (by omega)]; omega
theorem vi_eq {a a2 b b2 : Int} {X : Prop} (h1 : a = a2) (h2 : a = a2 → b = b2) (h3 : a = a2 → b = b2 → X) : X := h3 h1 (h2 h1)
variable {G : xG} {M M1 : HM} {h0 bs vs i j y w : Nat} {og : Option Nat} {kk kv rf : Int32} {qb qk qv : Nat → Nat} {fb fv : Nat → Option Nat} {O P : Nat → Nat} {W : VW} {V V2 : BW} {T C : Nat → Int} {K K2 : WA} {F F2 : Nat → Int} {t : VT} {ps cd tw kw z c1 N p0 p1 : Int}
theorem RGx.reV (h : RGx G M h0 bs vs og kk kv rf qb qk qv fb fv O P W V T C K) (e : ∀ j, j < 3 → ∀ k, k < 100 → V2 j k = V j k) : RGx G M h0 bs vs og kk kv rf qb qk qv fb fv O P W V2 T C K := by
  obtain ⟨h1, h2, h3, h4, h5, h6, h7, h8, h9, h10, h11⟩ := h
  refine ⟨h1, h2, h3, h4, h5, fun j hj => ?_, h7, h8, h9, h10, h11⟩
  obtain ⟨a1, a2, a3, a4, a5⟩ := h6 j hj
  exact ⟨a1, a2, a3, a4, a5.cg (e j hj)⟩
theorem abK_cp_ne (h : t.b ≠ i) : abK T (upV C i c1) (some (t, ps, cd, tw, kw)) = cpK (abK T C (some (t, ps, cd, tw, kw))) i := by
  simp only [abK, cpK]
  rw [upV_n _ _ h, if_neg h]
theorem abK_cp_eq (h : t.b = i) : abK T (upV C i c1) none = cpK (abK T C (some (t, ps, cd, tw, kw))) i := by
  simp only [abK, cpK]
  rw [if_pos h]
theorem RG.copy (h : RGx G M h0 bs vs og kk kv rf qb qk qv fb fv (upO O p1.toNat (O p0.toNat)) (upO O p1.toNat (O p0.toNat)) (shN W p1.toNat 4) (upB V p1.toNat (V p0.toNat)) T (upV C p1.toNat c1) K2) (ek : abK T (upV C p1.toNat c1) K2 = cpK (abK T C K) p1.toNat) (hi : p1.toNat < 3) (hc : C p1.toNat ≤ c1) (hc2 : c1 ≤ C p1.toNat + 101) (hb : cbN N T C) (hN : N ≤ 599) : RG G M h0 (N + 1) (S_copy (O, V, W, abK T C K, kk, kv, rf) p0 p1) := by
  have hb2 : cbN (N + 1) (upV T p1.toNat (T p1.toNat)) (upV C p1.toNat c1) := hb.up (by omega) hi (by omega) (by omega) (by omega) hc
  rw [upV_same] at hb2
  have h2 : RGx G M h0 bs vs og kk kv rf qb qk qv fb fv (upO O p1.toNat (O p0.toNat)) (upO O p1.toNat (O p0.toNat)) (shN W p1.toNat 4) (upB V p1.toNat (mapN (V p1.toNat) (V p0.toNat) 100)) T (upV C p1.toNat c1) K2 := h.reV (fun j hj k hk => by
    by_cases e : j = p1.toNat
    · subst e; rw [upB_s, upB_s, mapN_lt hk]
    · rw [upB_n _ _ e, upB_n _ _ e])
  have g := RG.of h2 hb2 (Int.le_refl _) (by omega)
  rw [ek] at g
  exact g
theorem WkG.dropped (hg : WkG P T C (some (t, ps, cd, tw, kw))) (hc : C t.b ≤ c1) (h0 : 0 ≤ C t.b) : WkG P T (upV C t.b c1) (some (t, ps, 0, tw, c1)) := by
  obtain ⟨g1, g2, g3, g4, g5⟩ := hg
  exact ⟨g1, ⟨by omega, by rw [upV_s]; omega⟩, g3, fun q => by omega, Or.inl rfl⟩
theorem RGx.wy {ps1 tw1 kw1 cd1 : Int} (h : RGx G M h0 bs vs (some w) kk kv rf qb qk qv fb fv O P W V T C (some (t, ps, cd, tw, kw))) (hW : Wk M w y (iN (ps1)) (iN (tw1)) (iN (kw1)) cd1) : VwT M y qb P t := by
  obtain ⟨y0, g1, g2⟩ := h.wk
  have e0 : y0 = y := by
    have e1 := g1.1
    rw [hW.1] at e1
    exact (Value.ref.inj (List.cons.inj (Prod.mk.inj (Sum.inr.inj (Option.some.inj e1))).2).1).symm
  subst e0
  exact g2
section
variable {o : Nat} {X : Nat → Int} {fk fw : Nat → Int32} {sz st en n last : Int}
theorem vw_end (hO : O t.b < 3) (ht : t.ok) (hV : BV (O t.b) (V t.b) sz.toNat fk fw) (hs : 0 ≤ sz) (hm : n = mnF O V t 100) (h : (n = 0 ∧ z = -10000) ∨ (n ≠ 0 ∧ last = 0 ∧ ∃ st : Int, plW (O t.b) sz.toNat fk (swN (O t.b) t.lo t.li) st.toNat ∧ 0 ≤ st ∧ (0 ≤ st ∧ st < sz → z = (fk st.toNat).toInt)) ∨ (n ≠ 0 ∧ last ≠ 0 ∧ ∃ en : Int, plW (O t.b) sz.toNat fk (ewN (O t.b) t.lo t.li t.up t.ui) en.toNat ∧ 0 ≤ en ∧ (0 ≤ en - 1 ∧ en - 1 < sz → z = (fk (en - 1).toNat).toInt))) : z = endF O V t last := by
  obtain ⟨st, hst0, hst⟩ := plW_ex hV hs (swN (O t.b) t.lo t.li)
  obtain ⟨en, hen0, hen⟩ := plW_ex hV hs (ewN (O t.b) t.lo t.li t.up t.ui)
  have hse := pl_mono hst hen (sw_le_ew (O t.b) t)
  have hmn := mnP hO ht hV hst hen hst0 (by omega)
  have e1 := hst.1
  have e2 := hen.1
  refine endP hO ht hV hst hen hst0 hen0 ?_
  rcases h with ⟨a, b⟩ | ⟨a, b, st2, c, d, e⟩ | ⟨a, b, en2, c, d, e⟩
  · exact Or.inl ⟨by omega, b⟩
  · have q := plW_uniq hst c
    obtain rfl : st2 = st := by omega
    exact Or.inr (Or.inl ⟨by omega, b, e (by omega)⟩)
  · have q := plW_uniq hen c
    obtain rfl : en2 = en := by omega
    exact Or.inr (Or.inr ⟨by omega, b, e (by omega)⟩)
theorem wh_vl (hO : O i < 3) (hi : i < 3) (hV : BV (O i) (V i) sz.toNat fk fw) (hs : 0 ≤ sz) (h : (sz ≤ 0 ∧ z = -10000) ∨ (0 < sz ∧ last = 0 ∧ z = (fw (0 : Int).toNat).toInt) ∨ (0 < sz ∧ last ≠ 0 ∧ z = (fw (sz - 1).toNat).toInt)) : z = vlF (V i) (endF O V (whT i) last) := by
  rcases h with ⟨a, b⟩ | ⟨a, b, c⟩ | ⟨a, b, c⟩
  · rw [← wh_end (z := -10000) (last := last) hO hi hV hs (Or.inl ⟨a, rfl⟩)]
    exact b
  · have k := hV.k (p := (0 : Int).toNat) (by omega)
    rw [← wh_end (z := (fk (0 : Int).toNat).toInt) (last := last) hO hi hV hs (Or.inr (Or.inl ⟨a, b, rfl⟩))]
    simp only [vlF]
    rw [if_neg (by omega), c, (hV.v (p := (0 : Int).toNat) (by omega)).1]
  · have k := hV.k (p := (sz - 1).toNat) (by omega)
    rw [← wh_end (z := (fk (sz - 1).toNat).toInt) (last := last) hO hi hV hs (Or.inr (Or.inr ⟨a, b, rfl⟩))]
    simp only [vlF]
    rw [if_neg (by omega), c, (hV.v (p := (sz - 1).toNat) (by omega)).1]
end
end RGS3
section UNLIKE
/-- how many of the first N numbers from a on are values of f among its first n -/
def hvB (f : Nat → Int) (n : Nat) (v : Int) : Int := sI (fun p => if f p = v then 1 else 0) n
theorem sI_swap (f : Nat → Nat → Int) : ∀ (n m : Nat), sI (fun a => sI (fun b => f a b) m) n = sI (fun b => sI (fun a => f a b) n) m
  | 0, m => by simp only [sI]; rw [sI_zero]
  | n + 1, m => by
    have ih := sI_swap f n m
    simp only [sI]
    rw [ih]
    have add : ∀ (k : Nat) (u v : Nat → Int), sI u k + sI v k = sI (fun b => u b + v b) k := fun k u v => by
      induction k with
      | zero => rfl
      | succ k ih => simp only [sI]; rw [← ih]; omega
    rw [add]
/-- one place alone says yes -/
theorem sI_one {f : Nat → Int} : ∀ {n k : Nat}, k < n → f k = 1 → (∀ j, j < n → j ≠ k → f j = 0) → sI f n = 1
  | 0, k, hk, _, _ => absurd hk (Nat.not_lt_zero k)
  | n + 1, k, hk, h1, h2 => by
    simp only [sI]
    by_cases e : k = n
    · subst e
      rw [sI_congr (g := fun _ => 0) (fun j hj => h2 j (by omega) (by omega)), sI_zero, h1]; rfl
    · rw [sI_one (n := n) (k := k) (by omega) h1 (fun j hj hn => h2 j (by omega) hn), h2 n (Nat.lt_succ_self n) (fun q => e q.symm)]; rfl
/-- values by numbers from 0 on -/
def vN (x : Int) : Nat := (x + 9999).toNat
theorem cnt_of {f : Nat → Int} {n : Nat} (X : Nat → Prop) [DecidablePred X] (hr : ∀ p, p < n → -9999 ≤ f p ∧ f p ≤ 9999) (hu : ∀ p q, p < n → q < n → X p → X q → f p = f q → p = q) (he : ∀ p, p < n → ∃ q, q < n ∧ X q ∧ f q = f p) :
    sI (fun p => if X p then 1 else 0) n = sI (fun v => if ∃ p, p < n ∧ vN (f p) = v then 1 else 0) 19999 := by
  have a : ∀ p, p < n → (if X p then (1 : Int) else 0) = sI (fun v => if X p ∧ vN (f p) = v then 1 else 0) 19999 := fun p hp => by
    have h := hr p hp
    by_cases x : X p
    · rw [if_pos x, sI_one (k := vN (f p)) (by simp only [vN]; omega) (if_pos ⟨x, rfl⟩) (fun j _ hn => if_neg (fun q => hn q.2.symm))]
    · rw [if_neg x, sI_congr (g := fun _ => 0) (fun v _ => if_neg (fun q => x q.1)), sI_zero]
  rw [sI_congr (fun p hp => a p hp), sI_swap]
  refine sI_congr (fun v _ => ?_)
  by_cases e : ∃ p, p < n ∧ vN (f p) = v
  · rw [if_pos e]
    obtain ⟨p, hp, hv⟩ := e
    obtain ⟨q, hq, xq, hqp⟩ := he p hp
    refine sI_one (k := q) hq (if_pos ⟨xq, by rw [hqp]; exact hv⟩) (fun r hr2 hn => if_neg (fun x => hn ?_))
    refine hu r q hr2 hq x.1 xq ?_
    have h1 := hr r hr2
    have h2 := hr q hq
    have h3 := x.2
    have h4 := hv
    rw [← hqp] at h4
    simp only [vN] at h3 h4
    omega
  · rw [if_neg e, sI_congr (g := fun _ => 0) (fun p hp => if_neg (fun x => e ⟨p, hp, x.2⟩)), sI_zero]
end UNLIKE
