/-! the reference's loops, call by call -/
section MLOOPS
variable {O : OW} {V V1 : BW} {t : VT} {wt : Option VT} {b : Nat} {F : Nat → Int} {j x w bs bs1 z v br br1 ha ha1 re la : Int} {K : WA}
/-- whether a key is shown, as a number -/
def shI (O : OW) (V : BW) (t : VT) (k : Nat) : Int := if shM O V t k = true then 1 else 0
theorem shI_01 (O : OW) (V : BW) (t : VT) (k : Nat) : shI O V t k = 0 ∨ shI O V t k = 1 := by
  simp only [shI]; split <;> simp
theorem shI_iff {k : Nat} : shI O V t k = 1 ↔ (V t.b k ≠ -10000 ∧ inI (O t.b) t k = 1) := by
  simp only [shI]
  by_cases e : shM O V t k = true
  · rw [if_pos e]; rw [shM_iff] at e; exact ⟨fun _ => ⟨e.1, inI_iff.mpr e.2⟩, fun _ => rfl⟩
  · rw [if_neg e]; rw [shM_iff] at e; exact ⟨fun q => by omega, fun q => absurd ⟨q.1, inI_iff.mp q.2⟩ e⟩
theorem shI_wh {k : Nat} : shI O V (whT b) k = 1 ↔ V b k ≠ -10000 := by
  simp only [shI]
  by_cases e : shM O V (whT b) k = true
  · rw [if_pos e]; exact ⟨fun _ => shM_wh.mp e, fun _ => rfl⟩
  · rw [if_neg e]; exact ⟨fun q => by omega, fun q => absurd (shM_wh.mpr q) e⟩
theorem shI_t {k : Nat} (h : shI O V t k = 1) : shM O V t k = true := by
  simp only [shI] at h
  by_cases e : shM O V t k = true
  · exact e
  · rw [if_neg e] at h; omega
theorem shI_f {k : Nat} (h : shI O V t k ≠ 1) : ¬ shM O V t k = true := fun e => h (by simp only [shI]; exact if_pos e)
theorem okC_01 (w x bh : Int) : (okC w x bh = true ↔ ((bh ≠ 0 ∧ w < x) ∨ (bh = 0 ∧ x < w))) := okC_iff
/-- one round of the search -/
theorem clF_t {p0 p1 : Int} (h0 : 0 ≤ j) (hb : bs = clF O V t p0 p1 j.toNat) (hA : shI O V t j.toNat = 1) (hB : (p1 ≠ 0 ∧ p0 < (mwN (O t.b) j.toNat : Int)) ∨ (p1 = 0 ∧ (mwN (O t.b) j.toNat : Int) < p0)) (hC : bs = -10000 ∨ (p1 ≠ 0 ∧ (mwN (O t.b) j.toNat : Int) < mwN (O t.b) bs.toNat) ∨ (p1 = 0 ∧ ¬ (mwN (O t.b) j.toNat : Int) < mwN (O t.b) bs.toNat)) : j = clF O V t p0 p1 (j + 1).toNat := by
  rw [show (j + 1).toNat = j.toNat + 1 by omega]
  simp only [clF]
  rw [← hb]
  have ej : ((j.toNat : Nat) : Int) = j := by omega
  rw [if_pos ⟨shI_t hA, okC_iff.mpr hB, by omega⟩, ej]
theorem clF_k1 {p0 p1 : Int} (h0 : 0 ≤ j) (hb : bs = clF O V t p0 p1 j.toNat) (hA : shI O V t j.toNat ≠ 1) : bs = clF O V t p0 p1 (j + 1).toNat := by
  rw [show (j + 1).toNat = j.toNat + 1 by omega]
  simp only [clF]
  rw [← hb, if_neg (fun q => absurd q.1 (shI_f hA))]
theorem clF_k2 {p0 p1 : Int} (h0 : 0 ≤ j) (hb : bs = clF O V t p0 p1 j.toNat) (hB : ¬ ((p1 ≠ 0 ∧ p0 < (mwN (O t.b) j.toNat : Int)) ∨ (p1 = 0 ∧ (mwN (O t.b) j.toNat : Int) < p0))) : bs = clF O V t p0 p1 (j + 1).toNat := by
  rw [show (j + 1).toNat = j.toNat + 1 by omega]
  simp only [clF]
  rw [← hb, if_neg (fun q => hB (okC_iff.mp q.2.1))]
theorem clF_k3 {p0 p1 : Int} (h0 : 0 ≤ j) (hb : bs = clF O V t p0 p1 j.toNat) (hC : ¬ (bs = -10000 ∨ (p1 ≠ 0 ∧ (mwN (O t.b) j.toNat : Int) < mwN (O t.b) bs.toNat) ∨ (p1 = 0 ∧ ¬ (mwN (O t.b) j.toNat : Int) < mwN (O t.b) bs.toNat))) : bs = clF O V t p0 p1 (j + 1).toNat := by
  rw [show (j + 1).toNat = j.toNat + 1 by omega]
  simp only [clF]
  rw [← hb, if_neg (fun q => hC (by have := q.2.2; omega))]
/-- a key that is found is shown -/
theorem clF_sh {p0 p1 : Int} : ∀ {n : Nat}, clF O V t p0 p1 n ≠ -10000 → (0 ≤ clF O V t p0 p1 n ∧ clF O V t p0 p1 n < n) ∧ shM O V t (clF O V t p0 p1 n).toNat = true ∧ okC p0 (mwN (O t.b) (clF O V t p0 p1 n).toNat) p1 = true := fun {n} h => by
  rcases clF_Q O V t p0 p1 n with ⟨a1, -⟩ | ⟨a1, a2, a3, a4, -⟩
  · exact absurd a1 h
  · exact ⟨⟨a1, a2⟩, a3, a4⟩
theorem mnF_s (h0 : 0 ≤ j) (h : x = shI O V t j.toNat) : mnF O V t (j + 1).toNat = mnF O V t j.toNat + x := by
  rw [show (j + 1).toNat = j.toNat + 1 by omega, h]; rfl
theorem smF_s (h0 : 0 ≤ j) (h : x = (if shI O V t j.toNat = 1 then V t.b j.toNat else 0)) : smF O V t (j + 1).toNat = smF O V t j.toNat + x := by
  rw [show (j + 1).toNat = j.toNat + 1 by omega, h]
  have e : smF O V t (j.toNat + 1) = smF O V t j.toNat + (if shM O V t j.toNat = true then V t.b j.toNat else 0) := rfl
  rw [e]
  by_cases q : shI O V t j.toNat = 1
  · rw [if_pos q, if_pos (shI_t q)]
  · rw [if_neg q, if_neg (shI_f q)]
theorem ahF_s {key : Nat} (h0 : 0 ≤ j) (h : x = (if shI O V (whT b) j.toNat = 1 ∧ (mwN (O b) j.toNat : Int) < mwN (O b) key then 1 else 0)) : ahF O V b key (j + 1).toNat = ahF O V b key j.toNat + x := by
  rw [show (j + 1).toNat = j.toNat + 1 by omega, h]
  have e : ahF O V b key (j.toNat + 1) = ahF O V b key j.toNat + (if shM O V (whT b) j.toNat = true ∧ mwN (O b) j.toNat < mwN (O b) key then 1 else 0) := rfl
  rw [e]
  by_cases q : shI O V (whT b) j.toNat = 1 ∧ (mwN (O b) j.toNat : Int) < mwN (O b) key
  · rw [if_pos q, if_pos ⟨shI_t q.1, by omega⟩]
  · rw [if_neg q, if_neg (fun y => q ⟨by
      by_cases e : shI O V (whT b) j.toNat = 1
      · exact e
      · exact absurd y.1 (shI_f e), by omega⟩)]
theorem mnF_r (n : Nat) : 0 ≤ mnF O V t n ∧ mnF O V t n ≤ n := by
  have := sI_rng (c := 1) (f := fun k => if shM O V t k = true then 1 else 0) (n := n) (by omega) (fun k _ => by split <;> omega)
  simp only [mnF]; omega
theorem ahF_r {key : Nat} (n : Nat) : 0 ≤ ahF O V b key n ∧ ahF O V b key n ≤ n := by
  have := sI_rng (c := 1) (f := fun k => if shM O V (whT b) k = true ∧ mwN (O b) k < mwN (O b) key then 1 else 0) (n := n) (by omega) (fun k _ => by split <;> omega)
  simp only [ahF]; omega
theorem smF_r (hV : ∀ k, k < 100 → -10000 ≤ V t.b k ∧ V t.b k ≤ 9999) : ∀ n : Nat, n ≤ 100 → -(10000 * (n : Int)) ≤ smF O V t n ∧ smF O V t n ≤ 10000 * n := fun n hn => sI_abs (c := 10000) (by omega) (fun k hk => by
  have := hV k (by omega)
  by_cases e : shM O V t k = true
  · rw [if_pos e]; omega
  · rw [if_neg e]; omega)
theorem cvN_s (h0 : 0 ≤ j) (h : x = (if V b j.toNat = v then 1 else 0)) : cvN (V b) v (j + 1).toNat = cvN (V b) v j.toNat + x := by
  rw [show (j + 1).toNat = j.toNat + 1 by omega, h]; rfl
theorem mn_cnt : mnF O V (whT b) 100 = cntV (V b) := sI_congr (fun k _ => by
  by_cases e : V b k = -10000
  · rw [if_neg (fun q => shM_wh.mp q e), if_pos e]
  · rw [if_pos (shM_wh.mpr e), if_neg e])
/-- values key by key -/
theorem ml_at (h : V1 = upB V b (mapN (V b) F j.toNat)) : V1 b j.toNat = V b j.toNat := by
  rw [h, upB_s, mapN_ge (Nat.le_refl _)]
theorem ml_skip (h0 : 0 ≤ j) (h : V1 = upB V b (mapN (V b) F j.toNat)) (e : F j.toNat = V b j.toNat) : V1 = upB V b (mapN (V b) F (j + 1).toNat) := by
  rw [h, show (j + 1).toNat = j.toNat + 1 by omega, mapN_skip e]
theorem ml_set {V2 : BW} (h0 : 0 ≤ j) (h : V1 = upB V b (mapN (V b) F j.toNat)) (h2 : V2 = upB V1 b (upV (V1 b) j.toNat v)) (e : v = F j.toNat) : V2 = upB V b (mapN (V b) F (j + 1).toNat) := by
  rw [h2, h, show (j + 1).toNat = j.toNat + 1 by omega, upB_s, mapN_set e]
  funext i
  by_cases q : i = b
  · subst q; rw [upB_s, upB_s]
  · rw [upB_n _ _ q, upB_n _ _ q, upB_n _ _ q]
theorem ml_0 : V = upB V b (mapN (V b) F (0 : Int).toNat) := by
  show V = upB V b (mapN (V b) F 0)
  rw [mapN_0, upB_self rfl]
theorem ml_ne {i : Nat} (h : V1 = upB V b F) (hi : i ≠ b) : V1 i = V i := by rw [h, upB_n _ _ hi]
theorem upB_upV {k : Nat} (h : V1 = upB V b (upV (V b) k v)) : V1 b k = v := by rw [h, upB_s, upV_s]
/-- what a touch and a write do -/
def haT (wt : Option VT) (b : Nat) (ha : Int) : Int := if inB wt b = 1 then -10000 else ha
def brT (wt : Option VT) (b : Nat) (x v br : Int) : Int := if inB wt b = 1 ∧ ¬ (x = -10000 ↔ v = -10000) then 1 else br
/-- whether a key's coming and going is noted -/
theorem bl_0 : br = brL wt b (V b) F (0 : Int).toNat br := by
  simp only [brL]
  rw [if_neg (fun q => q.2 rfl)]
theorem bl_skip (h0 : 0 ≤ j) (h : br1 = brL wt b (V b) F j.toNat br) (e : F j.toNat = V b j.toNat) : br1 = brL wt b (V b) F (j + 1).toNat br := by
  rw [show (j + 1).toNat = j.toNat + 1 by omega, h]
  have e2 : cgN (V b) F (j.toNat + 1) = cgN (V b) F j.toNat + (if (V b j.toNat = -10000 ↔ F j.toNat = -10000) then 0 else 1) := rfl
  simp only [brL]
  rw [e2, show (if (V b j.toNat = -10000 ↔ F j.toNat = -10000) then (0 : Int) else 1) = 0 from if_pos (by rw [e]), Int.add_zero]
theorem bl_set (h0 : 0 ≤ j) (hV : V1 = upB V b (mapN (V b) F j.toNat)) (h : br1 = brL wt b (V b) F j.toNat br) (e : v = F j.toNat) {br2 : Int} (h2 : br2 = brT wt b (V1 b j.toNat) v br1) : br2 = brL wt b (V b) F (j + 1).toNat br := by
  unfold brT at h2
  rw [h2, ml_at hV, show (j + 1).toNat = j.toNat + 1 by omega, h]
  have e2 : cgN (V b) F (j.toNat + 1) = cgN (V b) F j.toNat + (if (V b j.toNat = -10000 ↔ F j.toNat = -10000) then 0 else 1) := rfl
  have e3 := cgN_nn (V b) F j.toNat
  subst e
  simp only [brL]
  rw [e2]
  by_cases i : inB wt b = 1
  · by_cases c : (V b j.toNat = -10000 ↔ F j.toNat = -10000)
    · rw [show (if (V b j.toNat = -10000 ↔ F j.toNat = -10000) then (0 : Int) else 1) = 0 from if_pos c, Int.add_zero, if_neg (fun q => q.2 c)]
    · rw [show (if (V b j.toNat = -10000 ↔ F j.toNat = -10000) then (0 : Int) else 1) = 1 from if_neg c, if_pos ⟨i, c⟩, if_pos ⟨i, by omega⟩]
  · rw [if_neg (fun q => i q.1), if_neg (fun q => i q.1), if_neg (fun q => i q.1)]
/-- one key's value -/
theorem bl_one {k : Nat} (hk : k < 100) (h : br1 = brT wt b (V b k) v br) : br1 = brL wt b (V b) (upV (V b) k v) 100 br := by
  unfold brT at h
  rw [h]
  simp only [brL]
  by_cases c : (V b k = -10000 ↔ v = -10000)
  · have e : cgN (V b) (upV (V b) k v) 100 = 0 := cgN_0 (fun i _ => by
      by_cases q : i = k
      · subst q; rw [upV_s]; exact c
      · rw [upV_n _ _ q])
    rw [if_neg (fun q => q.2 c), if_neg (fun q => q.2 e)]
  · have e : cgN (V b) (upV (V b) k v) 100 ≠ 0 := cgN_ne hk (by rw [upV_s]; exact c)
    by_cases i : inB wt b = 1
    · rw [if_pos ⟨i, c⟩, if_pos ⟨i, e⟩]
    · rw [if_neg (fun q => i q.1), if_neg (fun q => i q.1)]
theorem bl_map (h : br1 = brL wt b (V b) F 100 br) : br1 = brL wt b (V b) (mapN (V b) F 100) 100 br := by
  rw [h]
  simp only [brL]
  rw [cgN_congr (F := F) (F2 := mapN (V b) F 100) (fun k hk => (mapN_lt hk).symm)]
theorem bl_rf : br = brL wt b (V b) (V b) 100 br := by
  simp only [brL]
  rw [if_neg (fun q => q.2 (cgN_0 (fun _ _ => Iff.rfl)))]
theorem abM_mut (h : abM O wt br re la ha K) (hb : br1 = brL wt b (V b) F 100 br) (hh : ha1 = haT wt b ha) : abM O wt br1 re la ha1 (mutK K b (V b) F) := by
  unfold haT at hh
  rcases K with _ | ⟨t, ps, cd, hd, b2⟩
  · obtain ⟨rfl, e1, e2⟩ := h
    refine ⟨rfl, ?_, ?_⟩
    · rw [hb]; simp only [brL]; rw [inB_none, if_neg (fun q => by omega)]; exact e1
    · rw [hh, inB_none, if_neg (by omega)]; exact e2
  · obtain ⟨rfl, e1, e2, e3, e4, e5, e6, e7, e8, e9, e10⟩ := h
    simp only [mutK]
    by_cases c : t.b = b
    · rw [if_pos c]
      rw [inB_eq c, if_pos rfl] at hh
      simp only [brL] at hb
      rw [inB_eq c] at hb
      refine ⟨rfl, ?_, e2, e3, by rw [hh, if_neg (by omega)], e5, Or.inl rfl, fun q => by omega, e8, e9, ?_⟩
      · by_cases q : cgN (V b) F 100 = 0
        · rw [if_pos q, hb, if_neg (fun y => y.2 q), e1]
        · rw [if_neg q, hb, if_pos ⟨rfl, q⟩]
      · rw [hb]; split
        · exact Or.inr rfl
        · exact e10
    · rw [if_neg c]
      rw [inB_ne c, if_neg (by omega)] at hh
      simp only [brL] at hb
      rw [inB_ne c, if_neg (fun q => by omega)] at hb
      exact ⟨rfl, by rw [hb, e1], e2, e3, by rw [hh, e4], e5, e6, e7, e8, e9, by rw [hb]; exact e10⟩
theorem inB_val (t : VT) (b : Nat) : (t.b = b → inB (some t) b = 1) ∧ (t.b ≠ b → inB (some t) b = 0) := ⟨inB_eq, inB_ne⟩
theorem shI_b {V2 : BW} {k : Nat} (h : V2 t.b k = V t.b k) : shI O V2 t k = shI O V t k := by
  have e : shM O V2 t k = shM O V t k := by
    show (decide (V2 t.b k ≠ -10000) && inM' (O t.b) t k) = (decide (V t.b k ≠ -10000) && inM' (O t.b) t k)
    rw [h]
  simp only [shI]; rw [e]
theorem abM_none (h : abM O none br re la ha K) : K = none := by
  rcases K with _ | ⟨t, ps, cd, hd, b2⟩
  · rfl
  · exact nomatch h.1
theorem abM_some (h : abM O (some t) br re la ha K) : ∃ ps cd hd : Int, K = some (t, ps, cd, hd, br) ∧ re = rcW O t ps ∧ la = (if cd = 1 then ps else -10000) ∧ ha = (if hd = 1 then ps else -10000) ∧ (cd = 0 ∨ cd = 1) ∧ (hd = 0 ∨ hd = 1) ∧ (hd = 1 → cd = 1) ∧ (cd = 1 → ps ≠ -10000) ∧ (ps = -10000 ∨ (0 ≤ ps ∧ ps ≤ 99)) := by
  rcases K with _ | ⟨t2, ps, cd, hd, b2⟩
  · exact nomatch h.1
  · obtain ⟨e1, rfl, h3, h4, h5, h6, h7, h8, h9, h10, h11⟩ := h
    cases e1
    exact ⟨ps, cd, hd, rfl, h3, h4, h5, h6, h7, h8, h9, h10⟩
theorem kS_nil : kS none = 0 := rfl
theorem abM_new : abM O (some t) 0 (-1) (-10000) (-10000) (some (t, -10000, 0, 0, 0)) := by
  refine ⟨rfl, rfl, rfl, ?_, ?_, Or.inl rfl, Or.inl rfl, fun q => by omega, fun q => by omega, Or.inl rfl, Or.inl rfl⟩
  · rw [if_neg (by omega)]
  · rw [if_neg (by omega)]
theorem rsN_s {X : Nat → Int} {by1 : Int} (h0 : 0 ≤ j) (h : x = (if X j.toNat = -10000 then 0 else if bdN (X j.toNat + by1) = X j.toNat then 0 else 1)) : rsN X by1 (j + 1).toNat = rsN X by1 j.toNat + x := by
  rw [show (j + 1).toNat = j.toNat + 1 by omega, h]; rfl
theorem stN_s {X : Nat → Int} (h0 : 0 ≤ j) (h : x = (if X j.toNat ≠ -10000 ∧ F j.toNat = -10000 then 1 else 0)) : stN X F (j + 1).toNat = stN X F j.toNat + x := by
  rw [show (j + 1).toNat = j.toNat + 1 by omega, h]; rfl
theorem dfF_s {X Y : Nat → Int} (h0 : 0 ≤ j) (h : x = (if X j.toNat = Y j.toNat then 0 else 1)) : dfF X Y (j + 1).toNat = dfF X Y j.toNat + x := by
  rw [show (j + 1).toNat = j.toNat + 1 by omega, h]; rfl
theorem cvN_no {X : Nat → Int} (h : ∀ k, k < 100 → X k ≠ v) : cvN X v 100 = 0 := by
  rw [cvN, sI_congr (g := fun _ => 0) (fun k hk => if_neg (h k hk)), sI_zero]
section
variable {G : xG} {M : HM} {a va oa wa ya : Nat} {wk : Option Nat} {th : Int} {rfd kp kv : Int32} {qv qw : Nat → Nat} {fa fb : Nat → Option Nat} {fy : Nat → Option Nat} {Wv : VW} {S : Nat → Bool} {F2 : Nat → Int}
theorem MGm.of (h : MGx G M a va oa wa ya wk th rfd br re la ha kp kv qv qw fa fb V O fy Wv wt S) (hK : abM O wt br re la ha K) : MGm G M a S th (O, V, Wv, K, kp, kv, rfd) := ⟨va, oa, wa, ya, wk, br, re, la, ha, qv, qw, fa, fb, fy, wt, h, hK⟩
theorem MGm.mut (hV : V1 = upB V b F) (h : MGx G M a va oa wa ya wk th rfd br1 re la ha1 kp kv qv qw fa fb V1 O fy Wv wt S) (hK : abM O wt br re la ha K) (hb : br1 = brL wt b (V b) F 100 br) (hh : ha1 = haT wt b ha) (e : F = F2) : MGm G M a S th (mutS (O, V, Wv, K, kp, kv, rfd) b F2) := by
  subst e
  subst hV
  exact ⟨va, oa, wa, ya, wk, _, _, _, _, qv, qw, fa, fb, fy, wt, h, abM_mut hK hb hh⟩
end
end MLOOPS
