/-! the reference's calls: their ends -/
section MENDS
variable {G : xG} {M : HM} {a va oa wa ya : Nat} {wk : Option Nat} {th br br1 re la ha : Int} {rfd kp kv : Int32} {qv qw : Nat → Nat} {fa fb : Nat → Option Nat} {V V1 : BW} {O : OW} {fy : Nat → Option Nat} {Wv : VW} {wt : Option VT} {S : Nat → Bool} {t : VT} {ps cd hd p0 : Int} {K : WA} {b : Nat}
theorem MGm.write (h : MGx G M a va oa wa ya wk th rfd br1 re la ha kp kv qv qw fa fb V1 O fy Wv (some t) S) (hV : V1 = upB V t.b (upV (V t.b) ps.toNat p0)) (hb : br1 = brT (some t) t.b (V t.b ps.toNat) p0 br) (hK : abM O (some t) br re la ha (some (t, ps, cd, hd, br))) (h0 : br = 0) (hp : p0 ≠ -10000) : MGm G M a S th (S_write (O, V, Wv, some (t, ps, cd, hd, br), kp, kv, rfd) p0) := by
  subst hV
  unfold brT at hb
  obtain ⟨-, -, e2, e3, e4, e5, e6, e7, e8, e9, e10⟩ := hK
  have e : br1 = (if V t.b ps.toNat = -10000 then 1 else 0) := by
    rw [hb, inB_eq rfl]
    by_cases c : V t.b ps.toNat = -10000
    · rw [if_pos ⟨rfl, fun q => hp (q.mp c)⟩, if_pos c]
    · rw [if_neg (fun q => q.2 ⟨fun y => absurd y c, fun y => absurd y hp⟩), if_neg c, h0]
  exact MGm.of (K := some (t, ps, cd, hd, if V t.b ps.toNat = -10000 then 1 else 0)) h ⟨rfl, e, e2, e3, e4, e5, e6, e7, e8, e9, by rw [e]; split <;> simp⟩
theorem brL_no {F X : Nat → Int} {n : Nat} (h : inB wt b = 0) : brL wt b X F n br = br := by
  simp only [brL]
  rw [if_neg (fun q => by omega)]
theorem abM_cpn {i o : Nat} (hK : abM O (some t) br re la ha (some (t, ps, cd, hd, br))) (h : t.b ≠ i) : abM (upO O i o) (some t) br re la ha (cpK (some (t, ps, cd, hd, br)) i) := by
  obtain ⟨e0, e1, e2, e3⟩ := hK
  simp only [cpK]
  rw [if_neg h]
  exact ⟨e0, e1, by rw [e2]; simp only [rcW]; rw [upO_n _ _ h], e3⟩
theorem abM_cpe {i o : Nat} (h : t.b = i) : abM (upO O i o) none 0 re la (-10000) (cpK (some (t, ps, cd, hd, br)) i) := by
  simp only [cpK]
  rw [if_pos h]
  exact ⟨rfl, rfl, rfl⟩
theorem abM_cp0 {i o : Nat} (hK : abM O none br re la ha none) : abM (upO O i o) none br re la ha (cpK none i) := hK
theorem atQ_uniq {O : OW} {V : BW} {i : Nat} {pl x y : Int} (hO : O i < 3) (h : atQ O V i pl x) (g : atQ O V i pl y) : x = y := by
  have key : ∀ {k j : Nat}, k < 100 → j < 100 → V i k ≠ -10000 → mwN (O i) k < mwN (O i) j → ahF O V i k 100 < ahF O V i j 100 := fun {k j} hk hj hv hlt => by
    refine sI_lt (fun l _ => ?_) (j := k) hk ?_
    · by_cases c : shM O V (whT i) l = true ∧ mwN (O i) l < mwN (O i) k
      · rw [if_pos c, if_pos ⟨c.1, by omega⟩]; omega
      · rw [if_neg c]; split <;> omega
    · rw [if_neg (fun c => by omega), if_pos ⟨shM_wh.mpr hv, hlt⟩]; omega
  rcases h with ⟨a1, a2⟩ | ⟨a1, a2, a3⟩ <;> rcases g with ⟨b1, b2⟩ | ⟨b1, b2, b3⟩
  · rw [a1, b1]
  · exact absurd b3 (a2 y.toNat (by omega) b2)
  · exact absurd a3 (b2 x.toNat (by omega) a2)
  · rcases Nat.lt_trichotomy (mwN (O i) x.toNat) (mwN (O i) y.toNat) with c | c | c
    · have := key (by omega) (by omega) a2 c; omega
    · have := mw_inj hO (a := x.toNat) (b := y.toNat) (by omega) (by omega) c; omega
    · have := key (by omega) (by omega) b2 c; omega
theorem laF_s {X : Nat → Int} {k : Nat} {j x : Int} (h0 : 0 ≤ j) (h : x = (if k < j.toNat ∧ X j.toNat = X k then 1 else 0)) : laF X k (j + 1).toNat = laF X k j.toNat + x := by
  rw [show (j + 1).toNat = j.toNat + 1 by omega, h]; rfl
theorem laF_nn (X : Nat → Int) (k n : Nat) : 0 ≤ laF X k n := (sI_rng (c := 1) (by omega) (fun j _ => by split <;> omega)).1
theorem laF_init {X : Nat → Int} {k n : Nat} (h : n ≤ k + 1) : laF X k n = 0 := by
  rw [laF, sI_congr (g := fun _ => 0) (fun j hj => if_neg (fun q => by omega)), sI_zero]
theorem unF_s {X : Nat → Int} {j x : Int} (h0 : 0 ≤ j) (h : x = (if X j.toNat ≠ -10000 ∧ laF X j.toNat 100 = 0 then 1 else 0)) : unF X (j + 1).toNat = unF X j.toNat + x := by
  rw [show (j + 1).toNat = j.toNat + 1 by omega, h]; rfl
theorem unF_r (X : Nat → Int) (n : Nat) : 0 ≤ unF X n ∧ unF X n ≤ n := by
  have := sI_rng (c := 1) (f := fun k => if X k ≠ -10000 ∧ laF X k 100 = 0 then 1 else 0) (n := n) (by omega) (fun k _ => by split <;> omega)
  simp only [unF]; omega
theorem vwN_r (W : VW) (b n : Nat) : 0 ≤ vwN W b n ∧ vwN W b n ≤ n := by
  have := sI_rng (c := 1) (f := fun i => vbN (W i) b) (n := n) (by omega) (fun i _ => by
    simp only [vbN]
    split
    · omega
    · split <;> omega)
  simp only [vwN]; omega
theorem opC_r (W : VW) (n : Nat) : 0 ≤ opC W n ∧ opC W n ≤ n := by
  have := sI_rng (c := 1) (f := fun i => (opN (W i) : Int)) (n := n) (by omega) (fun i _ => by
    simp only [opN]
    split <;> omega)
  simp only [opC]; omega
theorem dfF_ne {X Y : Nat → Int} {k n : Nat} (hk : k < n) (h : X k ≠ Y k) : dfF X Y n ≠ 0 := fun q => h (dfF_iff.mp q k hk)
def bkO (wt : Option VT) : Int := match wt with
  | none => -10000
  | some t => (t.b : Int)
theorem led_A {p0 z : Int} (hK : abM O wt br re la ha K) (h0 : 0 ≤ p0 ∧ p0 ≤ 6) (h : (p0 = 0 ∧ z = opC Wv 4) ∨ (p0 = 1 ∧ z = bkO wt) ∨ (p0 = 2 ∧ z = br) ∨ (p0 = 3 ∧ z = ha) ∨ (p0 = 4 ∧ z = kp.toInt) ∨ (p0 = 5 ∧ z = kv.toInt) ∨ (p0 = 6 ∧ z = rfd.toInt)) : z = A_ledger (O, V, Wv, K, kp, kv, rfd) p0 := by
  have e2 : br = kB K := by
    rcases K with _ | ⟨t, ps, cd, hd, b2⟩
    · exact hK.2.1
    · exact hK.2.1
  have e3 : ha = (if kH K = 1 then kP K else -10000) := by
    rcases K with _ | ⟨t, ps, cd, hd, b2⟩
    · exact hK.2.2.trans (if_neg (by show ¬ (0 : Int) = 1; omega)).symm
    · exact hK.2.2.2.2.1
  rcases h with ⟨rfl, h⟩ | ⟨rfl, h⟩ | ⟨rfl, h⟩ | ⟨rfl, h⟩ | ⟨rfl, h⟩ | ⟨rfl, h⟩ | ⟨rfl, h⟩
  · exact h
  · rcases K with _ | ⟨t, ps, cd, hd, b2⟩
    · obtain ⟨rfl, -⟩ := hK; exact h
    · obtain ⟨rfl, -⟩ := hK; exact h
  · exact h.trans e2
  · exact h.trans e3
  · exact h
  · exact h
  · exact h
end MENDS
