/-! the reference's own check of itself: a walk by weights, its cursor -/
section SOUND
variable {O : OW} {V : BW} {t : VT} {b : Nat} {z due key key2 due2 was d : Int}
theorem nr3 (k : Nat) : nrF O V t k 3 = clF O V t (mwN (O t.b) k) 1 100 := by
  unfold nrF
  rw [if_neg (by decide), if_neg (by decide), if_neg (by decide)]
theorem nr0 (k : Nat) : nrF O V t k 0 = clF O V t (mwN (O t.b) k) 0 100 := by
  unfold nrF
  rw [if_pos rfl]
theorem clU (O : OW) (V : BW) (t : VT) (w : Int) : (clF O V t w 1 100 = -10000 ∧ ∀ k, k < 100 → shM O V t k = true → (mwN (O t.b) k : Int) ≤ w) ∨ ((0 ≤ clF O V t w 1 100 ∧ clF O V t w 1 100 ≤ 99) ∧ shM O V t (clF O V t w 1 100).toNat = true ∧ w < (mwN (O t.b) (clF O V t w 1 100).toNat : Int) ∧ ∀ k, k < 100 → shM O V t k = true → w < (mwN (O t.b) k : Int) → mwN (O t.b) (clF O V t w 1 100).toNat ≤ mwN (O t.b) k) := by
  rcases clF_Q O V t w 1 100 with ⟨a1, a2⟩ | ⟨a1, a2, a3, a4, a5⟩
  · refine Or.inl ⟨a1, fun k hk h => ?_⟩
    have h1 := okC_f.mp (a2 k hk h)
    by_cases q : w < (mwN (O t.b) k : Int)
    · exact absurd (Or.inl ⟨by decide, q⟩) h1
    · omega
  · refine Or.inr ⟨⟨a1, by omega⟩, a3, ?_, fun k hk h hw => ?_⟩
    · rcases okC_iff.mp a4 with h | h
      · exact h.2
      · exact absurd h.1 (by decide)
    · exact (a5 k hk h (okC_iff.mpr (Or.inl ⟨by decide, hw⟩))).1 (by decide)
theorem clU_eq (ho : O t.b < 3) {w : Int} (h : (z = -10000 ∧ ∀ k, k < 100 → shM O V t k = true → (mwN (O t.b) k : Int) ≤ w) ∨ ((0 ≤ z ∧ z ≤ 99) ∧ shM O V t z.toNat = true ∧ w < (mwN (O t.b) z.toNat : Int) ∧ ∀ k, k < 100 → shM O V t k = true → w < (mwN (O t.b) k : Int) → mwN (O t.b) z.toNat ≤ mwN (O t.b) k)) : z = clF O V t w 1 100 := by
  refine clF_eq ho ?_
  rcases h with ⟨a1, a2⟩ | ⟨⟨a1, a2⟩, a3, a4, a5⟩
  · refine Or.inl ⟨a1, fun k hk h => okC_f.mpr (fun q => ?_)⟩
    have h1 := a2 k hk h
    rcases q with q | q
    · have := q.2; omega
    · exact absurd q.1 (by decide)
  · refine Or.inr ⟨a1, by omega, a3, okC_iff.mpr (Or.inl ⟨by decide, a4⟩), fun k hk h1 h2 => ⟨fun _ => a5 k hk h1 ?_, fun q => absurd q (by decide)⟩⟩
    rcases okC_iff.mp h2 with q | q
    · exact q.2
    · exact absurd q.1 (by decide)
theorem clW (O : OW) (V : BW) (b : Nat) (w : Int) : (clF O V (whT b) w 1 100 = -10000 ∧ ∀ k, k < 100 → V b k ≠ -10000 → (mwN (O b) k : Int) ≤ w) ∨ ((0 ≤ clF O V (whT b) w 1 100 ∧ clF O V (whT b) w 1 100 ≤ 99) ∧ V b (clF O V (whT b) w 1 100).toNat ≠ -10000 ∧ w < (mwN (O b) (clF O V (whT b) w 1 100).toNat : Int) ∧ ∀ k, k < 100 → V b k ≠ -10000 → w < (mwN (O b) k : Int) → mwN (O b) (clF O V (whT b) w 1 100).toNat ≤ mwN (O b) k) := by
  rcases clU O V (whT b) w with ⟨a1, a2⟩ | ⟨a1, a2, a3, a4⟩
  · exact Or.inl ⟨a1, fun k hk h => a2 k hk (shM_wh.mpr h)⟩
  · exact Or.inr ⟨a1, shM_wh.mp a2, a3, fun k hk h => a4 k hk (shM_wh.mpr h)⟩
theorem clW_up {w : Int} (h : key = clF O V (whT b) w 1 100) (hk : key ≠ -10000) : (0 ≤ key ∧ key ≤ 99) ∧ V b key.toNat ≠ -10000 ∧ w < (mwN (O b) key.toNat : Int) ∧ ∀ k, k < 100 → V b k ≠ -10000 → w < (mwN (O b) k : Int) → mwN (O b) key.toNat ≤ mwN (O b) k := by
  have u := clW O V b w
  rw [← h] at u
  exact u.resolve_left (fun q => hk q.1)
/-- a view's walk beside its book's -/
def jtQ (O : OW) (V : BW) (t : VT) (due key : Int) : Prop := ∃ w : Int, key = clF O V (whT t.b) w 1 100 ∧ due = clF O V t w 1 100
theorem jtQ.init (h1 : due = endF O V t 0) (h2 : key = endF O V (whT t.b) 0) : jtQ O V t due key := by
  refine ⟨-1, ?_, ?_⟩
  · rw [h2, endF, if_pos rfl]
  · rw [h1, endF, if_pos rfl]
theorem jtQ.skip (ho : O t.b < 3) (h : jtQ O V t due key) (hk : key ≠ -10000) (hi : z = inI (O t.b) t key.toNat) (hz : z = 0) (h2 : key2 = nrF O V (whT t.b) key.toNat 3) : jtQ O V t due key2 := by
  obtain ⟨w, e1, e2⟩ := h
  obtain ⟨u1, u2, u3, u4⟩ := clW_up e1 hk
  have hi2 : ¬ inM (O t.b) t key.toNat := fun q => by
    have e := inI_iff.mpr q
    omega
  refine ⟨mwN (O t.b) key.toNat, by rw [h2, nr3]; rfl, clU_eq ho ?_⟩
  have v := clU O V t w
  rw [← e2] at v
  rcases v with ⟨v1, v2⟩ | ⟨v1, v2, v3, v4⟩
  · exact Or.inl ⟨v1, fun k hk h => by have := v2 k hk h; omega⟩
  · have s1 := shM_iff.mp v2
    have d1 := u4 due.toNat (by omega) s1.1 v3
    have d2 : mwN (O t.b) due.toNat ≠ mwN (O t.b) key.toNat := fun e => by
      have e3 := mw_inj ho (by omega) (by omega) e
      rw [e3] at s1
      exact hi2 s1.2
    exact Or.inr ⟨v1, v2, by omega, fun k hk h1 h2 => v4 k hk h1 (by omega)⟩
theorem jtQ.eq (ho : O t.b < 3) (h : jtQ O V t due key) (hk : key ≠ -10000) (hi : z = inI (O t.b) t key.toNat) (hz : z ≠ 0) : due = key := by
  obtain ⟨w, e1, e2⟩ := h
  obtain ⟨u1, u2, u3, u4⟩ := clW_up e1 hk
  have hi2 : inM (O t.b) t key.toNat := inI_iff.mp (by have := inI_01 (O t.b) key.toNat t; omega)
  rw [e2]
  exact (clU_eq ho (Or.inr ⟨u1, shM_iff.mpr ⟨u2, hi2⟩, u3, fun k hk h1 h2 => u4 k hk (shM_iff.mp h1).1 h2⟩)).symm
theorem jtQ.next (h1 : due2 = nrF O V t due.toNat 3) (h2 : key2 = nrF O V (whT t.b) key.toNat 3) (he : due = key) : jtQ O V t due2 key2 := by
  subst he
  exact ⟨mwN (O t.b) due.toNat, by rw [h2, nr3]; rfl, by rw [h1, nr3]⟩
theorem jtQ.fin (h : jtQ O V t due key) (hk : key = -10000) : due = -10000 := by
  obtain ⟨w, e1, e2⟩ := h
  have u := clW O V t.b w
  rw [← e1] at u
  rcases u with ⟨u1, u2⟩ | ⟨u1, -⟩
  · have v := clU O V t w
    rw [← e2] at v
    rcases v with ⟨v1, v2⟩ | ⟨v1, v2, v3, v4⟩
    · exact v1
    · have := u2 due.toNat (by omega) (shM_iff.mp v2).1
      omega
  · omega
/-- a book's walk: the pair behind, how many were told -/
def jwC (O : OW) (V : BW) (b : Nat) (w : Int) : Int := sI (fun k => if V b k ≠ -10000 ∧ (mwN (O b) k : Int) ≤ w then 1 else 0) 100
def jwQ (O : OW) (V : BW) (b : Nat) (was d key : Int) : Prop := ∃ w : Int, key = clF O V (whT b) w 1 100 ∧ ((was = -10000 ∧ w = -1) ∨ ((0 ≤ was ∧ was ≤ 99) ∧ V b was.toNat ≠ -10000 ∧ w = (mwN (O b) was.toNat : Int))) ∧ d = jwC O V b w
theorem jwQ.init (h2 : key = endF O V (whT b) 0) : jwQ O V b (-10000) 0 key := by
  refine ⟨-1, by rw [h2, endF, if_pos rfl], Or.inl ⟨rfl, rfl⟩, ?_⟩
  rw [jwC, sI_congr (g := fun _ => 0) (fun k _ => if_neg (fun q => by have := q.2; omega)), sI_zero]
theorem jwQ.lt (h : jwQ O V b was d key) (hk : key ≠ -10000) (hw : was ≠ -10000) : mwN (O b) was.toNat < mwN (O b) key.toNat := by
  obtain ⟨w, e1, e2, -⟩ := h
  obtain ⟨u1, u2, u3, u4⟩ := clW_up e1 hk
  rcases e2 with ⟨q, -⟩ | ⟨-, -, q⟩
  · exact absurd q hw
  · omega
theorem jwQ.near (ho : O b < 3) (h : jwQ O V b was d key) (hk : key ≠ -10000) (hz : z = nrF O V (whT b) key.toNat 0) : z = was := by
  obtain ⟨w, e1, e2, -⟩ := h
  obtain ⟨u1, u2, u3, u4⟩ := clW_up e1 hk
  rw [hz, nr0]
  refine (clF_eq (show O (whT b).b < 3 from ho) ?_).symm
  have key9 : ∀ k, k < 100 → V b k ≠ -10000 → mwN (O b) k < mwN (O b) key.toNat → (mwN (O b) k : Int) ≤ w := fun k hk h1 h2 => by
    by_cases q : w < (mwN (O b) k : Int)
    · have := u4 k hk h1 q; omega
    · omega
  rcases e2 with ⟨q1, q2⟩ | ⟨q1, q2, q3⟩
  · refine Or.inl ⟨q1, fun k hk h => okC_f.mpr (fun q => ?_)⟩
    rcases q with q | q
    · exact absurd rfl q.1
    · have h2 : (mwN (O b) k : Int) < (mwN (O b) key.toNat : Int) := q.2
      have := key9 k hk (shM_wh.mp h) (by omega)
      omega
  · refine Or.inr ⟨q1.1, by omega, shM_wh.mpr q2, okC_iff.mpr (Or.inr ⟨rfl, ?_⟩), fun k hk h1 h2 => ⟨fun q => absurd rfl q, fun _ => ?_⟩⟩
    · show (mwN (O b) was.toNat : Int) < (mwN (O b) key.toNat : Int)
      omega
    · rcases okC_iff.mp h2 with q | q
      · exact absurd rfl q.1
      · have h3 : (mwN (O b) k : Int) < (mwN (O b) key.toNat : Int) := q.2
        have := key9 k hk (shM_wh.mp h1) (by omega)
        show mwN (O b) k ≤ mwN (O b) was.toNat
        omega
theorem jwQ.ahead (h : jwQ O V b was d key) (hk : key ≠ -10000) (hz : z = ahF O V b key.toNat 100) : z = d := by
  obtain ⟨w, e1, -, e3⟩ := h
  obtain ⟨u1, u2, u3, u4⟩ := clW_up e1 hk
  rw [hz, e3, ahF, jwC]
  refine sI_congr (fun k hk => ?_)
  by_cases q : V b k = -10000
  · rw [if_neg (fun c => (shM_wh.mp c.1) q), if_neg (fun c => c.1 q)]
  · by_cases c : w < (mwN (O b) k : Int)
    · have := u4 k hk q c
      rw [if_neg (fun x => by have := x.2; omega), if_neg (fun x => by have := x.2; omega)]
    · rw [if_pos ⟨shM_wh.mpr q, by omega⟩, if_pos ⟨q, by omega⟩]
theorem jwQ.next (ho : O b < 3) (h : jwQ O V b was d key) (hk : key ≠ -10000) (h2 : key2 = nrF O V (whT b) key.toNat 3) : jwQ O V b key (d + 1) key2 := by
  obtain ⟨w, e1, -, e3⟩ := h
  obtain ⟨u1, u2, u3, u4⟩ := clW_up e1 hk
  refine ⟨mwN (O b) key.toNat, by rw [h2, nr3]; rfl, Or.inr ⟨u1, u2, rfl⟩, ?_⟩
  have e := sI_upd (fun k => if V b k ≠ -10000 ∧ (mwN (O b) k : Int) ≤ w then 1 else 0) (x := key.toNat) 1 (n := 100) (by omega)
  rw [e3, jwC, jwC, sI_congr (f := fun k => if V b k ≠ -10000 ∧ (mwN (O b) k : Int) ≤ ((mwN (O b) key.toNat : Nat) : Int) then 1 else 0) (g := fun k => if k = key.toNat then 1 else (if V b k ≠ -10000 ∧ (mwN (O b) k : Int) ≤ w then 1 else 0)) (fun k hk => ?_), e, if_neg (fun x => by have := x.2; omega)]
  · omega
  · by_cases q : k = key.toNat
    · rw [if_pos q, q, if_pos ⟨u2, by omega⟩]
    · rw [if_neg q]
      by_cases c : V b k = -10000
      · rw [if_neg (fun x => x.1 c), if_neg (fun x => x.1 c)]
      · by_cases c2 : w < (mwN (O b) k : Int)
        · have h4 := u4 k hk c c2
          have h5 : mwN (O b) k ≠ mwN (O b) key.toNat := fun e => q (mw_inj ho hk (by omega) e)
          rw [if_neg (fun x => by have := x.2; omega), if_neg (fun x => by have := x.2; omega)]
        · rw [if_pos ⟨c, by omega⟩, if_pos ⟨c, by omega⟩]
theorem same_mn {c : Nat} (h : z = (if dfF (V b) (V c) 100 = 0 then 1 else 0)) (hz : z ≠ 0) : mnF O V (whT b) 100 = mnF O V (whT c) 100 ∧ smF O V (whT b) 100 = smF O V (whT c) 100 := by
  have hd : dfF (V b) (V c) 100 = 0 := by
    by_cases q : dfF (V b) (V c) 100 = 0
    · exact q
    · rw [if_neg q] at h; exact absurd h hz
  have he := dfF_iff.mp hd
  have hs : ∀ k, k < 100 → (shM O V (whT b) k = true ↔ shM O V (whT c) k = true) := fun k hk => by rw [shM_wh, shM_wh, he k hk]
  constructor
  · refine sI_congr (fun k hk => ?_)
    by_cases q : shM O V (whT b) k = true
    · rw [if_pos q, if_pos ((hs k hk).mp q)]
    · rw [if_neg q, if_neg (fun x => q ((hs k hk).mpr x))]
  · refine sI_congr (fun k hk => ?_)
    by_cases q : shM O V (whT b) k = true
    · rw [if_pos q, if_pos ((hs k hk).mp q)]
      exact he k hk
    · rw [if_neg q, if_neg (fun x => q ((hs k hk).mpr x))]
end SOUND
