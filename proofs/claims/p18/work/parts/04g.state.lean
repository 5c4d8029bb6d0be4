/-! the pure part: the abstract state, what each call answers, which state comes then -/
section FSTATE
/-- whether something is there -/
def opN (x : Option VT) : Nat := match x with
  | none => 0
  | some _ => 1
theorem opN_some {x : Option VT} {t : VT} (h : x = some t) : opN x = 1 := by rw [h]; rfl
theorem opN_none {x : Option VT} (h : x = none) : opN x = 0 := by rw [h]; rfl
theorem opN_ex {x : Option VT} (h : opN x = 1) : ∃ t, x = some t := by
  rcases x with _ | t
  · cases h
  · exact ⟨t, rfl⟩
theorem frN_le (W : VW) : frN W ≤ 4 := by simp only [frN]; (repeat' split) <;> omega
/-- the first n numbers: views onto the book b are shut -/
def shN (W : VW) (b n : Nat) : VW := fun i => if i < n then (match W i with
  | none => none
  | some t => if t.b = b then none else some t) else W i
theorem shN_0 (W : VW) (b : Nat) : W = shN W b 0 := by
  funext i; simp only [shN]; rw [if_neg (Nat.not_lt_zero i)]
theorem shN_at {W W1 : VW} {b j : Nat} (h : W1 = shN W b j) : W1 j = W j := by
  rw [h]; simp only [shN]; rw [if_neg (Nat.lt_irrefl j)]
theorem shN_nil {W W1 : VW} {b j : Nat} (h : W1 = shN W b j) (hn : W1 j = none) : W1 = shN W b (j + 1) := by
  rw [shN_at h] at hn
  rw [h]
  funext i
  simp only [shN]
  by_cases e : i < j
  · rw [if_pos e, if_pos (by omega)]
  · rw [if_neg e]
    by_cases e2 : i = j
    · subst e2; rw [if_pos (by omega), hn]
    · rw [if_neg (by omega)]
theorem shN_keep {W W1 : VW} {b j : Nat} {t : VT} (h : W1 = shN W b j) (hn : W1 j = some t) (hb : t.b ≠ b) : W1 = shN W b (j + 1) := by
  rw [shN_at h] at hn
  rw [h]
  funext i
  simp only [shN]
  by_cases e : i < j
  · rw [if_pos e, if_pos (by omega)]
  · rw [if_neg e]
    by_cases e2 : i = j
    · subst e2; rw [if_pos (by omega), hn]; simp only; rw [if_neg hb]
    · rw [if_neg (by omega)]
theorem shN_drop {W W1 : VW} {b j : Nat} {t : VT} (h : W1 = shN W b j) (hn : W1 j = some t) (hb : t.b = b) : upW W1 j none = shN W b (j + 1) := by
  rw [shN_at h] at hn
  rw [h]
  funext i
  by_cases e2 : i = j
  · subst e2; rw [upW_s]; simp only [shN]; rw [if_pos (by omega), hn]; simp only; rw [if_pos hb]
  · rw [upW_n _ _ e2]
    simp only [shN]
    by_cases e : i < j
    · rw [if_pos e, if_pos (by omega)]
    · rw [if_neg e, if_neg (by omega)]
theorem shN_ne {W : VW} {b n j : Nat} {t : VT} (hj : j < n) (h : shN W b n j = some t) : t.b ≠ b := by
  simp only [shN] at h
  rw [if_pos hj] at h
  cases e : W j with
  | none => rw [e] at h; cases h
  | some u =>
    rw [e] at h
    simp only at h
    by_cases q : u.b = b
    · rw [if_pos q] at h; cases h
    · rw [if_neg q] at h; cases h; exact q
/-- how many views lie onto a book, how many are open -/
def vbN (x : Option VT) (b : Nat) : Int := match x with
  | none => 0
  | some t => if t.b = b then 1 else 0
def vwN (W : VW) (b n : Nat) : Int := sI (fun i => vbN (W i) b) n
def opC (W : VW) (n : Nat) : Int := sI (fun i => (opN (W i) : Int)) n
theorem vbN_nil {x : Option VT} {b : Nat} (h : x = none) : vbN x b = 0 := by rw [h]; rfl
theorem vbN_eq {x : Option VT} {t : VT} {b : Nat} (h : x = some t) (e : t.b = b) : vbN x b = 1 := by rw [h]; exact if_pos e
theorem vbN_ne {x : Option VT} {t : VT} {b : Nat} (h : x = some t) (e : t.b ≠ b) : vbN x b = 0 := by rw [h]; exact if_neg e
theorem vwN_s {W : VW} {b : Nat} {j x : Int} (h : 0 ≤ j) (hx : vbN (W j.toNat) b = x) : vwN W b (j + 1).toNat = vwN W b j.toNat + x := by
  rw [show (j + 1).toNat = j.toNat + 1 by omega, ← hx]; rfl
theorem opC_s {W : VW} {j x : Int} (h : 0 ≤ j) (hx : (opN (W j.toNat) : Int) = x) : opC W (j + 1).toNat = opC W j.toNat + x := by
  rw [show (j + 1).toNat = j.toNat + 1 by omega, ← hx]; rfl
/-- books' values, a book changed -/
def upB (V : BW) (b : Nat) (F : Nat → Int) : BW := fun j => if j = b then F else V j
theorem upB_s (V : BW) (b : Nat) (F : Nat → Int) : upB V b F b = F := if_pos rfl
theorem upB_n (V : BW) {j b : Nat} (F : Nat → Int) (h : j ≠ b) : upB V b F j = V j := if_neg h
theorem upB_self {V : BW} {b : Nat} {F : Nat → Int} (h : F = V b) : upB V b F = V := by
  funext j
  by_cases e : j = b
  · subst e; rw [upB_s, h]
  · exact upB_n _ _ e
/-- the walk: its range, its place, whether a step may be dropped, whether its pair is at hand, whether it is broken -/
abbrev WA : Type := Option (VT × Int × Int × Int × Int)
abbrev ST : Type := OW × BW × VW × WA × Int32 × Int32 × Int32
abbrev ST.O (s : ST) : OW := s.1
abbrev ST.V (s : ST) : BW := s.2.1
abbrev ST.W (s : ST) : VW := s.2.2.1
abbrev ST.K (s : ST) : WA := s.2.2.2.1
abbrev ST.kk (s : ST) : Int32 := s.2.2.2.2.1
abbrev ST.kv (s : ST) : Int32 := s.2.2.2.2.2.1
abbrev ST.rf (s : ST) : Int32 := s.2.2.2.2.2.2
/-- a call that may write came to a book, which holds F then -/
def mutK (K : WA) (b : Nat) (V F : Nat → Int) : WA := match K with
  | none => none
  | some (t, ps, cd, hd, br) => if t.b = b then some (t, ps, cd, 0, if cgN V F 100 = 0 then br else 1) else some (t, ps, cd, hd, br)
def mutS (s : ST) (b : Nat) (F : Nat → Int) : ST := (s.O, upB s.V b F, s.W, mutK s.K b (s.V b) F, s.kk, s.kv, s.rf)
/-- the tuple at a number -/
def tvW (W : VW) (j : Nat) : VT := match W j with
  | none => whT 0
  | some t => t
theorem tvW_some {W : VW} {j : Nat} {t : VT} (h : W j = some t) : tvW W j = t := by simp only [tvW, h]
def vlF (V : Nat → Int) (z : Int) : Int := if z = -10000 then -10000 else V z.toNat
/-- a key's value, by which it is replaced -/
def kN1 (s : ST) (p0 p1 : Int) : Int := s.V p0.toNat p1.toNat
def keyS (s : ST) (p0 p1 nv : Int) : ST := mutS s p0.toNat (upV (s.V p0.toNat) p1.toNat nv)
def S_put (s : ST) (p0 p1 p2 : Int) : ST := keyS s p0 p1 p2
def A_put (s : ST) (p0 p1 _p2 : Int) : Int := s.V p0.toNat p1.toNat
def S_putAbsent (s : ST) (p0 p1 p2 : Int) : ST := keyS s p0 p1 (if s.V p0.toNat p1.toNat = -10000 then p2 else s.V p0.toNat p1.toNat)
def A_putAbsent (s : ST) (p0 p1 _p2 : Int) : Int := s.V p0.toNat p1.toNat
def S_replace (s : ST) (p0 p1 p2 : Int) : ST := keyS s p0 p1 (if s.V p0.toNat p1.toNat = -10000 then -10000 else p2)
def A_replace (s : ST) (p0 p1 _p2 : Int) : Int := s.V p0.toNat p1.toNat
def S_swap (s : ST) (p0 p1 p2 p3 : Int) : ST := keyS s p0 p1 (if s.V p0.toNat p1.toNat = p2 then p3 else s.V p0.toNat p1.toNat)
def A_swap (s : ST) (p0 p1 p2 _p3 : Int) : Int := if s.V p0.toNat p1.toNat = p2 then 1 else 0
def S_strike (s : ST) (p0 p1 : Int) : ST := keyS s p0 p1 (-10000)
def A_strike (s : ST) (p0 p1 : Int) : Int := s.V p0.toNat p1.toNat
def S_strikePair (s : ST) (p0 p1 p2 : Int) : ST := keyS s p0 p1 (if s.V p0.toNat p1.toNat = p2 then -10000 else s.V p0.toNat p1.toNat)
def A_strikePair (s : ST) (p0 p1 p2 : Int) : Int := if s.V p0.toNat p1.toNat = p2 then 1 else 0
def S_merge (s : ST) (p0 p1 p2 : Int) : ST := keyS s p0 p1 (mgN (s.V p0.toNat p1.toNat) p2)
def A_merge (s : ST) (p0 p1 p2 : Int) : Int := mgN (s.V p0.toNat p1.toNat) p2
def S_grow (s : ST) (p0 p1 : Int) : ST := keyS s p0 p1 (gwN (s.V p0.toNat p1.toNat) p1)
def A_grow (s : ST) (p0 p1 : Int) : Int := gwN (s.V p0.toNat p1.toNat) p1
def S_halve (s : ST) (p0 p1 : Int) : ST := keyS s p0 p1 (hvN (s.V p0.toNat p1.toNat))
def A_halve (s : ST) (p0 p1 : Int) : Int := hvN (s.V p0.toNat p1.toNat)
def S_twice (s : ST) (p0 p1 : Int) : ST := keyS s p0 p1 (twN (s.V p0.toNat p1.toNat) p1)
def A_twice (s : ST) (p0 p1 : Int) : Int := twN (s.V p0.toNat p1.toNat) p1
def A_poll (s : ST) (p0 p1 : Int) : Int := endF s.O s.V (whT p0.toNat) p1
def S_poll (s : ST) (p0 p1 : Int) : ST := mutS s p0.toNat (rmV (s.V p0.toNat) (A_poll s p0 p1))
def S_raise (s : ST) (p0 p1 : Int) : ST := mutS s p0.toNat (mapN (s.V p0.toNat) (F_raise (s.V p0.toNat) p1) 100)
def A_raise (s : ST) (p0 p1 : Int) : Int := rsN (s.V p0.toNat) p1 100
def S_sift (s : ST) (p0 p1 : Int) : ST := mutS s p0.toNat (mapN (s.V p0.toNat) (F_sift (s.V p0.toNat) p1) 100)
def A_sift (s : ST) (p0 p1 : Int) : Int := stN (s.V p0.toNat) (F_sift (s.V p0.toNat) p1) 100
def F_sv (V : Nat → Int) (v : Int) : Nat → Int := fun k => if V k = v then -10000 else V k
def S_strikeValue (s : ST) (p0 p1 : Int) : ST := mutS s p0.toNat (mapN (s.V p0.toNat) (F_sv (s.V p0.toNat) p1) 100)
def A_strikeValue (s : ST) (p0 p1 : Int) : Int := if cvN (s.V p0.toNat) p1 100 = 0 then 0 else 1
def F_sa (O : OW) (V : BW) (t : VT) : Nat → Int := fun k => if shM O V t k = true then -10000 else V t.b k
def S_clear (s : ST) (p0 : Int) : ST := mutS s p0.toNat (mapN (s.V p0.toNat) (F_sa s.O s.V (whT p0.toNat)) 100)
def A_clear (s : ST) (p0 : Int) : Int := mnF s.O s.V (whT p0.toNat) 100
def F_pr (s : ST) (p0 p1 : Int) : Nat → Int := mapN (s.V p1.toNat) (F_pour (s.V p1.toNat) (s.V p0.toNat)) 100
def S_pour (s : ST) (p0 p1 : Int) : ST := mutS s p1.toNat (F_pr s p0 p1)
def A_pour (s : ST) (p0 p1 : Int) : Int := cntV (F_pr s p0 p1)
def cpK (K : WA) (b : Nat) : WA := match K with
  | none => none
  | some k => if k.1.b = b then none else some k
def S_copy (s : ST) (p0 p1 : Int) : ST := (upO s.O p1.toNat (s.O p0.toNat), upB s.V p1.toNat (mapN (s.V p1.toNat) (s.V p0.toNat) 100), shN s.W p1.toNat 4, cpK s.K p1.toNat, s.kk, s.kv, s.rf)
def A_copy (s : ST) (_p0 p1 : Int) : Int := vwN s.W p1.toNat 4
def S_thin (s : ST) (p0 p1 p2 : Int) : ST := mutS s p0.toNat (mapN (s.V p0.toNat) (F_thin (s.V p0.toNat) (s.V p1.toNat) p2) 100)
def A_thin (s : ST) (p0 p1 p2 : Int) : Int := stN (s.V p0.toNat) (F_thin (s.V p0.toNat) (s.V p1.toNat) p2) 100
/-- a view is opened -/
def opS (s : ST) (t : VT) : ST := (s.O, s.V, upW s.W (frN s.W) (some t), s.K, s.kk, s.kv, s.rf)
def S_head (s : ST) (p0 p1 p2 : Int) : ST := opS s (p0.toNat, -10000, p1, 0, p2)
def A_head (s : ST) (_p0 _p1 _p2 : Int) : Int := frN s.W
def S_tail (s : ST) (p0 p1 p2 : Int) : ST := opS s (p0.toNat, p1, -10000, p2, 0)
def A_tail (s : ST) (_p0 _p1 _p2 : Int) : Int := frN s.W
def S_sub (s : ST) (p0 p1 p2 p3 p4 : Int) : ST := if mwN (s.O p0.toNat) p3.toNat < mwN (s.O p0.toNat) p1.toNat then s else opS s (p0.toNat, p1, p3, p2, p4)
def A_sub (s : ST) (p0 p1 _p2 p3 _p4 : Int) : Int := if mwN (s.O p0.toNat) p3.toNat < mwN (s.O p0.toNat) p1.toNat then -20000 else frN s.W
/-- whether a key is within, as a number -/
def inI (o : Nat) (t : VT) (k : Nat) : Int := if inM' o t k = true then 1 else 0
theorem inI_eq {o k : Nat} {t : VT} {z : Int} (h : z = 0 ∨ z = 1) (g : z = 1 ↔ inM o t k) : z = inI o t k := by
  simp only [inI]
  by_cases e : inM o t k
  · rw [if_pos (inM'_iff.mpr e)]; exact g.mpr e
  · rw [if_neg (fun q => e (inM'_iff.mp q))]
    rcases h with h | h
    · exact h
    · exact absurd (g.mp h) e
theorem inI_iff {o k : Nat} {t : VT} : inI o t k = 1 ↔ inM o t k := by
  simp only [inI]
  by_cases e : inM o t k
  · rw [if_pos (inM'_iff.mpr e)]; exact ⟨fun _ => e, fun _ => rfl⟩
  · rw [if_neg (fun q => e (inM'_iff.mp q))]; exact ⟨fun q => by omega, fun q => absurd q e⟩
theorem inI_01 (o k : Nat) (t : VT) : inI o t k = 0 ∨ inI o t k = 1 := by
  simp only [inI]; split <;> simp
def S_part (s : ST) (p0 p1 p2 p3 p4 : Int) : ST := if (inI (s.O (tvW s.W p0.toNat).b) (tvW s.W p0.toNat) p1.toNat = 1 ∧ inI (s.O (tvW s.W p0.toNat).b) (tvW s.W p0.toNat) p3.toNat = 1) ∧ ¬ mwN (s.O (tvW s.W p0.toNat).b) p3.toNat < mwN (s.O (tvW s.W p0.toNat).b) p1.toNat then opS s ((tvW s.W p0.toNat).b, p1, p3, p2, p4) else s
def A_part (s : ST) (p0 p1 _p2 p3 _p4 : Int) : Int := if (inI (s.O (tvW s.W p0.toNat).b) (tvW s.W p0.toNat) p1.toNat = 1 ∧ inI (s.O (tvW s.W p0.toNat).b) (tvW s.W p0.toNat) p3.toNat = 1) ∧ ¬ mwN (s.O (tvW s.W p0.toNat).b) p3.toNat < mwN (s.O (tvW s.W p0.toNat).b) p1.toNat then frN s.W else -20000
def S_shut (s : ST) (p0 : Int) : ST := (s.O, s.V, upW s.W p0.toNat none, s.K, s.kk, s.kv, s.rf)
def A_shut (s : ST) (p0 : Int) : Int := mnF s.O s.V (tvW s.W p0.toNat) 100
/-- whether a key is within the view at a number -/
def wiB (s : ST) (p0 p1 : Int) : Int := inI (s.O (tvW s.W p0.toNat).b) (tvW s.W p0.toNat) p1.toNat
def vwV (s : ST) (p0 p1 : Int) : Int := s.V (tvW s.W p0.toNat).b p1.toNat
def vwS (s : ST) (p0 p1 nv : Int) : ST := mutS s (tvW s.W p0.toNat).b (upV (s.V (tvW s.W p0.toNat).b) p1.toNat nv)
def S_viewPut (s : ST) (p0 p1 p2 : Int) : ST := vwS s p0 p1 (if wiB s p0 p1 = 1 then p2 else vwV s p0 p1)
def A_viewPut (s : ST) (p0 p1 _p2 : Int) : Int := if wiB s p0 p1 = 1 then vwV s p0 p1 else -20000
def S_viewStrike (s : ST) (p0 p1 : Int) : ST := vwS s p0 p1 (if wiB s p0 p1 = 1 then -10000 else vwV s p0 p1)
def A_viewStrike (s : ST) (p0 p1 : Int) : Int := if wiB s p0 p1 = 1 then vwV s p0 p1 else -10000
def S_viewMerge (s : ST) (p0 p1 p2 : Int) : ST := vwS s p0 p1 (if wiB s p0 p1 = 1 then mgN (vwV s p0 p1) p2 else vwV s p0 p1)
def A_viewMerge (s : ST) (p0 p1 p2 : Int) : Int := if wiB s p0 p1 = 1 then mgN (vwV s p0 p1) p2 else -20000
def A_viewPoll (s : ST) (p0 p1 : Int) : Int := endF s.O s.V (tvW s.W p0.toNat) p1
def S_viewPoll (s : ST) (p0 p1 : Int) : ST := mutS s (tvW s.W p0.toNat).b (rmV (s.V (tvW s.W p0.toNat).b) (A_viewPoll s p0 p1))
def S_viewClear (s : ST) (p0 : Int) : ST := mutS s (tvW s.W p0.toNat).b (mapN (s.V (tvW s.W p0.toNat).b) (F_sa s.O s.V (tvW s.W p0.toNat)) 100)
def A_viewClear (s : ST) (p0 : Int) : Int := mnF s.O s.V (tvW s.W p0.toNat) 100
def wkS (s : ST) (K : WA) : ST := (s.O, s.V, s.W, K, s.kk, s.kv, s.rf)
def S_walk (s : ST) (p0 : Int) : ST := wkS s (some (whT p0.toNat, -10000, 0, 0, 0))
def A_walk (s : ST) (p0 : Int) : Int := mnF s.O s.V (whT p0.toNat) 100
def S_viewWalk (s : ST) (p0 : Int) : ST := wkS s (some (tvW s.W p0.toNat, -10000, 0, 0, 0))
def A_viewWalk (s : ST) (p0 : Int) : Int := mnF s.O s.V (tvW s.W p0.toNat) 100
/-- the walk's parts -/
def kT (K : WA) : VT := match K with
  | none => whT 0
  | some k => k.1
def kP (K : WA) : Int := match K with
  | none => -10000
  | some k => k.2.1
def kC (K : WA) : Int := match K with
  | none => 0
  | some k => k.2.2.1
def kH (K : WA) : Int := match K with
  | none => 0
  | some k => k.2.2.2.1
def kB (K : WA) : Int := match K with
  | none => 0
  | some k => k.2.2.2.2
/-- 1 just if there is a walk that is not broken -/
def kS (K : WA) : Int := match K with
  | none => 0
  | some k => if k.2.2.2.2 = 0 then 1 else 0
def rcW (O : OW) (t : VT) (ps : Int) : Int := if ps = -10000 then -1 else (mwN (O t.b) ps.toNat : Int)
def A_step (s : ST) : Int := clF s.O s.V (kT s.K) (rcW s.O (kT s.K) (kP s.K)) 1 100
def S_step (s : ST) : ST := if A_step s = -10000 then s else wkS s (some (kT s.K, A_step s, 1, 1, kB s.K))
def A_write (s : ST) (_p0 : Int) : Int := s.V (kT s.K).b (kP s.K).toNat
def S_write (s : ST) (p0 : Int) : ST := (s.O, upB s.V (kT s.K).b (upV (s.V (kT s.K).b) (kP s.K).toNat p0), s.W, some (kT s.K, kP s.K, kC s.K, kH s.K, if s.V (kT s.K).b (kP s.K).toNat = -10000 then 1 else 0), s.kk, s.kv, s.rf)
def F_dr (s : ST) : Nat → Int := upV (s.V (kT s.K).b) (kP s.K).toNat (-10000)
def S_drop (s : ST) : ST := (s.O, upB s.V (kT s.K).b (F_dr s), s.W, some (kT s.K, kP s.K, 0, 0, 0), s.kk, s.kv, s.rf)
def A_drop (s : ST) : Int := cntV (F_dr s)
def A_keep (s : ST) (p0 p1 : Int) : Int := endF s.O s.V (whT p0.toNat) p1
def S_keep (s : ST) (p0 p1 : Int) : ST := if A_keep s p0 p1 = -10000 then s else (s.O, s.V, s.W, s.K, iN (A_keep s p0 p1), iN (s.V p0.toNat (A_keep s p0 p1).toNat), s.rf)
def S_brand (s : ST) (_p0 : Int) : ST := s
def A_brand (s : ST) (_p0 : Int) : Int := if s.kk.toInt = -10000 then -10000 else -20000
def S_knock (s : ST) : ST := (s.O, s.V, s.W, s.K, s.kk, s.kv, iN (s.rf.toInt + 1))
/-- what is asked -/
def A_get (s : ST) (p0 p1 : Int) : Int := s.V p0.toNat p1.toNat
def A_getOr (s : ST) (p0 p1 p2 : Int) : Int := if s.V p0.toNat p1.toNat = -10000 then p2 else s.V p0.toNat p1.toNat
def A_has (s : ST) (p0 p1 : Int) : Int := if s.V p0.toNat p1.toNat = -10000 then 0 else 1
def A_hasValue (s : ST) (p0 p1 : Int) : Int := if cvN (s.V p0.toNat) p1 100 = 0 then 0 else 1
/-- each value counts with its last key alone -/
def laF (V : Nat → Int) (k n : Nat) : Int := sI (fun j => if k < j ∧ V j = V k then 1 else 0) n
def unF (V : Nat → Int) (n : Nat) : Int := sI (fun k => if V k ≠ -10000 ∧ laF V k 100 = 0 then 1 else 0) n
def dfF (V V2 : Nat → Int) (n : Nat) : Int := sI (fun k => if V k = V2 k then 0 else 1) n
theorem dfF_nn (V V2 : Nat → Int) (n : Nat) : 0 ≤ dfF V V2 n := (sI_rng (c := 1) (by omega) (fun k _ => by split <;> omega)).1
theorem dfF_iff {V V2 : Nat → Int} : ∀ {n : Nat}, dfF V V2 n = 0 ↔ ∀ k, k < n → V k = V2 k
  | 0 => ⟨fun _ k hk => absurd hk (Nat.not_lt_zero k), fun _ => rfl⟩
  | n + 1 => by
    have ih := dfF_iff (V := V) (V2 := V2) (n := n)
    have h0 := dfF_nn V V2 n
    have e : dfF V V2 (n + 1) = dfF V V2 n + (if V n = V2 n then 0 else 1) := rfl
    rw [e]
    constructor
    · intro h k hk
      by_cases c : V n = V2 n
      · rw [if_pos c] at h
        by_cases q : k = n
        · subst q; exact c
        · exact ih.mp (by omega) k (by omega)
      · rw [if_neg c] at h; omega
    · intro h
      rw [if_pos (h n (Nat.lt_succ_self n)), ih.mpr (fun k hk => h k (Nat.lt_succ_of_lt hk))]
      rfl
def A_ofBook (s : ST) (p0 p1 : Int) : Int :=
  if p1 = 0 then mnF s.O s.V (whT p0.toNat) 100 else if p1 = 1 then s.O p0.toNat else if p1 = 2 then endF s.O s.V (whT p0.toNat) 0 else if p1 = 3 then vlF (s.V p0.toNat) (endF s.O s.V (whT p0.toNat) 0) else if p1 = 4 then endF s.O s.V (whT p0.toNat) 1 else if p1 = 5 then vlF (s.V p0.toNat) (endF s.O s.V (whT p0.toNat) 1) else if p1 = 6 then smF s.O s.V (whT p0.toNat) 100 else if p1 = 7 then unF (s.V p0.toNat) 100 else vwN s.W p0.toNat 4
def A_near (s : ST) (p0 p1 p2 : Int) : Int := if p2 < 4 then nrF s.O s.V (whT p0.toNat) p1.toNat p2 else vlF (s.V p0.toNat) (nrF s.O s.V (whT p0.toNat) p1.toNat (p2 - 4))
def A_place (s : ST) (p0 p1 : Int) : Int := ahF s.O s.V p0.toNat p1.toNat 100
/-- the key at a place -/
def atQ (O : OW) (V : BW) (b : Nat) (pl : Int) (z : Int) : Prop := (z = -10000 ∧ ∀ k, k < 100 → V b k ≠ -10000 → ahF O V b k 100 ≠ pl) ∨ ((0 ≤ z ∧ z ≤ 99) ∧ V b z.toNat ≠ -10000 ∧ ahF O V b z.toNat 100 = pl)
def A_same (s : ST) (p0 p1 : Int) : Int := if dfF (s.V p0.toNat) (s.V p1.toNat) 100 = 0 then 1 else 0
def A_viewGet (s : ST) (p0 p1 : Int) : Int := if wiB s p0 p1 = 1 then vwV s p0 p1 else -10000
def A_ofView (s : ST) (p0 p1 : Int) : Int :=
  if p1 = 0 then mnF s.O s.V (tvW s.W p0.toNat) 100 else if p1 = 1 then (tvW s.W p0.toNat).b else if p1 = 2 then (tvW s.W p0.toNat).lo else if p1 = 3 then (tvW s.W p0.toNat).up else if p1 = 4 then (tvW s.W p0.toNat).li else if p1 = 5 then (tvW s.W p0.toNat).ui else if p1 = 6 then endF s.O s.V (tvW s.W p0.toNat) 0 else if p1 = 7 then endF s.O s.V (tvW s.W p0.toNat) 1 else smF s.O s.V (tvW s.W p0.toNat) 100
def A_viewNear (s : ST) (p0 p1 p2 : Int) : Int := nrF s.O s.V (tvW s.W p0.toNat) p1.toNat p2
def A_ledger (s : ST) (p0 : Int) : Int :=
  if p0 = 0 then opC s.W 4 else if p0 = 1 then (match s.K with
  | none => -10000
  | some k => (k.1.b : Int)) else if p0 = 2 then kB s.K else if p0 = 3 then (if kH s.K = 1 then kP s.K else -10000) else if p0 = 4 then s.kk.toInt else if p0 = 5 then s.kv.toInt else s.rf.toInt
section
variable {s : ST} {u : VT} {p0 p1 p2 p3 p4 : Int}
theorem vwS_eq (h : s.W p0.toNat = some u) {nv nv2 : Int} (e : nv2 = nv) : vwS s p0 p1 nv = mutS s u.b (upV (s.V u.b) p1.toNat nv2) := by subst e; simp only [vwS, tvW_some h]
theorem wiB_eq (h : s.W p0.toNat = some u) : wiB s p0 p1 = inI (s.O u.b) u p1.toNat := by simp only [wiB, tvW_some h]
theorem vwV_eq (h : s.W p0.toNat = some u) : vwV s p0 p1 = s.V u.b p1.toNat := by simp only [vwV, tvW_some h]
end
theorem kS_some {t : VT} {ps cd hd br : Int} : kS (some (t, ps, cd, hd, br)) = 1 ↔ br = 0 := by
  simp only [kS]
  by_cases e : br = 0
  · rw [if_pos e]; exact ⟨fun _ => e, fun _ => rfl⟩
  · rw [if_neg e]; exact ⟨fun q => by omega, fun q => absurd q e⟩
end FSTATE
