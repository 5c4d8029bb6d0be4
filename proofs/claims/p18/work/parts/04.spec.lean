/-! the pure part: orders, books as functions from keys to values, counts and sums -/
section FSPEC
/-- the class's weight of a key, the reference's -/
def cwN (o k : Nat) : Nat := if o = 0 then k else if o = 1 then (if k % 2 = 0 then 100 - k else 200 - k) else if k < 4 then k * 256 else if k < 16 then k * 64 + 1 else if k < 64 then k * 16 + 2 else k * 4 + 3
def nmN (k : Nat) : Nat := if k < 4 then (k % 4 + 1) * 125 else if k < 16 then ((k / 4 % 4 + 1) * 5 + (k % 4 + 1)) * 25 else if k < 64 then (((k / 16 % 4 + 1) * 5 + (k / 4 % 4 + 1)) * 5 + (k % 4 + 1)) * 5 else (((k / 64 % 4 + 1) * 5 + (k / 16 % 4 + 1)) * 5 + (k / 4 % 4 + 1)) * 5 + (k % 4 + 1)
def mwN (o k : Nat) : Nat := if o = 0 then k else if o = 1 then (if k % 2 = 0 then 98 - k else 199 - k) else nmN k
/-- the keys by their orders, and each one's place there -/
def ky_L : List (List Nat) := [[0, 1, 2, 3, 4, 5, 6, 7, 8, 9, 10, 11, 12, 13, 14, 15, 16, 17, 18, 19, 20, 21, 22, 23, 24, 25, 26, 27, 28, 29, 30, 31, 32, 33, 34, 35, 36, 37, 38, 39, 40, 41, 42, 43, 44, 45, 46, 47, 48, 49, 50, 51, 52, 53, 54, 55, 56, 57, 58, 59, 60, 61, 62, 63, 64, 65, 66, 67, 68, 69, 70, 71, 72, 73, 74, 75, 76, 77, 78, 79, 80, 81, 82, 83, 84, 85, 86, 87, 88, 89, 90, 91, 92, 93, 94, 95, 96, 97, 98, 99], [98, 96, 94, 92, 90, 88, 86, 84, 82, 80, 78, 76, 74, 72, 70, 68, 66, 64, 62, 60, 58, 56, 54, 52, 50, 48, 46, 44, 42, 40, 38, 36, 34, 32, 30, 28, 26, 24, 22, 20, 18, 16, 14, 12, 10, 8, 6, 4, 2, 0, 99, 97, 95, 93, 91, 89, 87, 85, 83, 81, 79, 77, 75, 73, 71, 69, 67, 65, 63, 61, 59, 57, 55, 53, 51, 49, 47, 45, 43, 41, 39, 37, 35, 33, 31, 29, 27, 25, 23, 21, 19, 17, 15, 13, 11, 9, 7, 5, 3, 1], [0, 1, 4, 16, 64, 65, 66, 67, 17, 68, 69, 70, 71, 18, 72, 73, 74, 75, 19, 76, 77, 78, 79, 5, 20, 80, 81, 82, 83, 21, 84, 85, 86, 87, 22, 88, 89, 90, 91, 23, 92, 93, 94, 95, 6, 24, 96, 97, 98, 99, 25, 26, 27, 7, 28, 29, 30, 31, 2, 8, 32, 33, 34, 35, 9, 36, 37, 38, 39, 10, 40, 41, 42, 43, 11, 44, 45, 46, 47, 3, 12, 48, 49, 50, 51, 13, 52, 53, 54, 55, 14, 56, 57, 58, 59, 15, 60, 61, 62, 63]]
def ky_R : List (List Nat) := [[0, 1, 2, 3, 4, 5, 6, 7, 8, 9, 10, 11, 12, 13, 14, 15, 16, 17, 18, 19, 20, 21, 22, 23, 24, 25, 26, 27, 28, 29, 30, 31, 32, 33, 34, 35, 36, 37, 38, 39, 40, 41, 42, 43, 44, 45, 46, 47, 48, 49, 50, 51, 52, 53, 54, 55, 56, 57, 58, 59, 60, 61, 62, 63, 64, 65, 66, 67, 68, 69, 70, 71, 72, 73, 74, 75, 76, 77, 78, 79, 80, 81, 82, 83, 84, 85, 86, 87, 88, 89, 90, 91, 92, 93, 94, 95, 96, 97, 98, 99], [49, 99, 48, 98, 47, 97, 46, 96, 45, 95, 44, 94, 43, 93, 42, 92, 41, 91, 40, 90, 39, 89, 38, 88, 37, 87, 36, 86, 35, 85, 34, 84, 33, 83, 32, 82, 31, 81, 30, 80, 29, 79, 28, 78, 27, 77, 26, 76, 25, 75, 24, 74, 23, 73, 22, 72, 21, 71, 20, 70, 19, 69, 18, 68, 17, 67, 16, 66, 15, 65, 14, 64, 13, 63, 12, 62, 11, 61, 10, 60, 9, 59, 8, 58, 7, 57, 6, 56, 5, 55, 4, 54, 3, 53, 2, 52, 1, 51, 0, 50], [0, 1, 58, 79, 2, 23, 44, 53, 59, 64, 69, 74, 80, 85, 90, 95, 3, 8, 13, 18, 24, 29, 34, 39, 45, 50, 51, 52, 54, 55, 56, 57, 60, 61, 62, 63, 65, 66, 67, 68, 70, 71, 72, 73, 75, 76, 77, 78, 81, 82, 83, 84, 86, 87, 88, 89, 91, 92, 93, 94, 96, 97, 98, 99, 4, 5, 6, 7, 9, 10, 11, 12, 14, 15, 16, 17, 19, 20, 21, 22, 25, 26, 27, 28, 30, 31, 32, 33, 35, 36, 37, 38, 40, 41, 42, 43, 46, 47, 48, 49]]
def kyN (o i : Nat) : Nat := (ky_L.getD o []).getD i 0
def kyR (o k : Nat) : Nat := (ky_R.getD o []).getD k 0
set_option maxRecDepth 100000 in
theorem ky_st : ∀ o, o < 3 → ∀ i, i < 99 → (cwN o (kyN o i) < cwN o (kyN o (i + 1)) ∧ mwN o (kyN o i) < mwN o (kyN o (i + 1))) := by decide +kernel
set_option maxRecDepth 100000 in
theorem ky_in : ∀ o, o < 3 → ∀ k, k < 100 → (kyR o k < 100 ∧ kyN o (kyR o k) = k) := by decide +kernel
theorem ky_mono {f : Nat → Nat} (h : ∀ i, i < 99 → f i < f (i + 1)) {i : Nat} : ∀ {j : Nat}, i < j → j < 100 → f i < f j
  | 0, h1, _ => absurd h1 (Nat.not_lt_zero _)
  | j + 1, h1, h2 => by
    by_cases e : i = j
    · subst e; exact h i (by omega)
    · exact Nat.lt_trans (ky_mono h (j := j) (by omega) (by omega)) (h j (by omega))
/-- what a key weighs, by its order and its size -/
theorem cwN_0 {o k : Nat} (h : o = 0) : cwN o k = k := by rw [cwN, if_pos h]
theorem cwN_1e {o k : Nat} (h : o = 1) (h2 : k % 2 = 0) : cwN o k = 100 - k := by rw [cwN, if_neg (by omega), if_pos h, if_pos h2]
theorem cwN_1o {o k : Nat} (h : o = 1) (h2 : ¬ k % 2 = 0) : cwN o k = 200 - k := by rw [cwN, if_neg (by omega), if_pos h, if_neg h2]
theorem cwN_2a {o k : Nat} (h : ¬ o = 0) (h1 : ¬ o = 1) (h2 : k < 4) : cwN o k = k * 256 := by rw [cwN, if_neg h, if_neg h1, if_pos h2]
theorem cwN_2b {o k : Nat} (h : ¬ o = 0) (h1 : ¬ o = 1) (h2 : ¬ k < 4) (h3 : k < 16) : cwN o k = k * 64 + 1 := by rw [cwN, if_neg h, if_neg h1, if_neg h2, if_pos h3]
theorem cwN_2c {o k : Nat} (h : ¬ o = 0) (h1 : ¬ o = 1) (h2 : ¬ k < 16) (h3 : k < 64) : cwN o k = k * 16 + 2 := by rw [cwN, if_neg h, if_neg h1, if_neg (by omega), if_neg h2, if_pos h3]
theorem cwN_2d {o k : Nat} (h : ¬ o = 0) (h1 : ¬ o = 1) (h2 : ¬ k < 64) : cwN o k = k * 4 + 3 := by rw [cwN, if_neg h, if_neg h1, if_neg (by omega), if_neg (by omega), if_neg h2]
theorem cw_mw0 : ∀ o, o < 3 → ∀ a, a < 100 → ∀ b, b < 100 → ((cwN o a < cwN o b ↔ mwN o a < mwN o b) ∧ (cwN o a = cwN o b → a = b)) := by
  intro o ho a ha b hb
  obtain ⟨a1, a2⟩ := ky_in o ho a ha
  obtain ⟨b1, b2⟩ := ky_in o ho b hb
  have hc : ∀ {i j : Nat}, i < j → j < 100 → cwN o (kyN o i) < cwN o (kyN o j) := fun h1 h2 => ky_mono (f := fun i => cwN o (kyN o i)) (fun i hi => (ky_st o ho i hi).1) h1 h2
  have hm : ∀ {i j : Nat}, i < j → j < 100 → mwN o (kyN o i) < mwN o (kyN o j) := fun h1 h2 => ky_mono (f := fun i => mwN o (kyN o i)) (fun i hi => (ky_st o ho i hi).2) h1 h2
  rcases Nat.lt_trichotomy (kyR o a) (kyR o b) with h | h | h
  · have h1 := hc h b1
    have h2 := hm h b1
    rw [a2, b2] at h1 h2
    exact ⟨⟨fun _ => h2, fun _ => h1⟩, fun e => by omega⟩
  · have e : a = b := by rw [← a2, ← b2, h]
    subst e
    exact ⟨⟨fun q => absurd q (Nat.lt_irrefl _), fun q => absurd q (Nat.lt_irrefl _)⟩, fun _ => rfl⟩
  · have h1 := hc h a1
    have h2 := hm h a1
    rw [a2, b2] at h1 h2
    exact ⟨⟨fun q => by omega, fun q => by omega⟩, fun e => by omega⟩
set_option maxRecDepth 100000 in
theorem cw_lt0 : ∀ o, o < 3 → ∀ a, a < 100 → (cwN o a < 1024 ∧ mwN o a ≤ 999) := by decide +kernel
theorem cw_mw {o a b : Nat} (ho : o < 3) (ha : a < 100) (hb : b < 100) : cwN o a < cwN o b ↔ mwN o a < mwN o b := (cw_mw0 o ho a ha b hb).1
theorem cw_inj {o a b : Nat} (ho : o < 3) (ha : a < 100) (hb : b < 100) (h : cwN o a = cwN o b) : a = b := (cw_mw0 o ho a ha b hb).2 h
theorem mw_inj {o a b : Nat} (ho : o < 3) (ha : a < 100) (hb : b < 100) (h : mwN o a = mwN o b) : a = b := by
  refine cw_inj ho ha hb ?_
  have h1 := cw_mw ho ha hb
  have h2 := cw_mw ho hb ha
  omega
/-- sums -/
def sI (f : Nat → Int) : Nat → Int
  | 0 => 0
  | n + 1 => sI f n + f n
theorem sI_congr {f g : Nat → Int} : ∀ {n : Nat}, (∀ k, k < n → f k = g k) → sI f n = sI g n
  | 0, _ => rfl
  | n + 1, h => by
    simp only [sI]
    rw [sI_congr (fun k hk => h k (Nat.lt_succ_of_lt hk)), h n (Nat.lt_succ_self n)]
theorem sI_zero : ∀ n, sI (fun _ => 0) n = 0
  | 0 => rfl
  | n + 1 => by simp only [sI]; rw [sI_zero n]; rfl
theorem sI_upd (f : Nat → Int) {x : Nat} (a : Int) : ∀ {n : Nat}, x < n → sI (fun k => if k = x then a else f k) n = sI f n - f x + a
  | 0, h => absurd h (Nat.not_lt_zero _)
  | n + 1, h => by
    simp only [sI]
    by_cases e : x = n
    · subst e
      rw [if_pos rfl, sI_congr (f := fun k => if k = x then a else f k) (g := f) (fun k hk => if_neg (Nat.ne_of_lt hk))]
      omega
    · rw [sI_upd f a (by omega), if_neg (fun q => e q.symm)]
      omega
theorem sI_rng {f : Nat → Int} {c : Int} (hc : 0 ≤ c) : ∀ {n : Nat}, (∀ k, k < n → 0 ≤ f k ∧ f k ≤ c) → 0 ≤ sI f n ∧ sI f n ≤ c * n
  | 0, _ => by simp [sI]
  | n + 1, h => by
    have h1 := sI_rng hc (n := n) (fun k hk => h k (Nat.lt_succ_of_lt hk))
    have h2 := h n (Nat.lt_succ_self n)
    simp only [sI]
    have e : c * ((n + 1 : Nat) : Int) = c * n + c := by rw [Int.natCast_succ, Int.mul_add, Int.mul_one]
    omega
theorem sI_abs {f : Nat → Int} {c : Int} (hc : 0 ≤ c) : ∀ {n : Nat}, (∀ k, k < n → -c ≤ f k ∧ f k ≤ c) → -(c * n) ≤ sI f n ∧ sI f n ≤ c * n
  | 0, _ => by simp [sI]
  | n + 1, h => by
    have h1 := sI_abs hc (n := n) (fun k hk => h k (Nat.lt_succ_of_lt hk))
    have h2 := h n (Nat.lt_succ_self n)
    simp only [sI]
    have e : c * ((n + 1 : Nat) : Int) = c * n + c := by rw [Int.natCast_succ, Int.mul_add, Int.mul_one]
    omega
theorem sI_le {f g : Nat → Int} : ∀ {n : Nat}, (∀ k, k < n → f k ≤ g k) → sI f n ≤ sI g n
  | 0, _ => Int.le_refl _
  | n + 1, h => by
    have h1 := sI_le (n := n) (fun k hk => h k (Nat.lt_succ_of_lt hk))
    have h2 := h n (Nat.lt_succ_self n)
    simp only [sI]; omega
/-- a sum over places is one over keys -/
theorem sI_perm {K : Nat → Nat} {N : Nat} (f : Nat → Int) : ∀ (z : Nat) (P : Nat → Bool), (∀ p, p < z → K p < N ∧ P (K p) = true) → (∀ p q, p < q → q < z → K p ≠ K q) → (∀ k, k < N → P k = true → ∃ p, p < z ∧ K p = k) → sI (fun p => f (K p)) z = sI (fun k => if P k = true then f k else 0) N
  | 0, P, h1, h2, h3 => by
    rw [sI_congr (f := fun k => if P k = true then f k else 0) (g := fun _ => 0) (fun k hk => if_neg (fun q => by obtain ⟨p, hp, -⟩ := h3 k hk q; omega)), sI_zero]
    rfl
  | z + 1, P, h1, h2, h3 => by
    have hz := h1 z (Nat.lt_succ_self z)
    have ih := sI_perm (K := K) (N := N) f z (fun k => P k && decide (k ≠ K z)) (fun p hp => ⟨(h1 p (Nat.lt_succ_of_lt hp)).1, by
      have e := h2 p z hp (Nat.lt_succ_self z)
      simp [(h1 p (Nat.lt_succ_of_lt hp)).2, e]⟩) (fun p q hpq hq => h2 p q hpq (Nat.lt_succ_of_lt hq)) (fun k hk hP => by
      simp only [Bool.and_eq_true, decide_eq_true_eq] at hP
      obtain ⟨p, hp, e⟩ := h3 k hk hP.1
      refine ⟨p, ?_, e⟩
      have : p ≠ z := fun q => hP.2 (by rw [← e, q])
      omega)
    simp only [sI]
    rw [ih]
    have e := sI_upd (fun k => if (P k && decide (k ≠ K z)) = true then f k else 0) (f (K z)) hz.1
    rw [sI_congr (f := fun k => if P k = true then f k else 0) (g := fun k => if k = K z then f (K z) else (if (P k && decide (k ≠ K z)) = true then f k else 0)) (fun k _ => by
      by_cases q : k = K z
      · rw [if_pos q, q, if_pos hz.2]
      · rw [if_neg q]; simp [q]), e]
    simp
/-- the key at a place -/
abbrev kN (fk : Nat → Int32) (p : Nat) : Nat := (fk p).toInt.toNat
/-- a book's rows hold the values of V, by the order o -/
def BV (o : Nat) (V : Nat → Int) (n : Nat) (fk fv : Nat → Int32) : Prop :=
  n ≤ 100 ∧ (∀ p, p < n → 0 ≤ (fk p).toInt ∧ (fk p).toInt ≤ 99 ∧ (fv p).toInt = V (kN fk p) ∧ V (kN fk p) ≠ -10000) ∧ (∀ p q, p < q → q < n → cwN o (kN fk p) < cwN o (kN fk q)) ∧ (∀ k, k < 100 → V k ≠ -10000 → ∃ p, p < n ∧ kN fk p = k) ∧ (∀ k, k < 100 → -10000 ≤ V k ∧ V k ≤ 9999)
def upV (V : Nat → Int) (k : Nat) (v : Int) : Nat → Int := fun j => if j = k then v else V j
theorem upV_s (V : Nat → Int) (k : Nat) (v : Int) : upV V k v k = v := if_pos rfl
theorem upV_n (V : Nat → Int) {j k : Nat} (v : Int) (h : j ≠ k) : upV V k v j = V j := if_neg h
/-- how many keys have values; how many of them weigh less -/
def cntV (V : Nat → Int) : Int := sI (fun k => if V k = -10000 then 0 else 1) 100
def ahV (o : Nat) (V : Nat → Int) (w : Int) : Int := sI (fun k => if V k ≠ -10000 ∧ (cwN o k : Int) < w then 1 else 0) 100
section
variable {o n z : Nat} {V : Nat → Int} {fk fv : Nat → Int32}
theorem BV.k (h : BV o V n fk fv) {p : Nat} (hp : p < n) : (0 ≤ (fk p).toInt ∧ (fk p).toInt ≤ 99) ∧ kN fk p < 100 ∧ ((kN fk p : Nat) : Int) = (fk p).toInt := by
  obtain ⟨h1, h2, -⟩ := h.2.1 p hp
  exact ⟨⟨h1, h2⟩, by simp only [kN]; omega, by simp only [kN]; omega⟩
theorem BV.v (h : BV o V n fk fv) {p : Nat} (hp : p < n) : (fv p).toInt = V (kN fk p) ∧ V (kN fk p) ≠ -10000 := (h.2.1 p hp).2.2
theorem BV.vr (h : BV o V n fk fv) {k : Nat} (hk : k < 100) : -10000 ≤ V k ∧ V k ≤ 9999 := h.2.2.2.2 k hk
theorem BV.so (h : BV o V n fk fv) {p q : Nat} (hpq : p < q) (hq : q < n) : cwN o (kN fk p) < cwN o (kN fk q) := h.2.2.1 p q hpq hq
theorem BV.at (h : BV o V n fk fv) {k : Nat} (hk : k < 100) (hv : V k ≠ -10000) : ∃ p, p < n ∧ kN fk p = k := h.2.2.2.1 k hk hv
theorem BV.ne (h : BV o V n fk fv) {p q : Nat} (hpq : p < q) (hq : q < n) : kN fk p ≠ kN fk q := fun e => by have := h.so hpq hq; rw [e] at this; omega
theorem BV.inj (h : BV o V n fk fv) {p q : Nat} (hp : p < n) (hq : q < n) (e : kN fk p = kN fk q) : p = q := by
  rcases Nat.lt_trichotomy p q with g | g | g
  · exact absurd e (h.ne g hq)
  · exact g
  · exact absurd e.symm (h.ne g hp)
/-- a sum over a book's places is one over the keys that have values -/
theorem BV.sum (h : BV o V n fk fv) (f : Nat → Int) : sI (fun p => f (kN fk p)) n = sI (fun k => if V k ≠ -10000 then f k else 0) 100 := by
  rw [sI_perm f n (fun k => decide (V k ≠ -10000)) (fun p hp => ⟨(h.k hp).2.1, decide_eq_true (h.v hp).2⟩) (fun p q hpq hq => h.ne hpq hq) (fun k hk hv => h.at hk (by simpa using hv))]
  exact sI_congr (fun k _ => by simp)
theorem BV.cnt (h : BV o V n fk fv) : cntV V = n := by
  have e := h.sum (fun _ => 1)
  have e1 : ∀ n : Nat, sI (fun _ => 1) n = n := fun n => by
    induction n with
    | zero => rfl
    | succ n ih => simp only [sI]; rw [ih]; omega
  rw [e1] at e
  rw [e, cntV]
  exact sI_congr (fun k _ => by by_cases q : V k = -10000 <;> simp [q])
/-- the place of a weight: how many lie ahead -/
def plW (o : Nat) (n : Nat) (fk : Nat → Int32) (w : Int) (z : Nat) : Prop := z ≤ n ∧ ∀ q, q < n → ((cwN o (kN fk q) : Int) < w ↔ q < z)
theorem BV.ah (h : BV o V n fk fv) {w : Int} (hz : plW o n fk w z) : ahV o V w = z := by
  have e := h.sum (fun k => if (cwN o k : Int) < w then 1 else 0)
  have e1 : ∀ m : Nat, m ≤ n → sI (fun p => if (cwN o (kN fk p) : Int) < w then 1 else 0) m = (if m ≤ z then (m : Int) else z) := fun m => by
    induction m with
    | zero => intro _; simp [sI]
    | succ m ih =>
      intro hm
      have g := hz.2 m hm
      simp only [sI]
      rw [ih (by omega)]
      by_cases q : m < z
      · rw [if_pos (g.mpr q), if_pos (by omega), if_pos (by omega)]; omega
      · rw [if_neg (fun x => q (g.mp x))]
        by_cases q2 : m = z
        · rw [if_pos (by omega), if_neg (by omega)]; omega
        · rw [if_neg (by omega), if_neg (by omega)]; omega
  rw [e1 n (Nat.le_refl n)] at e
  have e2 : (if n ≤ z then (n : Int) else z) = z := by
    have := hz.1
    split <;> omega
  rw [e2] at e
  rw [e, ahV]
  refine sI_congr (fun k _ => ?_)
  by_cases q : V k = -10000
  · simp [q]
  · by_cases q2 : (cwN o k : Int) < w <;> simp [q, q2]
/-- a key is in the book just if it is at its place -/
theorem BV.find (ho : o < 3) (h : BV o V n fk fv) {k : Nat} (hk : k < 100) (hz : plW o n fk (cwN o k) z) : (V k ≠ -10000 ∧ z < n ∧ kN fk z = k) ∨ (V k = -10000 ∧ ∀ p, p < n → kN fk p ≠ k) := by
  by_cases hv : V k = -10000
  · exact Or.inr ⟨hv, fun p hp e => (h.v hp).2 (by rw [e]; exact hv)⟩
  · obtain ⟨p, hp, e⟩ := h.at hk hv
    have h1 := hz.2 p hp
    rw [e] at h1
    have h2 : z ≤ p := by omega
    have h3 : z = p := by
      by_cases q : z = p
      · exact q
      · have h4 := hz.2 z (by omega)
        have h5 := h.so (p := z) (q := p) (by omega) hp
        rw [e] at h5
        omega
    subst h3
    exact Or.inl ⟨hv, hp, e⟩
/-- a full book has all keys -/
theorem BV.room (h : BV o V n fk fv) {k : Nat} (hk : k < 100) (hv : V k = -10000) : n < 100 := by
  have e := h.cnt
  have e1 : cntV V ≤ sI (fun j => if j = k then 0 else 1) 100 := sI_le (fun j _ => by
    by_cases q : j = k
    · subst q; simp [hv]
    · by_cases q2 : V j = -10000 <;> simp [q, q2])
  have e2 := sI_upd (fun _ => 1) (x := k) 0 (n := 100) hk
  have e3 : sI (fun _ => 1) 100 = 100 := by simp [sI]
  omega
end
theorem kN_upd_s {f : Nat → Int32} {z : Nat} {k : Int} (h0 : 0 ≤ k) (h1 : k ≤ 99) : kN (upd f z (iN k)) z = k.toNat := by
  simp only [kN, upd, if_true]; rw [iN_toInt ⟨by omega, by omega⟩]
theorem BV.ins {o n z : Nat} {V : Nat → Int} {fk fv : Nat → Int32} (ho : o < 3) (h : BV o V n fk fv) {k v : Int} (hk : 0 ≤ k ∧ k ≤ 99) (hv : -9999 ≤ v ∧ v ≤ 9999) (hn : V k.toNat = -10000) (hz : plW o n fk (cwN o k.toNat) z) :
    BV o (upV V k.toNat v) (n + 1) (upd (va_cpy fk fk z (z + 1) (n - z)) z (iN k)) (upd (va_cpy fv fv z (z + 1) (n - z)) z (iN v)) := by
  have hroom := h.room (k := k.toNat) (by omega) hn
  have nf : ∀ p, p < n → kN fk p ≠ k.toNat := fun p hp e => (h.v hp).2 (by rw [e]; exact hn)
  have ev : (iN v).toInt = v := iN_toInt ⟨by omega, by omega⟩
  have ek : (iN k).toInt = k := iN_toInt ⟨by omega, by omega⟩
  have c1 : ∀ (f : Nat → Int32) (x : Int32) (p : Nat), p < z → upd (va_cpy f f z (z + 1) (n - z)) z x p = f p := fun f x p hp => by
    simp only [upd, va_cpy]; rw [if_neg (by omega), if_neg (by omega)]
  have c2 : ∀ (f : Nat → Int32) (x : Int32), upd (va_cpy f f z (z + 1) (n - z)) z x z = x := fun f x => by simp [upd]
  have c3 : ∀ (f : Nat → Int32) (x : Int32) (p : Nat), z < p → p < n + 1 → upd (va_cpy f f z (z + 1) (n - z)) z x p = f (p - 1) := fun f x p hp hq => by
    simp only [upd, va_cpy]
    rw [if_neg (by omega), if_pos (by omega), show z + (p - (z + 1)) = p - 1 by omega]
  have hz1 := hz.1
  have hlt : ∀ p, p < n → (p < z → cwN o (kN fk p) < cwN o k.toNat) ∧ (z ≤ p → cwN o k.toNat < cwN o (kN fk p)) := fun p hp => by
    have g := hz.2 p hp
    refine ⟨fun q => by omega, fun q => ?_⟩
    have g2 : cwN o (kN fk p) ≠ cwN o k.toNat := fun e => nf p hp (cw_inj ho (h.k hp).2.1 (by omega) e)
    omega
  have kk : ∀ p, p < n + 1 → (p < z ∧ kN (upd (va_cpy fk fk z (z + 1) (n - z)) z (iN k)) p = kN fk p) ∨ (p = z ∧ kN (upd (va_cpy fk fk z (z + 1) (n - z)) z (iN k)) p = k.toNat) ∨ (z < p ∧ kN (upd (va_cpy fk fk z (z + 1) (n - z)) z (iN k)) p = kN fk (p - 1)) := fun p hp => by
    rcases Nat.lt_trichotomy p z with q | q | q
    · exact Or.inl ⟨q, by simp only [kN]; rw [c1 fk _ p q]⟩
    · subst q; exact Or.inr (Or.inl ⟨rfl, by simp only [kN]; rw [c2, ek]⟩)
    · exact Or.inr (Or.inr ⟨q, by simp only [kN]; rw [c3 fk _ p q hp]⟩)
  refine ⟨by omega, fun p hp => ?_, fun p q hpq hq => ?_, fun j hj hvj => ?_, fun j hj => ?_⟩
  · rcases Nat.lt_trichotomy p z with q | q | q
    · have g := h.2.1 p (by omega)
      have nk := nf p (by omega)
      simp only [kN] at g nk ⊢
      rw [c1 fk _ p q, c1 fv _ p q, upV_n _ _ nk]; exact g
    · subst q
      simp only [kN]
      rw [c2, c2, ek, ev, upV_s]
      exact ⟨hk.1, hk.2, rfl, by omega⟩
    · have g := h.2.1 (p - 1) (by omega)
      have nk := nf (p - 1) (by omega)
      simp only [kN] at g nk ⊢
      rw [c3 fk _ p q hp, c3 fv _ p q hp, upV_n _ _ nk]; exact g
  · rcases kk p (by omega) with ⟨a1, a2⟩ | ⟨a1, a2⟩ | ⟨a1, a2⟩
    · rcases kk q hq with ⟨b1, b2⟩ | ⟨b1, b2⟩ | ⟨b1, b2⟩
      · rw [a2, b2]; exact h.so hpq (Nat.lt_of_lt_of_le b1 hz1)
      · rw [a2, b2]; exact (hlt p (Nat.lt_of_lt_of_le a1 hz1)).1 a1
      · rw [a2, b2]; exact Nat.lt_trans ((hlt p (Nat.lt_of_lt_of_le a1 hz1)).1 a1) ((hlt (q - 1) (by omega)).2 (by omega))
    · rcases kk q hq with ⟨b1, b2⟩ | ⟨b1, b2⟩ | ⟨b1, b2⟩
      · exact absurd b1 (by omega)
      · exact absurd b1 (by omega)
      · rw [a2, b2]; exact (hlt (q - 1) (by omega)).2 (by omega)
    · rcases kk q hq with ⟨b1, b2⟩ | ⟨b1, b2⟩ | ⟨b1, b2⟩
      · exact absurd b1 (by omega)
      · exact absurd b1 (by omega)
      · rw [a2, b2]; exact h.so (p := p - 1) (q := q - 1) (by omega) (by omega)
  · by_cases e : j = k.toNat
    · exact ⟨z, by omega, by rcases kk z (by omega) with ⟨a1, a2⟩ | ⟨a1, a2⟩ | ⟨a1, a2⟩ <;> first | (exfalso; omega) | (rw [a2, e])⟩
    · rw [upV_n _ _ e] at hvj
      obtain ⟨p, hp, ep⟩ := h.at hj hvj
      by_cases q : p < z
      · exact ⟨p, by omega, by rcases kk p (by omega) with ⟨a1, a2⟩ | ⟨a1, a2⟩ | ⟨a1, a2⟩ <;> first | (exfalso; omega) | (rw [a2, ep])⟩
      · exact ⟨p + 1, by omega, by rcases kk (p + 1) (by omega) with ⟨a1, a2⟩ | ⟨a1, a2⟩ | ⟨a1, a2⟩ <;> first | (exfalso; omega) | (rw [a2]; exact ep)⟩
  · by_cases e : j = k.toNat
    · rw [e, upV_s]; omega
    · rw [upV_n _ _ e]; exact h.vr hj
/-- a value was written over -/
theorem BV.over {o n z : Nat} {V : Nat → Int} {fk fv : Nat → Int32} (h : BV o V n fk fv) {v : Int} (hv : -9999 ≤ v ∧ v ≤ 9999) (hz : z < n) : BV o (upV V (kN fk z) v) n fk (upd fv z (iN v)) := by
  have ev : (iN v).toInt = v := iN_toInt ⟨by omega, by omega⟩
  refine ⟨h.1, fun p hp => ?_, h.2.2.1, fun j hj hvj => ?_, fun j hj => ?_⟩
  · have g := h.2.1 p hp
    refine ⟨g.1, g.2.1, ?_⟩
    by_cases e : p = z
    · subst e; rw [upV_s]; simp only [upd, if_true]; rw [ev]; exact ⟨rfl, by omega⟩
    · have e2 : kN fk p ≠ kN fk z := fun q => e (h.inj hp hz q)
      rw [upV_n _ _ e2]; simp only [upd, if_neg e]; exact g.2.2
  · by_cases e : j = kN fk z
    · exact ⟨z, hz, e.symm⟩
    · rw [upV_n _ _ e] at hvj; exact h.at hj hvj
  · by_cases e : j = kN fk z
    · rw [e, upV_s]; omega
    · rw [upV_n _ _ e]; exact h.vr hj
/-- the pairs from the place a on to that ahead of e were struck -/
theorem BV.rem {o n a e : Nat} {V V1 : Nat → Int} {fk fv : Nat → Int32} (h : BV o V n fk fv) (hae : a ≤ e) (hen : e ≤ n) (hV : ∀ p, p < n → V1 (kN fk p) = if a ≤ p ∧ p < e then -10000 else V (kN fk p)) (hV2 : ∀ k, k < 100 → V k = -10000 → V1 k = -10000) :
    BV o V1 (n - (e - a)) (va_cpy fk fk e a (n - e)) (va_cpy fv fv e a (n - e)) := by
  have hn := h.1
  have c1 : ∀ (f : Nat → Int32) (p : Nat), p < n - (e - a) → va_cpy f f e a (n - e) p = f (if p < a then p else p + (e - a)) := fun f p hp => by
    simp only [va_cpy]
    by_cases q : p < a
    · rw [if_neg (by omega), if_pos q]
    · rw [if_pos (by omega), if_neg q]; congr 1; omega
  have idx : ∀ p, p < n - (e - a) → (if p < a then p else p + (e - a)) < n ∧ ¬ (a ≤ (if p < a then p else p + (e - a)) ∧ (if p < a then p else p + (e - a)) < e) := fun p hp => by
    by_cases q : p < a
    · rw [if_pos q]; omega
    · rw [if_neg q]; omega
  refine ⟨by omega, fun p hp => ?_, fun p q hpq hq => ?_, fun j hj hvj => ?_, fun j hj => ?_⟩
  · obtain ⟨i1, i2⟩ := idx p hp
    have g := h.2.1 _ i1
    have g2 := hV _ i1
    rw [if_neg i2] at g2
    simp only [kN] at g g2 ⊢
    rw [c1 fk p hp, c1 fv p hp, g2]; exact g
  · obtain ⟨i1, -⟩ := idx p (by omega)
    obtain ⟨j1, -⟩ := idx q hq
    simp only [kN]
    rw [c1 fk p (by omega), c1 fk q hq]
    refine h.so ?_ j1
    by_cases x : p < a <;> by_cases y : q < a
    · rw [if_pos x, if_pos y]; exact hpq
    · rw [if_pos x, if_neg y]; omega
    · omega
    · rw [if_neg x, if_neg y]; omega
  · have hv0 : V j ≠ -10000 := fun q => hvj (hV2 j hj q)
    obtain ⟨p, hp, ep⟩ := h.at hj hv0
    have g2 := hV p hp
    rw [ep] at g2
    by_cases q : a ≤ p ∧ p < e
    · rw [if_pos q] at g2; exact absurd g2 hvj
    · by_cases x : p < a
      · refine ⟨p, by omega, ?_⟩
        simp only [kN] at ep ⊢
        rw [c1 fk p (by omega), if_pos x]; exact ep
      · refine ⟨p - (e - a), by omega, ?_⟩
        simp only [kN] at ep ⊢
        rw [c1 fk _ (by omega), if_neg (by omega), show p - (e - a) + (e - a) = p by omega]; exact ep
  · by_cases hv0 : V j = -10000
    · rw [hV2 j hj hv0]; omega
    · obtain ⟨p, hp, ep⟩ := h.at hj hv0
      have g2 := hV p hp
      rw [ep] at g2
      have g3 := h.vr hj
      rw [g2]; split <;> omega
end FSPEC

/-! natural numbers of integers, without omega's splits -/
theorem tn_lt {p : Int} {n : Nat} (h : p < (n : Int)) (hn : 0 < n) : p.toNat < n := by omega
theorem tn_s {p : Int} (h : 0 ≤ p) : (p + 1).toNat = p.toNat + 1 := by omega
theorem mu_s {a j : Int} {n : Nat} (h : (a - j).toNat < n + 1) (hj : j < a) : (a - (j + 1)).toNat < n := by omega
theorem eq_tn {n : Nat} {p : Int} (h : (n : Int) = p) : n = p.toNat := by omega
theorem ne_tn {n : Nat} {p : Int} (h0 : 0 ≤ p) (h : ¬ (n : Int) = p) : n ≠ p.toNat := by omega
theorem tn_eq {p : Int} {n : Nat} (h : p = (n : Int)) : p.toNat = n := by omega
theorem tn_ne {p q : Int} (hp : 0 ≤ p) (hq : 0 ≤ q) (h : p ≠ q) : p.toNat ≠ q.toNat := by omega
