/-! rows for the JDK's own code -/
/-- bytes -/
def bf (f : Nat → Int32) : Prop := ∀ i, fits .byte (.int (f i)) = true
theorem bf_nar (x : Int32) : fits .byte (.int (vp_nar .byte x)) = true := by
  have h := fits_narrow_byte x
  have e : narrow .byte (.int x) = .int (vp_nar .byte x) := rfl
  rw [e] at h
  exact h
theorem bf_upd {f : Nat → Int32} (h : bf f) {k : Nat} {x : Int32} (hx : fits .byte (.int x) = true) : bf (upd f k x) := fun i => by
  simp only [upd]; split
  · exact hx
  · exact h i
theorem bf_cpy {f g : Nat → Int32} (hf : bf f) (hg : bf g) (a b n : Nat) : bf (va_cpy f g a b n) := fun i => by
  simp only [va_cpy]; split
  · exact hf _
  · exact hg _
theorem bf_l {l : List Int32} (h : l.all (fun x => fits .byte (.int x)) = true) : bf (fun j => l.getD j 0) := fun i => by
  show fits .byte (.int (l.getD i 0)) = true
  by_cases e : i < l.length
  · rw [show l.getD i 0 = l[i] by simp [List.getD, List.getElem?_eq_getElem e]]; exact List.all_eq_true.mp h _ (List.getElem_mem e)
  · rw [show l.getD i 0 = 0 by simp [List.getD, List.getElem?_eq_none (Nat.not_lt.mp e)]]; decide
theorem xlb_0 : bf (fun j => ([115, 101, 118, 101, 114, 97, 108, 32, 107, 101, 121, 115, 32, 104, 97, 118, 101, 32, 116, 104, 101, 32, 118, 97, 108, 117, 101] : List Int32).getD j 0) := bf_l (by decide +kernel)
theorem xlb_1 : bf (fun j => ([110, 111, 116, 104, 105, 110, 103, 32, 105, 115, 32, 97, 116, 32, 104, 97, 110, 100] : List Int32).getD j 0) := bf_l (by decide +kernel)
theorem xlb_2 : bf (fun j => ([110, 111, 32, 115, 116, 101, 112, 32, 99, 97, 109, 101, 32, 116, 111, 32, 97, 32, 112, 97, 105, 114, 32, 116, 104, 97, 116, 32, 105, 115, 32, 110, 111, 116, 32, 100, 114, 111, 112, 112, 101, 100] : List Int32).getD j 0) := bf_l (by decide +kernel)
theorem xlb_3 : bf (fun j => ([112, 108, 97, 99, 101, 32, 105, 115, 32, 98, 101, 108, 111, 119, 32, 48] : List Int32).getD j 0) := bf_l (by decide +kernel)
theorem xlb_4 : bf (fun j => ([110, 111, 32, 115, 117, 99, 104, 32, 98, 111, 111, 107] : List Int32).getD j 0) := bf_l (by decide +kernel)
theorem xlb_5 : bf (fun j => ([110, 111, 32, 115, 117, 99, 104, 32, 118, 105, 101, 119, 32, 105, 115, 32, 111, 112, 101, 110] : List Int32).getD j 0) := bf_l (by decide +kernel)
theorem xlb_6 : bf (fun j => ([116, 104, 101, 114, 101, 32, 105, 115, 32, 110, 111, 32, 119, 97, 108, 107, 44, 32, 111, 114, 32, 105, 116, 32, 105, 115, 32, 98, 114, 111, 107, 101, 110] : List Int32).getD j 0) := bf_l (by decide +kernel)
theorem xlb_7 : bf (fun j => ([52, 32, 118, 105, 101, 119, 115, 32, 97, 114, 101, 32, 111, 112, 101, 110] : List Int32).getD j 0) := bf_l (by decide +kernel)
theorem xlb_8 : bf (fun j => ([97, 32, 107, 101, 121, 32, 105, 115, 32, 110, 111, 116, 32, 48, 32, 116, 111, 32, 57, 57] : List Int32).getD j 0) := bf_l (by decide +kernel)
theorem xlb_9 : bf (fun j => ([97, 32, 118, 97, 108, 117, 101, 32, 105, 115, 32, 110, 111, 116, 32, 45, 57, 57, 57, 57, 32, 116, 111, 32, 57, 57, 57, 57] : List Int32).getD j 0) := bf_l (by decide +kernel)
theorem xlb_10 : bf (fun j => ([119, 104, 97, 116, 32, 105, 115, 32, 110, 111, 116, 32, 111, 110, 101, 32, 111, 102, 32, 116, 104, 111, 115, 101, 32, 116, 111, 108, 100] : List Int32).getD j 0) := bf_l (by decide +kernel)
theorem xlb_11 : bf (fun j => ([98, 111, 116, 104, 32, 98, 111, 111, 107, 115, 32, 97, 114, 101, 32, 116, 104, 101, 32, 115, 97, 109, 101] : List Int32).getD j 0) := bf_l (by decide +kernel)
theorem xlb_12 : bf (fun j => ([98, 121, 32, 105, 115, 32, 110, 111, 116, 32, 45, 57, 57, 57, 32, 116, 111, 32, 57, 57, 57] : List Int32).getD j 0) := bf_l (by decide +kernel)
theorem xlb_13 : bf (fun j => ([98, 121, 32, 105, 115, 32, 110, 111, 116, 32, 50, 32, 116, 111, 32, 57, 57] : List Int32).getD j 0) := bf_l (by decide +kernel)
theorem xlb_14 : bf (fun j => ([44, 32] : List Int32).getD j 0) := bf_l (by decide +kernel)
theorem xlb_15 : bf (fun j => ([44, 32] : List Int32).getD j 0) := bf_l (by decide +kernel)
theorem xlb_16 : bf (fun j => ([61] : List Int32).getD j 0) := bf_l (by decide +kernel)
theorem xlb_17 : bf (fun j => ([125] : List Int32).getD j 0) := bf_l (by decide +kernel)
theorem xlb_18 : bf (fun j => ([] : List Int32).getD j 0) := bf_l (by decide +kernel)
theorem xlb_19 : bf (fun j => ([123] : List Int32).getD j 0) := bf_l (by decide +kernel)
theorem xlb_20 : bf (fun j => ([32, 62, 32] : List Int32).getD j 0) := bf_l (by decide +kernel)
theorem bf_0 : bf (fun _ => 0) := fun _ => (show fits .byte (.int 0) = true from by decide)
/-- the text under work: its cell, its bytes, above an older map -/
def Sb (G : xG) (M0 M : HM) (q v : Nat) (ml : Int32) (n : Int) (cap : Nat) (f : Nat → Int32) : Prop := (xExt M0 M ∧ M0 q = none ∧ M0 v = none) ∧ M q = some (.inr (1, [.ref v, .int (iN 0), .int ml, .int (iN n)])) ∧ M v = some (.inl (G.2 0, cap, .inl f)) ∧ bf f ∧ (0 ≤ n ∧ n ≤ cap ∧ (cap : Int) ≤ 60000)
/-- a text that is done -/
def Sv (G : xG) (M : HM) (q v : Nat) (h9 z9 : Int32) (n : Nat) (f : Nat → Int32) : Prop := M q = some (.inr (0, [.ref v, .int (iN 0), .int h9, .int z9])) ∧ M v = some (.inl (G.2 0, n, .inl f)) ∧ bf f ∧ (n : Int) ≤ 60000
theorem xExt.fr {M0 M : HM} (h : xExt M0 M) {a : Nat} (ha : M a = none) : M0 a = none := by
  cases e : M0 a with
  | none => rfl
  | some x => rw [h a x e] at ha; cases ha
section SBS
variable {G : xG} {M0 M M1 : HM} {q v v2 : Nat} {ml ml2 h9 z9 : Int32} {n n2 : Int} {cap cap2 k : Nat} {f f2 : Nat → Int32}
theorem Sb.ext (h : Sb G M0 M q v ml n cap f) (hx : xExt M M1) : Sb G M0 M1 q v ml n cap f := ⟨⟨h.1.1.tr hx, h.1.2⟩, hx _ _ h.2.1, hx _ _ h.2.2.1, h.2.2.2⟩
theorem Sv.ext (h : Sv G M q v h9 z9 k f) (hx : xExt M M1) : Sv G M1 q v h9 z9 k f := ⟨hx _ _ h.1, hx _ _ h.2.1, h.2.2⟩
theorem Sb.ne (h : Sb G M0 M q v ml n cap f) : v ≠ q := fun e => by
  have h1 := h.2.2.1
  rw [e, h.2.1] at h1; cases h1
/-- its cell was written -/
theorem Sb.obj (h : Sb G M0 M q v ml n cap f) (hM : M1 = va_up M q (some (.inr (1, [.ref v, .int (iN 0), .int ml2, .int (iN n2)])))) (hn : 0 ≤ n2 ∧ n2 ≤ cap) : Sb G M0 M1 q v ml2 n2 cap f :=
  ⟨⟨xExt.upd h.1.2.1 h.1.1 hM, h.1.2⟩, by rw [hM, va_up_self], by rw [hM, va_up_ne _ _ h.ne]; exact h.2.2.1, h.2.2.2.1, hn.1, hn.2, h.2.2.2.2.2.2⟩
/-- its bytes were written -/
theorem Sb.arr (h : Sb G M0 M q v ml n cap f) (hM : M1 = va_up M v (some (.inl (G.2 0, cap, .inl f2)))) (hf : bf f2) : Sb G M0 M1 q v ml n cap f2 :=
  ⟨⟨xExt.upd h.1.2.2 h.1.1 hM, h.1.2⟩, by rw [hM, va_up_ne _ _ (fun e => h.ne e.symm)]; exact h.2.1, by rw [hM, va_up_self], hf, h.2.2.2.2⟩
/-- other bytes were put under it -/
theorem Sb.sw (h : Sb G M0 M q v ml n cap f) (h0 : M0 v2 = none) (hv : M v2 = some (.inl (G.2 0, cap2, .inl f2))) (hf : bf f2) (hM : M1 = va_up M q (some (.inr (1, [.ref v2, .int (iN 0), .int ml, .int (iN n)])))) (hn : n ≤ cap2 ∧ (cap2 : Int) ≤ 60000) : Sb G M0 M1 q v2 ml n cap2 f2 :=
  ⟨⟨xExt.upd h.1.2.1 h.1.1 hM, h.1.2.1, h0⟩, by rw [hM, va_up_self], by rw [hM, va_up_ne _ _ (fun e => by rw [e, h.2.1] at hv; cases hv)]; exact hv, hf, h.2.2.2.2.1, hn.1, hn.2⟩
/-- another cell was written -/
theorem Sb.oth {o9 : Nat} {fs : List Value} {x : Option va_E} (h : Sb G M0 M q v ml n cap f) (hM : M1 = va_up M o9 x) (ho : M o9 = some (.inr (0, fs))) (h0 : M0 o9 = none) : Sb G M0 M1 q v ml n cap f :=
  ⟨⟨xExt.upd h0 h.1.1 hM, h.1.2⟩, by rw [hM, va_up_ne _ _ (fun z => by have h8 := h.2.1; rw [z, ho] at h8; simp at h8)]; exact h.2.1, by rw [hM, va_up_ne _ _ (fun z => by have h8 := h.2.2.1; rw [z, ho] at h8; simp at h8)]; exact h.2.2.1, h.2.2.2⟩
end SBS
/-- how the bytes of a text grow: its first room, its room, all rooms so far, how many -/
def chL : List (Nat × Nat × Nat × Nat) := [(16, 16, 16, 1), (16, 34, 50, 2), (16, 70, 120, 3), (16, 142, 262, 4), (16, 286, 548, 5), (16, 574, 1122, 6), (16, 1150, 2272, 7), (16, 2302, 4574, 8), (16, 4606, 9180, 9), (17, 17, 17, 1), (17, 36, 53, 2), (17, 74, 127, 3), (17, 150, 277, 4), (17, 302, 579, 5), (17, 606, 1185, 6), (17, 1214, 2399, 7), (17, 2430, 4829, 8), (17, 4862, 9691, 9)]
def Ch (b cap u k : Nat) : Prop := (b, cap, u, k) ∈ chL
theorem Ch.top {b cap u k : Nat} (h : Ch b cap u k) : u ≤ 9691 ∧ k ≤ 9 ∧ 16 ≤ cap ∧ cap ≤ 4862 ∧ (cap ≤ 1214 → u ≤ 2399) ∧ (cap ≤ 606 → u ≤ 1185) ∧ (b = 17 → (cap < 606 → 2 * cap + 2 ≤ 606) ∧ (cap < 1214 → 2 * cap + 2 ≤ 1214)) :=
  (show ∀ q ∈ chL, q.2.2.1 ≤ 9691 ∧ q.2.2.2 ≤ 9 ∧ 16 ≤ q.2.1 ∧ q.2.1 ≤ 4862 ∧ (q.2.1 ≤ 1214 → q.2.2.1 ≤ 2399) ∧ (q.2.1 ≤ 606 → q.2.2.1 ≤ 1185) ∧ (q.1 = 17 → (q.2.1 < 606 → 2 * q.2.1 + 2 ≤ 606) ∧ (q.2.1 < 1214 → 2 * q.2.1 + 2 ≤ 1214)) by decide +kernel) _ h
theorem Ch.step {b cap u k : Nat} (h : Ch b cap u k) (hc : cap ≤ 2600) : Ch b (2 * cap + 2) (u + (2 * cap + 2)) (k + 1) :=
  (show ∀ q ∈ chL, q.2.1 ≤ 2600 → (q.1, 2 * q.2.1 + 2, q.2.2.1 + (2 * q.2.1 + 2), q.2.2.2 + 1) ∈ chL by decide +kernel) _ h hc
theorem Ch.lo {b cap u k : Nat} (h : Ch b cap u k) : cap ≤ 2600 ∨ 4600 ≤ cap :=
  (show ∀ q ∈ chL, q.2.1 ≤ 2600 ∨ 4600 ≤ q.2.1 by decide +kernel) _ h
/-- what an appending costs -/
theorem x_grow {b cap u k : Nat} (h : Ch b cap u k) {need : Int} (hn : need ≤ 2700) (hd : need ≤ cap + 18) : ∃ mc ms cap2 : Nat, (need ≤ cap ∨ (1 ≤ mc ∧ 2 * cap + 2 ≤ ms)) ∧ Ch b cap2 (u + ms) (k + mc) ∧ need ≤ cap2 ∧ ((need ≤ cap ∧ cap2 = cap ∧ mc = 0 ∧ ms = 0) ∨ ((cap : Int) < need ∧ cap2 = 2 * cap + 2 ∧ mc = 1 ∧ ms = 2 * cap + 2)) := by
  by_cases e : need ≤ cap
  · exact ⟨0, 0, cap, Or.inl e, h, e, Or.inl ⟨e, rfl, rfl, rfl⟩⟩
  · have h1 := h.lo
    have h2 := h.top
    exact ⟨1, 2 * cap + 2, 2 * cap + 2, Or.inr ⟨Nat.le_refl _, Nat.le_refl _⟩, h.step (by omega), by omega, Or.inr ⟨by omega, rfl, rfl, rfl⟩⟩
/-- how many letters a number has -/
def dgs (p0 : Int) : Int := (if p0 < 0 then 1 else 0) + (if p0.natAbs ≤ 9 then 1 else if p0.natAbs ≤ 99 then 2 else if p0.natAbs ≤ 999 then 3 else if p0.natAbs ≤ 9999 then 4 else if p0.natAbs ≤ 99999 then 5 else if p0.natAbs ≤ 999999 then 6 else if p0.natAbs ≤ 9999999 then 7 else if p0.natAbs ≤ 99999999 then 8 else if p0.natAbs ≤ 999999999 then 9 else 10)
def dgn (n : Nat) : Int := if n ≤ 9 then 1 else if n ≤ 99 then 2 else if n ≤ 999 then 3 else if n ≤ 9999 then 4 else if n ≤ 99999 then 5 else if n ≤ 999999 then 6 else if n ≤ 9999999 then 7 else if n ≤ 99999999 then 8 else if n ≤ 999999999 then 9 else 10
theorem dgs_n (p0 : Int) : dgs p0 = (if p0 < 0 then 1 else 0) + dgn p0.natAbs := rfl
theorem dgs_neg {p0 : Int} (h : p0 < 0) : dgs p0 = 1 + dgn p0.natAbs := by rw [dgs_n, if_pos h]
theorem dgs_pos {p0 : Int} (h : 0 ≤ p0) : dgs p0 = dgn p0.natAbs := by rw [dgs_n, if_neg (by omega), Int.zero_add]
theorem ite_lo {c : Prop} [Decidable c] {m a b : Int} (ha : m ≤ a) (hb : m ≤ b) : m ≤ (if c then a else b) := by split <;> assumption
theorem ite_hi {c : Prop} [Decidable c] {m a b : Int} (ha : a ≤ m) (hb : b ≤ m) : (if c then a else b) ≤ m := by split <;> assumption
theorem dgn_1 (n : Nat) : 1 ≤ dgn n ∧ dgn n ≤ 10 := by
  unfold dgn
  exact ⟨(ite_lo (by decide) (ite_lo (by decide) (ite_lo (by decide) (ite_lo (by decide) (ite_lo (by decide) (ite_lo (by decide) (ite_lo (by decide) (ite_lo (by decide) (ite_lo (by decide) (by decide)))))))))), (ite_hi (by decide) (ite_hi (by decide) (ite_hi (by decide) (ite_hi (by decide) (ite_hi (by decide) (ite_hi (by decide) (ite_hi (by decide) (ite_hi (by decide) (ite_hi (by decide) (by decide))))))))))⟩
theorem dgn_l2 {n : Nat} (h : n ≤ 99) : dgn n ≤ 2 := by
  unfold dgn
  rw [if_pos h]
  exact (ite_hi (by decide) (by decide))
theorem dgn_l4 {n : Nat} (h : n ≤ 9999) : dgn n ≤ 4 := by
  unfold dgn
  rw [if_pos h]
  exact (ite_hi (by decide) (ite_hi (by decide) (ite_hi (by decide) (by decide))))
theorem dgn_g1 {n : Nat} (h : 10 ≤ n) : 2 ≤ dgn n := by
  unfold dgn
  rw [if_neg (show ¬ n ≤ 9 by omega)]
  exact (ite_lo (by decide) (ite_lo (by decide) (ite_lo (by decide) (ite_lo (by decide) (ite_lo (by decide) (ite_lo (by decide) (ite_lo (by decide) (ite_lo (by decide) (by decide)))))))))
theorem dgn_g2 {n : Nat} (h : 100 ≤ n) : 3 ≤ dgn n := by
  unfold dgn
  rw [if_neg (show ¬ n ≤ 9 by omega), if_neg (show ¬ n ≤ 99 by omega)]
  exact (ite_lo (by decide) (ite_lo (by decide) (ite_lo (by decide) (ite_lo (by decide) (ite_lo (by decide) (ite_lo (by decide) (ite_lo (by decide) (by decide))))))))
theorem dgn_g3 {n : Nat} (h : 1000 ≤ n) : 4 ≤ dgn n := by
  unfold dgn
  rw [if_neg (show ¬ n ≤ 9 by omega), if_neg (show ¬ n ≤ 99 by omega), if_neg (show ¬ n ≤ 999 by omega)]
  exact (ite_lo (by decide) (ite_lo (by decide) (ite_lo (by decide) (ite_lo (by decide) (ite_lo (by decide) (ite_lo (by decide) (by decide)))))))
theorem dgn_g4 {n : Nat} (h : 10000 ≤ n) : 5 ≤ dgn n := by
  unfold dgn
  rw [if_neg (show ¬ n ≤ 9 by omega), if_neg (show ¬ n ≤ 99 by omega), if_neg (show ¬ n ≤ 999 by omega), if_neg (show ¬ n ≤ 9999 by omega)]
  exact (ite_lo (by decide) (ite_lo (by decide) (ite_lo (by decide) (ite_lo (by decide) (ite_lo (by decide) (by decide))))))
theorem dgn_g5 {n : Nat} (h : 100000 ≤ n) : 6 ≤ dgn n := by
  unfold dgn
  rw [if_neg (show ¬ n ≤ 9 by omega), if_neg (show ¬ n ≤ 99 by omega), if_neg (show ¬ n ≤ 999 by omega), if_neg (show ¬ n ≤ 9999 by omega), if_neg (show ¬ n ≤ 99999 by omega)]
  exact (ite_lo (by decide) (ite_lo (by decide) (ite_lo (by decide) (ite_lo (by decide) (by decide)))))
theorem dgn_g6 {n : Nat} (h : 1000000 ≤ n) : 7 ≤ dgn n := by
  unfold dgn
  rw [if_neg (show ¬ n ≤ 9 by omega), if_neg (show ¬ n ≤ 99 by omega), if_neg (show ¬ n ≤ 999 by omega), if_neg (show ¬ n ≤ 9999 by omega), if_neg (show ¬ n ≤ 99999 by omega), if_neg (show ¬ n ≤ 999999 by omega)]
  exact (ite_lo (by decide) (ite_lo (by decide) (ite_lo (by decide) (by decide))))
theorem dgn_g7 {n : Nat} (h : 10000000 ≤ n) : 8 ≤ dgn n := by
  unfold dgn
  rw [if_neg (show ¬ n ≤ 9 by omega), if_neg (show ¬ n ≤ 99 by omega), if_neg (show ¬ n ≤ 999 by omega), if_neg (show ¬ n ≤ 9999 by omega), if_neg (show ¬ n ≤ 99999 by omega), if_neg (show ¬ n ≤ 999999 by omega), if_neg (show ¬ n ≤ 9999999 by omega)]
  exact (ite_lo (by decide) (ite_lo (by decide) (by decide)))
theorem dgn_g8 {n : Nat} (h : 100000000 ≤ n) : 9 ≤ dgn n := by
  unfold dgn
  rw [if_neg (show ¬ n ≤ 9 by omega), if_neg (show ¬ n ≤ 99 by omega), if_neg (show ¬ n ≤ 999 by omega), if_neg (show ¬ n ≤ 9999 by omega), if_neg (show ¬ n ≤ 99999 by omega), if_neg (show ¬ n ≤ 999999 by omega), if_neg (show ¬ n ≤ 9999999 by omega), if_neg (show ¬ n ≤ 99999999 by omega)]
  exact (ite_lo (by decide) (by decide))
theorem dgn_g9 {n : Nat} (h : 1000000000 ≤ n) : 10 ≤ dgn n := by
  unfold dgn
  rw [if_neg (show ¬ n ≤ 9 by omega), if_neg (show ¬ n ≤ 99 by omega), if_neg (show ¬ n ≤ 999 by omega), if_neg (show ¬ n ≤ 9999 by omega), if_neg (show ¬ n ≤ 99999 by omega), if_neg (show ¬ n ≤ 999999 by omega), if_neg (show ¬ n ≤ 9999999 by omega), if_neg (show ¬ n ≤ 99999999 by omega), if_neg (show ¬ n ≤ 999999999 by omega)]
  exact Int.le_refl _
theorem dgs_le (p0 : Int) : 1 ≤ dgs p0 ∧ dgs p0 ≤ 11 ∧ (-9999 ≤ p0 ∧ p0 ≤ 9999 → dgs p0 ≤ 5) ∧ (0 ≤ p0 ∧ p0 ≤ 99 → dgs p0 ≤ 2) := by
  have h1 := dgn_1 p0.natAbs
  refine ⟨?_, ?_, fun h => ?_, fun h => ?_⟩
  · by_cases e : p0 < 0
    · rw [dgs_neg e]; omega
    · rw [dgs_pos (by omega)]; exact h1.1
  · by_cases e : p0 < 0
    · rw [dgs_neg e]; omega
    · rw [dgs_pos (by omega)]; omega
  · have h2 := dgn_l4 (n := p0.natAbs) (by omega)
    by_cases e : p0 < 0
    · rw [dgs_neg e]; omega
    · rw [dgs_pos (by omega)]; omega
  · rw [dgs_pos h.1]; exact dgn_l2 (by omega)
theorem dgs_ge (p0 : Int) : 1 ≤ dgs p0 ∧ (p0 < 0 → 2 ≤ dgs p0) ∧ (p0 ≤ -10 → 3 ≤ dgs p0) ∧ (10 ≤ p0 → 2 ≤ dgs p0) ∧ (p0 ≤ -100 → 4 ≤ dgs p0) ∧ (100 ≤ p0 → 3 ≤ dgs p0) ∧ (p0 ≤ -1000 → 5 ≤ dgs p0) ∧ (1000 ≤ p0 → 4 ≤ dgs p0) ∧ (p0 ≤ -10000 → 6 ≤ dgs p0) ∧ (10000 ≤ p0 → 5 ≤ dgs p0) ∧ (p0 ≤ -100000 → 7 ≤ dgs p0) ∧ (100000 ≤ p0 → 6 ≤ dgs p0) ∧ (p0 ≤ -1000000 → 8 ≤ dgs p0) ∧ (1000000 ≤ p0 → 7 ≤ dgs p0) ∧ (p0 ≤ -10000000 → 9 ≤ dgs p0) ∧ (10000000 ≤ p0 → 8 ≤ dgs p0) ∧ (p0 ≤ -100000000 → 10 ≤ dgs p0) ∧ (100000000 ≤ p0 → 9 ≤ dgs p0) ∧ (p0 ≤ -1000000000 → 11 ≤ dgs p0) ∧ (1000000000 ≤ p0 → 10 ≤ dgs p0) := by
  refine ⟨(dgs_le p0).1, fun h => (by have h1 := dgn_1 p0.natAbs; rw [dgs_neg h]; omega), fun h => (by have h1 := dgn_g1 (n := p0.natAbs) (by omega); rw [dgs_neg (by omega)]; omega), fun h => (by rw [dgs_pos (by omega)]; exact dgn_g1 (by omega)), fun h => (by have h1 := dgn_g2 (n := p0.natAbs) (by omega); rw [dgs_neg (by omega)]; omega), fun h => (by rw [dgs_pos (by omega)]; exact dgn_g2 (by omega)), fun h => (by have h1 := dgn_g3 (n := p0.natAbs) (by omega); rw [dgs_neg (by omega)]; omega), fun h => (by rw [dgs_pos (by omega)]; exact dgn_g3 (by omega)), fun h => (by have h1 := dgn_g4 (n := p0.natAbs) (by omega); rw [dgs_neg (by omega)]; omega), fun h => (by rw [dgs_pos (by omega)]; exact dgn_g4 (by omega)), fun h => (by have h1 := dgn_g5 (n := p0.natAbs) (by omega); rw [dgs_neg (by omega)]; omega), fun h => (by rw [dgs_pos (by omega)]; exact dgn_g5 (by omega)), fun h => (by have h1 := dgn_g6 (n := p0.natAbs) (by omega); rw [dgs_neg (by omega)]; omega), fun h => (by rw [dgs_pos (by omega)]; exact dgn_g6 (by omega)), fun h => (by have h1 := dgn_g7 (n := p0.natAbs) (by omega); rw [dgs_neg (by omega)]; omega), fun h => (by rw [dgs_pos (by omega)]; exact dgn_g7 (by omega)), fun h => (by have h1 := dgn_g8 (n := p0.natAbs) (by omega); rw [dgs_neg (by omega)]; omega), fun h => (by rw [dgs_pos (by omega)]; exact dgn_g8 (by omega)), fun h => (by have h1 := dgn_g9 (n := p0.natAbs) (by omega); rw [dgs_neg (by omega)]; omega), fun h => (by rw [dgs_pos (by omega)]; exact dgn_g9 (by omega))⟩
theorem x_td100 {x z : Int} (h : z = x.tdiv 100) (hx : x ≤ 0) : x ≤ 100 * z ∧ 100 * z < x + 100 ∧ z ≤ 0 := by
  have e : z = -((-x) / 100) := by
    rw [h, show x.tdiv 100 = -((-x).tdiv 100) by rw [Int.neg_tdiv, Int.neg_neg], Int.tdiv_eq_ediv_of_nonneg (by omega)]
  omega
theorem xup_s {M M1 : HM} {a : Nat} {x : Option va_E} (h : M1 = va_up M a x) : M1 a = x := by rw [h, va_up_self]
theorem xup_2 {M M1 M2 : HM} {a : Nat} {x y : Option va_E} (h : M1 = va_up M a x) (h2 : M2 = va_up M1 a y) : M2 = va_up M a y := by
  rw [h2, h]; funext q; simp only [va_up]; split <;> rfl
theorem xup_i {M : HM} {a : Nat} {x : Option va_E} (h : M a = x) : M = va_up M a x := by
  funext q; simp only [va_up]; split
  · subst_vars; rfl
  · rfl
section JROWS
variable {p : Program} {l : Launch} {e : Env} {R : Room} {s : State} {m : MethodId} {args : Array Value} {below : List Frame} {meth : Method} {c : Code} {H : Heap} {locs : List Loc} {cells slots : Nat} {Q : State → Prop}
variable {cc : ByteArray} {pc nL idx a : Nat} {ls : Array Slot} {st rest : List Value} {G : xG} {M M0 : HM} {own nm : String} {Ts : List Cond} {ret : Option FieldType} {z : Int}
theorem x_ldcN {A : Nat → Prop} (hC : xB p s m args meth c cc nL own nm Ts ret G A) (v : Int) (k1 : Cond.constant own idx (iN v) ∈ Ts) (hdg : decode cc pc = .ok (.ldc idx, 2))
    (kk : W p l e R s m args below meth c H locs cells slots Q (F0 m (pc + 2) ls (.int (iN v) :: rest))) : W p l e R s m args below meth c H locs cells slots Q (F0 m pc ls rest) := lv_ldc hC.1 hC.2.1 hC.2.2.2.1 (hC.2.2.2.2.1 _ k1) hdg kk
theorem x_ldcS {A : Nat → Prop} (hC : xB p s m args meth c cc nL own nm Ts ret G A) (n : Nat) {tx : String} {bs : List Int32} (hn : xLits[n]? = some (own, idx, tx, bs)) (hdg : decode cc pc = .ok (.ldc idx, 2))
    (kk : W p l e R s m args below meth c H locs cells slots Q (F0 m (pc + 2) ls (.ref (G.2 (100 + 2 * n)) :: rest))) : W p l e R s m args below meth c H locs cells slots Q (F0 m pc ls rest) :=
  va_ldcS hC.1 hC.2.1 hC.2.2.2.1 (hC.2.2.2.2.2.2.2.2.1.2.2.1 n _ hn).1 hdg kk
theorem x_gsC (hC : xB p s m args meth c cc nL own nm Ts ret G (xA M0 s.heap.size)) (hw : xD G (xA M0 s.heap.size) s M H locs) (k1 : Cond.fieldLink own idx "java/lang/String" "COMPACT_STRINGS" "Z" ∈ Ts) (hdg : decode cc pc = .ok (.getstatic idx, 3))
    (kk : W p l e R s m args below meth c H locs cells slots Q (F0 m (pc + 3) ls (.int (iN 1) :: rest))) : W p l e R s m args below meth c H locs cells slots Q (F0 m pc ls rest) :=
  va_gets hC.1 hC.2.1 hC.2.2.2.2.2.2.2.2.1.2.2.2.2.2.2.1 hw.2 hC.2.2.2.1 (hC.2.2.2.2.1 _ k1) (fun _ h => h) hdg kk
theorem x_litV (hC : xB p s m args meth c cc nL own nm Ts ret G (xA M0 s.heap.size)) (hw : xD G (xA M0 s.heap.size) s M H locs) {n : Nat} {w : String × Nat × String × List Int32} (hn : xLits[n]? = some w) (k1 : Cond.fieldLink own idx "java/lang/String" "value" "[B" ∈ Ts) (hdg : decode cc pc = .ok (.getfield idx, 3))
    (kk : W p l e R s m args below meth c H locs cells slots Q (F0 m (pc + 3) ls (.ref (G.2 (101 + 2 * n)) :: rest))) : W p l e R s m args below meth c H locs cells slots Q (F0 m pc ls (.ref (G.2 (100 + 2 * n)) :: rest)) :=
  vk_getf hC.1 hC.2.1 (hC.2.2.2.2.2.2.2.2.1.2.2.1 n _ hn).2.2.2.1 hw.2 hC.2.2.2.1 (hC.2.2.2.2.1 _ k1) (fun _ h => h) hdg kk
theorem x_litC (hC : xB p s m args meth c cc nL own nm Ts ret G (xA M0 s.heap.size)) (hw : xD G (xA M0 s.heap.size) s M H locs) {n : Nat} {w : String × Nat × String × List Int32} (hn : xLits[n]? = some w) (k1 : Cond.fieldLink own idx "java/lang/String" "coder" "B" ∈ Ts) (hdg : decode cc pc = .ok (.getfield idx, 3))
    (kk : W p l e R s m args below meth c H locs cells slots Q (F0 m (pc + 3) ls (.int (iN 0) :: rest))) : W p l e R s m args below meth c H locs cells slots Q (F0 m pc ls (.ref (G.2 (100 + 2 * n)) :: rest)) :=
  vk_getf hC.1 hC.2.1 (hC.2.2.2.2.2.2.2.2.1.2.2.1 n _ hn).2.2.1 hw.2 hC.2.2.2.1 (hC.2.2.2.2.1 _ k1) (fun _ h => h) hdg kk
theorem x_litN (hC : xB p s m args meth c cc nL own nm Ts ret G (xA M0 s.heap.size)) (hw : xD G (xA M0 s.heap.size) s M H locs) {n : Nat} {w : String × Nat × String × List Int32} (hn : xLits[n]? = some w) (hdg : decode cc pc = .ok (.arraylength, 1))
    (kk : W p l e R s m args below meth c H locs cells slots Q (F0 m (pc + 1) ls (.int (iN w.2.2.2.length) :: rest))) : W p l e R s m args below meth c H locs cells slots Q (F0 m pc ls (.ref (G.2 (101 + 2 * n)) :: rest)) :=
  va_tlen hC.1 hC.2.1 (hC.2.2.2.2.2.2.2.2.1.2.2.1 n _ hn).2.2.2.2 hw.2 (iN_nat _) hdg kk
theorem x_newB {A : Nat → Prop} (hC : xB p s m args meth c cc nL own nm Ts ret G A) (hw : xD G A s M H locs) (h1 : Cond.arrayClass .byte ∈ Ts) (n : Nat) (hz : z = n) (hn : n ≤ 100000) (hcells : cells + 1 ≤ R.cells) (hslots : slots + n ≤ R.slots) (hdg : decode cc pc = .ok (.newarray .byte, 2))
    (kk : ∀ (q : Nat) (H1 : Heap), M q = none → xD G A s (va_up M q (some (.inl (G.2 0, n, .inl (fun _ => 0))))) H1 locs → W p l e R s m args below meth c H1 locs (cells + 1) (slots + n) Q (F0 m (pc + 2) ls (.ref q :: rest))) : W p l e R s m args below meth c H locs cells slots Q (F0 m pc ls (.int (iN z) :: rest)) := by
  obtain ⟨L, g1, g2, g3⟩ := hw.1
  subst hz
  have e0 : (iN (n : Int)).toNatClampNeg = n := by rw [iN_clamp (by omega) (by omega)]; omega
  refine va_newa (D := G.1) (atype := .byte) (ty := .byte) (N' := n) (a0 := (n, .inl (fun _ => 0))) hC.1 hC.2.1 (hC.2.2.2.2.1 _ h1) rfl hC.2.2.2.2.2.2.2.2.1.1 g2 g3 hw.2 hC.2.2.2.2.2.2.2.2.2 (fun cA => rfl) (fun q => ?_) e0 (by show n * 1 ≤ _; omega) hcells hslots hdg (fun q cA H1 k0 k1 k2 k3 => ?_)
  · rw [← iN_0, iN_lt ⟨by omega, by omega⟩ ⟨by omega, by omega⟩] at q
    omega
  · have e1 : cA = G.2 0 := by
      have h8 := (k0.2 5 (cA, .byte) rfl).2
      have h9 := (hC.2.2.2.2.2.2.2.2.1.1.2 0 (G.2 0, .byte) rfl).2
      exact Option.some.inj (h8.symm.trans h9)
    subst e1
    obtain ⟨e1, e2⟩ := xPW.new g1 k1 k2
    exact kk q H1 e1 ⟨e2, k3⟩
theorem x_bast {A : Nat → Prop} (hC : xB p s m args meth c cc nL own nm Ts ret G A) (hw : xD G A s M H locs) {n : Nat} {f : Nat → Int32} {x : Int32} (he : M a = some (.inl (G.2 0, n, .inl f))) (h0 : 0 ≤ z) (h1 : z ≤ 2147483647) (h2 : z < n) (hdg : decode cc pc = .ok (.bastore, 1))
    (kk : ∀ (H1 : Heap) (locs1 : List Loc), xD G A s (va_up M a (some (.inl (G.2 0, n, .inl (upd f z.toNat (vp_nar .byte x)))))) H1 locs1 → W p l e R s m args below meth c H1 locs1 cells slots Q (F0 m (pc + 1) ls rest)) : W p l e R s m args below meth c H locs cells slots Q (F0 m pc ls (.int x :: .int (iN z) :: .ref a :: rest)) := by
  obtain ⟨L, q, g1, g2, g3, g4, g5, g6⟩ := hw.1.get he
  refine va_bast (D := G.1) hC.1 hC.2.1 hC.2.2.2.2.2.2.2.2.1.1 g2 g3 hw.2 q 0 g5 rfl (iN_in h0 h1 h2) hdg (fun H1 locs1 k1 k2 k3 => ?_)
  rw [iN_clamp h0 h1, g6] at k1 k2
  exact kk H1 locs1 ⟨xPW.of g1 he k1 k2, k3⟩
/-- a byte out of one of the two tables of digits -/
theorem x_tab {A : Nat → Prop} {t : Nat} {f : Nat → Int32} (hC : xB p s m args meth c cc nL own nm Ts ret G A) (hT : va_T .byte t 100 (fun j => .int (f j)) A s s.heap) (hw : xD G A s M H locs) (h0 : 0 ≤ z) (h2 : z < 100) (hdg : decode cc pc = .ok (.baload, 1))
    (kk : W p l e R s m args below meth c H locs cells slots Q (F0 m (pc + 1) ls (.int (f z.toNat) :: rest))) : W p l e R s m args below meth c H locs cells slots Q (F0 m pc ls (.int (iN z) :: .ref t :: rest)) :=
  va_tb hC.1 hC.2.1 hT hw.2 (iN_in h0 (by omega) h2) (by rw [iN_clamp h0 (by omega)]) hdg kk
/-- a row of bytes into another -/
theorem x_copyB {A : Nat → Prop} (hC : xB p s m args meth c cc nL own nm Ts ret G A) (hw : xD G A s M H locs) (hls : ls.size = nL) (k1 : Cond.methodLink own idx arraycopyName ∈ Ts) (k2 : Cond.native arraycopyName ∈ Ts) (k3 : Cond.static arraycopyName ∈ Ts) (k4 : Cond.initialized "java/lang/System" ∈ Ts)
    {b n0 n : Nat} {f g : Nat → Int32} (hb : M b = some (.inl (G.2 0, n0, .inl f))) (he : M a = some (.inl (G.2 0, n, .inl g))) (hbf : bf f) {sp dp cn : Int} (h1 : 0 ≤ sp) (h2 : 0 ≤ dp) (h3 : 0 ≤ cn) (h4 : sp + cn ≤ n0) (h5 : dp + cn ≤ n) (hn : n ≤ 100000) (hn0 : n0 ≤ 100000) (hframes : 1 ≤ R.frames) (hlocals : (rest.map fun v => v.category).sum + (nativeFrameWords "java/lang/System" "arraycopy" 5 + 11) ≤ R.locals) (hdg : decode cc pc = .ok (.invokestatic idx, 3))
    (kk : ∀ (H1 : Heap) (locs1 : List Loc), xD G A s (va_up M a (some (.inl (G.2 0, n, .inl (va_cpy f g sp.toNat dp.toNat cn.toNat))))) H1 locs1 → W p l e R s m args below meth c H1 locs1 cells slots Q (F0 m (pc + 3) ls rest)) : W p l e R s m args below meth c H locs cells slots Q (F0 m pc ls (.int (iN cn) :: .int (iN dp) :: .ref a :: .int (iN sp) :: .ref b :: rest)) := by
  obtain ⟨L, g1, g2, g3⟩ := hw.1
  obtain ⟨q, hq⟩ := va_pl_get (X := []) (f := xL M) ((g1 a).mpr (by rw [he]; exact fun q => nomatch q))
  obtain ⟨q0, hq0⟩ := va_pl_get (X := []) (f := xL M) ((g1 b).mpr (by rw [hb]; exact fun q => nomatch q))
  have ea : xL M a = .inl (G.2 0, n, .inl g) := by simp [xL, he]
  have eb : xL M b = .inl (G.2 0, n0, .inl f) := by simp [xL, hb]
  rw [ea] at hq
  rw [eb] at hq0
  have g6 : ∀ e2 : va_E, (va_pl L (xL M)).set q (a, e2) = va_pl L (xL (va_up M a (some e2))) := by
    obtain ⟨L2, k2, u1, u2, u3, u4, u5, u6⟩ := hw.1.get he
    intro e2
    have hD : va_D A ([] ++ va_pl L (xL M)) := g3
    have h7 := va_pl_set (X := []) (e := e2) hD ((g1 a).mpr (by rw [he]; exact fun q => nomatch q)) (by rw [ea]; exact hq)
    simp only [List.nil_append] at h7
    rw [h7]
    exact va_pl_congr (fun b => by
      by_cases hb : b = a
      · subst hb; simp [xL, va_up]
      · simp [xL, va_up, hb])
  have nl : ∀ z : Int, 0 ≤ z → z ≤ 100000 → ¬ iN z < 0 := fun z q1 q2 q3 => by rw [← iN_0, iN_lt ⟨by omega, by omega⟩ rI0] at q3; omega
  have e1 : (iN sp).toNatClampNeg = sp.toNat := iN_clamp h1 (by omega)
  have e2 : (iN dp).toNatClampNeg = dp.toNat := iN_clamp h2 (by omega)
  have e3 : (iN cn).toNatClampNeg = cn.toNat := iN_clamp h3 (by omega)
  refine va_copyi (D := G.1) hC.1 hC.2.1 (by rw [hC.2.2.1, hls]) hC.2.2.2.1 (hC.2.2.2.2.1 _ k1) (hC.2.2.2.2.1 _ k2) (hC.2.2.2.2.1 _ k3) (hC.2.2.2.2.1 _ k4) hC.2.2.2.2.2.2.2.2.1.1 g2 g3 hw.2 q0 q 0 0 hq0 hq rfl rfl rfl (nl sp h1 (by omega)) (nl dp h2 (by omega)) (nl cn h3 (by omega)) (by rw [e1, e3]; omega) (by rw [e2, e3]; omega) (fun i _ => hbf _) hframes hlocals hdg (fun H1 locs1 j1 j2 j3 => ?_)
  rw [e1, e2, e3, g6] at j1 j2
  exact kk H1 locs1 ⟨xPW.of g1 he j1 j2, j3⟩
/-- the bytes of a String constant into a row of bytes -/
theorem x_copyL (hC : xB p s m args meth c cc nL own nm Ts ret G (xA M0 s.heap.size)) (hw : xD G (xA M0 s.heap.size) s M H locs) (hls : ls.size = nL) (k1 : Cond.methodLink own idx arraycopyName ∈ Ts) (k2 : Cond.native arraycopyName ∈ Ts) (k3 : Cond.static arraycopyName ∈ Ts) (k4 : Cond.initialized "java/lang/System" ∈ Ts)
    {n9 n : Nat} {w : String × Nat × String × List Int32} {g : Nat → Int32} (hn9 : xLits[n9]? = some w) (hbf : bf (fun j => w.2.2.2.getD j 0)) (he : M a = some (.inl (G.2 0, n, .inl g))) {sp dp cn : Int} (h1 : 0 ≤ sp) (h2 : 0 ≤ dp) (h3 : 0 ≤ cn) (h4 : sp + cn ≤ w.2.2.2.length) (h5 : dp + cn ≤ n) (hn : n ≤ 100000) (hn0 : w.2.2.2.length ≤ 100000) (hframes : 1 ≤ R.frames) (hlocals : (rest.map fun v => v.category).sum + (nativeFrameWords "java/lang/System" "arraycopy" 5 + 11) ≤ R.locals) (hdg : decode cc pc = .ok (.invokestatic idx, 3))
    (kk : ∀ (H1 : Heap) (locs1 : List Loc), xD G (xA M0 s.heap.size) s (va_up M a (some (.inl (G.2 0, n, .inl (va_cpy (fun j => w.2.2.2.getD j 0) g sp.toNat dp.toNat cn.toNat))))) H1 locs1 → W p l e R s m args below meth c H1 locs1 cells slots Q (F0 m (pc + 3) ls rest)) : W p l e R s m args below meth c H locs cells slots Q (F0 m pc ls (.int (iN cn) :: .int (iN dp) :: .ref a :: .int (iN sp) :: .ref (G.2 (101 + 2 * n9)) :: rest)) := by
  obtain ⟨L, q, g1, g2, g3, g4, g5, g6⟩ := hw.1.get he
  have nl : ∀ z : Int, 0 ≤ z → z ≤ 100000 → ¬ iN z < 0 := fun z q1 q2 q3 => by rw [← iN_0, iN_lt ⟨by omega, by omega⟩ rI0] at q3; omega
  have e1 : (iN sp).toNatClampNeg = sp.toNat := iN_clamp h1 (by omega)
  have e2 : (iN dp).toNatClampNeg = dp.toNat := iN_clamp h2 (by omega)
  have e3 : (iN cn).toNatClampNeg = cn.toNat := iN_clamp h3 (by omega)
  refine vk_copyt (D := G.1) hC.1 hC.2.1 (by rw [hC.2.2.1, hls]) hC.2.2.2.1 (hC.2.2.2.2.1 _ k1) (hC.2.2.2.2.1 _ k2) (hC.2.2.2.2.1 _ k3) (hC.2.2.2.2.1 _ k4) hC.2.2.2.2.2.2.2.2.1.1 g2 g3 hw.2 (hC.2.2.2.2.2.2.2.2.1.2.2.1 n9 _ hn9).2.2.2.2 q 0 g5 rfl (nl sp h1 (by omega)) (nl dp h2 (by omega)) (nl cn h3 (by omega)) (by rw [e1, e3]; omega) (by rw [e2, e3]; omega) (fun i _ => hbf _) hframes hlocals hdg (fun H1 locs1 j1 j2 j3 => ?_)
  rw [e1, e2, e3, g6] at j1 j2
  exact kk H1 locs1 ⟨xPW.of g1 he j1 j2, j3⟩
theorem x_cloneB {A : Nat → Prop} (hC : xB p s m args meth c cc nL own nm Ts ret G A) (hw : xD G A s M H locs) (hls : ls.size = nL) {n : Nat} {f : Nat → Int32} (he : M a = some (.inl (G.2 0, n, .inl f))) (hbf : bf f)
    (k1 : Cond.methodLink own idx ⟨"[B", "clone", "()Ljava/lang/Object;"⟩ ∈ Ts) (k2 : Cond.sameMethod "[B" "java/lang/Object" "clone" "()Ljava/lang/Object;" ∈ Ts) (k3 : Cond.native ⟨"java/lang/Object", "clone", "()Ljava/lang/Object;"⟩ ∈ Ts) (k4 : Cond.instanceMethod ⟨"java/lang/Object", "clone", "()Ljava/lang/Object;"⟩ ∈ Ts) (k5 : Cond.selects "[B" ⟨"[B", "clone", "()Ljava/lang/Object;"⟩ ⟨"java/lang/Object", "clone", "()Ljava/lang/Object;"⟩ ∈ Ts)
    (hframes : 1 ≤ R.frames) (hlocals : (rest.map fun v => v.category).sum + 14 ≤ R.locals) (hcells : cells + 1 ≤ R.cells) (hslots : slots + n ≤ R.slots) (hdg : decode cc pc = .ok (.invokevirtual idx, 3))
    (kk : ∀ (q : Nat) (H1 : Heap), M q = none → xD G A s (va_up M q (some (.inl (G.2 0, n, .inl f)))) H1 locs → W p l e R s m args below meth c H1 locs (cells + 1) (slots + n) Q (F0 m (pc + 3) ls (.ref q :: rest))) : W p l e R s m args below meth c H locs cells slots Q (F0 m pc ls (.ref a :: rest)) := by
  obtain ⟨L, q, g1, g2, g3, g4, g5, g6⟩ := hw.1.get he
  have hcast := hC.2.2.2.2.2.2.2.2.1.2.2.2.1.1 ("[B", "java/lang/Cloneable") (by decide)
  refine va_clone (D := G.1) hC.1 hC.2.1 (by rw [hC.2.2.1]; exact hls.symm) hC.2.2.2.1 (hC.2.2.2.2.1 _ k1) (hC.2.2.2.2.1 _ k2) (hC.2.2.2.2.1 _ k3) (hC.2.2.2.2.1 _ k4) (hC.2.2.2.2.1 _ k5) hcast hC.2.2.2.2.2.2.2.2.1.1 g2 g3 hw.2 hC.2.2.2.2.2.2.2.2.2 q 0 g5 rfl ((hC.2.2.2.2.2.2.2.2.1.1.2 0 _ rfl).2) (fun i v hv => ?_) hframes hlocals hcells hslots hdg (fun q9 H1 k0 k1 k2 k3 => ?_)
  · have hv' : (arrV (G.2 0) n (fun j => .int (f j))).slots[i]? = some v := hv
    have hi := (Array.getElem?_eq_some_iff.mp hv').1
    rw [arrV_size] at hi
    rw [arrV_read _ _ hi] at hv'
    cases hv'
    exact hbf i
  · obtain ⟨e1, e2⟩ := xPW.new g1 k1 k2
    exact kk q9 H1 e1 ⟨e2, k3⟩
theorem x_castB {A : Nat → Prop} (hC : xB p s m args meth c cc nL own nm Ts ret G A) (hw : xD G A s M H locs) {x : _} (he : M a = some (.inl (G.2 0, x))) (k1 : Cond.classLink own idx "[B" ∈ Ts) (hdg : decode cc pc = .ok (.checkcast idx, 3))
    (kk : W p l e R s m args below meth c H locs cells slots Q (F0 m (pc + 3) ls (.ref a :: rest))) : W p l e R s m args below meth c H locs cells slots Q (F0 m pc ls (.ref a :: rest)) := by
  obtain ⟨L, q, g1, g2, g3, g4, g5, g6⟩ := hw.1.get he
  exact va_castA hC.1 hC.2.1 hC.2.2.2.1 (hC.2.2.2.2.1 _ k1) g2 q g5 ((hC.2.2.2.2.2.2.2.2.1.1.2 0 _ rfl).2) hdg kk
theorem x_sh0 (x : Int32) : x <<< ((0 : Int32) &&& 31) = x ∧ x >>> ((0 : Int32) &&& 31) = x := by
  have e : (0 : Int32) &&& 31 = 0 := by decide
  rw [e]
  exact ⟨by simp, by simp⟩
theorem x_ishl0 {A : Nat → Prop} (hC : xB p s m args meth c cc nL own nm Ts ret G A) (hdg : decode cc pc = .ok (.ishl, 1)) (kk : W p l e R s m args below meth c H locs cells slots Q (F0 m (pc + 1) ls (.int (iN z) :: rest))) : W p l e R s m args below meth c H locs cells slots Q (F0 m pc ls (.int (iN 0) :: .int (iN z) :: rest)) := by
  refine lv_ishl hC.1 hC.2.1 hdg ?_
  rw [show iN 0 = (0 : Int32) from rfl, (x_sh0 (iN z)).1]
  exact kk
theorem x_ishr0 {A : Nat → Prop} (hC : xB p s m args meth c cc nL own nm Ts ret G A) (hdg : decode cc pc = .ok (.ishr, 1)) (kk : W p l e R s m args below meth c H locs cells slots Q (F0 m (pc + 1) ls (.int (iN z) :: rest))) : W p l e R s m args below meth c H locs cells slots Q (F0 m pc ls (.int (iN 0) :: .int (iN z) :: rest)) := by
  refine lv_ishr hC.1 hC.2.1 hdg ?_
  rw [show iN 0 = (0 : Int32) from rfl, (x_sh0 (iN z)).2]
  exact kk
theorem x_i2b {A : Nat → Prop} (hC : xB p s m args meth c cc nL own nm Ts ret G A) {x : Int32} (hdg : decode cc pc = .ok (.i2b, 1)) (kk : ∀ z : Int, (-2147483648 ≤ z ∧ z ≤ 2147483647) → W p l e R s m args below meth c H locs cells slots Q (F0 m (pc + 1) ls (.int (iN z) :: rest))) : W p l e R s m args below meth c H locs cells slots Q (F0 m pc ls (.int x :: rest)) := by
  refine lv_i2b hC.1 hC.2.1 hdg rfl ?_
  have h := kk _ (iN_rng x.toInt8.toInt32)
  rw [iN_asI] at h
  exact h
end JROWS
section JRET
variable {p : Program} {l : Launch} {e : Env} {R : Room} {s : State} {m : MethodId} {args : Array Value} {below : List Frame} {meth : Method} {c : Code} {H : Heap} {locs : List Loc} {cells slots mc ms : Nat}
variable {cc : ByteArray} {pc nL : Nat} {ls : Array Slot} {G : xG} {M M0 : HM} {own nm : String} {Ts : List Cond} {Q1 : Option Value → HM → Prop}
theorem x_bret (hC : xB p s m args meth c cc nL own nm Ts (some .byte) G (xA M0 s.heap.size)) (hw : xD G (xA M0 s.heap.size) s M H locs) {z : Int} (hz : z = 0 ∨ z = 1) (hdg : decode cc pc = .ok (.ireturn, 1)) (hc : cells ≤ mc) (hs : slots ≤ ms) (hq : Q1 (some (.int (iN z))) M) : W p l e R s m args below meth c H locs cells slots (MQ below (xQc G M0 s.heap.size Q1) args s mc ms (xA M0 s.heap.size)) (F0 m pc ls [.int (iN z)]) := by
  refine W.widen hc hs ?_
  exact W.zret hC.1 hC.2.1 hC.2.2.2.2.2.1 (by rcases hz with rfl | rfl <;> rfl) (fun t ht hW => ⟨⟨_, M, rfl, hq, by rw [ht]; exact hw.1⟩, hw.2.F ht⟩) hw.2.2.2 hdg hC.2.2.2.2.2.2.1
end JRET
section JCALLS
variable {p : Program} {l : Launch} {e : Env} {R : Room} {s : State} {m : MethodId} {args : Array Value} {below : List Frame} {meth : Method} {c : Code} {H : Heap} {locs : List Loc} {cells slots : Nat} {Q : State → Prop}
variable {cc : ByteArray} {pc nL : Nat} {ls : Array Slot} {st rest : List Value} {G : xG} {A : Nat → Prop} {a : Nat} {M M0 : HM} {own nm : String} {Ts : List Cond} {ret : Option FieldType}
variable {x y : MethodName} {wy wy' : List Cond} {bytes : ByteArray} {maxL : Nat} {ry : Option FieldType} {fr lo mc ms idx : Nat} {C owner : String} {As : List Value} {b ci : Nat} {fs : List Value} {T : u_T} {N : Nat} {Q1 : Option Value → HM → Prop}
/-- an instance method that a superclass declares -/
theorem x_callU (hC : xB p s m args meth c cc nL own nm Ts ret G A) (hw : xD G A s M H locs) (hls : ls.size = nL) (hM : xMet l G y wy fr lo mc ms (.ref b :: As) M Q1)
    (hg : GoodIn Ts (va_wsU own idx C owner x y wy)) (hwy : wy = Cond.code y bytes maxL ry :: wy') (hyx : y = ⟨owner, x.name, x.desc⟩) (hd : owner ≠ "java/lang/invoke/MethodHandle" ∧ owner ≠ "java/lang/invoke/VarHandle" ∧ (parseMethodDescriptor x.desc).map (fun d => d.parameters.length) = some As.length)
    (hb : M b = some (.inr (ci, fs))) (hc : vwCl[ci]? = some (C, T, N)) (hst : st = As.reverse ++ .ref b :: rest) (hrest : (rest.map fun v => v.category).sum ≤ 8)
    (hfr : fr + 1 ≤ R.frames) (hlo : 8 + (maxL + 11) + lo ≤ R.locals) (hcl : cells + mc ≤ R.cells) (hsl : slots + ms ≤ R.slots) (hdg : decode cc pc = .ok (.invokevirtual idx, 3))
    (kk : ∀ (r : Option Value) (M1 : HM) (H1 : Heap) (locs1 : List Loc), Q1 r M1 → xD G A s M1 H1 locs1 → W p l e R s m args below meth c H1 locs1 (cells + mc) (slots + ms) Q (F0 m (pc + 3) ls (r.toList ++ rest))) : W p l e R s m args below meth c H locs cells slots Q (F0 m pc ls st) :=
  x_goes hC hw (va_runU (As := As) (rest := rest) ⟨hC.1, hC.2.1, hC.2.2.1, hC.2.2.2.1, hC.2.2.2.2.1⟩ (hM H.size) (va_cwU As.length hC.2.2.2.2.1 hg hwy rfl rfl hyx hd ⟨hfr, hlo⟩) ⟨x_blind, x_recv hC hw hb hc, x_pre hC hw (.ref b :: As)⟩ rfl rfl hls hst (lv_room hrest) hdg ⟨hcl, hsl⟩) kk
/-- .. and the class has its own -/
theorem x_callO (hC : xB p s m args meth c cc nL own nm Ts ret G A) (hw : xD G A s M H locs) (hls : ls.size = nL) (hM : xMet l G y wy fr lo mc ms (.ref b :: As) M Q1)
    (hg : GoodIn Ts (va_wsO own idx C owner x y wy)) (hwy : wy = Cond.code y bytes maxL ry :: wy') {b0 : ByteArray} {m0 : Nat} {r0 : Option FieldType} (h0 : Cond.code ⟨owner, x.name, x.desc⟩ b0 m0 r0 ∈ Ts) (hd : owner ≠ "java/lang/invoke/MethodHandle" ∧ owner ≠ "java/lang/invoke/VarHandle" ∧ (parseMethodDescriptor x.desc).map (fun d => d.parameters.length) = some As.length)
    (hb : M b = some (.inr (ci, fs))) (hc : vwCl[ci]? = some (C, T, N)) (hst : st = As.reverse ++ .ref b :: rest) (hrest : (rest.map fun v => v.category).sum ≤ 8)
    (hfr : fr + 1 ≤ R.frames) (hlo : 8 + (maxL + 11) + lo ≤ R.locals) (hcl : cells + mc ≤ R.cells) (hsl : slots + ms ≤ R.slots) (hdg : decode cc pc = .ok (.invokevirtual idx, 3))
    (kk : ∀ (r : Option Value) (M1 : HM) (H1 : Heap) (locs1 : List Loc), Q1 r M1 → xD G A s M1 H1 locs1 → W p l e R s m args below meth c H1 locs1 (cells + mc) (slots + ms) Q (F0 m (pc + 3) ls (r.toList ++ rest))) : W p l e R s m args below meth c H locs cells slots Q (F0 m pc ls st) :=
  x_goes hC hw (va_runU (As := As) (rest := rest) ⟨hC.1, hC.2.1, hC.2.2.1, hC.2.2.2.1, hC.2.2.2.2.1⟩ (hM H.size) (va_cwO As.length hC.2.2.2.2.1 hg hwy rfl rfl h0 hd ⟨hfr, hlo⟩) ⟨x_blind, x_recv hC hw hb hc, x_pre hC hw (.ref b :: As)⟩ rfl rfl hls hst (lv_room hrest) hdg ⟨hcl, hsl⟩) kk
/-- a superclass's method -/
theorem x_callSU (hC : xB p s m args meth c cc nL own nm Ts ret G A) (hw : xD G A s M H locs) (hls : ls.size = nL) (hM : xMet l G y wy fr lo mc ms (.ref b :: As) M Q1)
    (hg : GoodIn Ts (va_wsSU own idx y wy)) (hwy : wy = Cond.code y bytes maxL ry :: wy') (hd : y.name ≠ "<init>" ∧ (parseMethodDescriptor y.desc).map (fun d => d.parameters.length) = some As.length)
    (hb : M b = some (.inr (ci, fs))) (hc : vwCl[ci]? = some (C, T, N)) (hst : st = As.reverse ++ .ref b :: rest) (hrest : (rest.map fun v => v.category).sum ≤ 8)
    (hfr : fr + 1 ≤ R.frames) (hlo : 8 + (maxL + 11) + lo ≤ R.locals) (hcl : cells + mc ≤ R.cells) (hsl : slots + ms ≤ R.slots) (hdg : decode cc pc = .ok (.invokespecial idx, 3))
    (kk : ∀ (r : Option Value) (M1 : HM) (H1 : Heap) (locs1 : List Loc), Q1 r M1 → xD G A s M1 H1 locs1 → W p l e R s m args below meth c H1 locs1 (cells + mc) (slots + ms) Q (F0 m (pc + 3) ls (r.toList ++ rest))) : W p l e R s m args below meth c H locs cells slots Q (F0 m pc ls st) :=
  x_goes hC hw (va_runSU (As := As) (rest := rest) (hC.2.2.2.2.2.2.2.2.1.1.1 ci _ hc).2 ⟨hC.1, hC.2.1, hC.2.2.1, hC.2.2.2.1, hC.2.2.2.2.1⟩ (hM H.size) (va_cwSU As.length hC.2.2.2.2.1 hg hwy rfl rfl hd ⟨hfr, hlo⟩) ⟨x_blind, x_recv hC hw hb hc, x_pre hC hw (.ref b :: As)⟩ rfl rfl hls hst (lv_room hrest) hdg ⟨hcl, hsl⟩) kk
/-- an instance method of a String constant -/
theorem x_callL (hC : xB p s m args meth c cc nL own nm Ts ret G (xA M0 s.heap.size)) (hw : xD G (xA M0 s.heap.size) s M H locs) (hls : ls.size = nL) {n9 : Nat} {w : String × Nat × String × List Int32} (hn9 : xLits[n9]? = some w) (hM : xMet l G y wy fr lo mc ms (.ref (G.2 (100 + 2 * n9)) :: As) M Q1)
    (hg : GoodIn Ts (wsV own idx "java/lang/String" y wy)) (hwy : wy = Cond.code y bytes maxL ry :: wy') (hd : y.cls = "java/lang/String" ∧ y.cls ≠ "java/lang/invoke/MethodHandle" ∧ y.cls ≠ "java/lang/invoke/VarHandle" ∧ (parseMethodDescriptor y.desc).map (fun d => d.parameters.length) = some As.length)
    (hst : st = As.reverse ++ .ref (G.2 (100 + 2 * n9)) :: rest) (hrest : (rest.map fun v => v.category).sum ≤ 8)
    (hfr : fr + 1 ≤ R.frames) (hlo : 8 + (maxL + 11) + lo ≤ R.locals) (hcl : cells + mc ≤ R.cells) (hsl : slots + ms ≤ R.slots) (hdg : decode cc pc = .ok (.invokevirtual idx, 3))
    (kk : ∀ (r : Option Value) (M1 : HM) (H1 : Heap) (locs1 : List Loc), Q1 r M1 → xD G (xA M0 s.heap.size) s M1 H1 locs1 → W p l e R s m args below meth c H1 locs1 (cells + mc) (slots + ms) Q (F0 m (pc + 3) ls (r.toList ++ rest))) : W p l e R s m args below meth c H locs cells slots Q (F0 m pc ls st) :=
  x_goes hC hw (va_runV (As := As) (rest := rest) ⟨hC.1, hC.2.1, hC.2.2.1, hC.2.2.2.1, hC.2.2.2.2.1⟩ (hM H.size) (cwV As.length hC.2.2.2.2.1 hg hwy rfl rfl hd ⟨hfr, hlo⟩) ⟨x_blind, va_Orecv (hC.2.2.2.2.2.2.2.2.1.2.2.1 n9 _ hn9).2.1 hw.2, x_pre hC hw (.ref (G.2 (100 + 2 * n9)) :: As)⟩ rfl rfl hls hst (lv_room hrest) hdg ⟨hcl, hsl⟩) kk
end JCALLS
theorem x_nrm2 (e : Int) : ∃ z : Int, iN e = iN z ∧ (-2147483648 ≤ z ∧ z ≤ 2147483647) ∧ ((-2147483648 ≤ e ∧ e ≤ 2147483647) → z = e) := ⟨(iN e).toInt, (iN_asI _).symm, iN_rng _, fun h => iN_toInt h⟩
/-- the bounds of a text: its length, its room, all its rooms -/
def cuM (b N cM uM : Nat) : Prop := (b = 17 ∧ N = 606 ∧ cM = 606 ∧ uM = 1185) ∨ (b = 17 ∧ N = 1006 ∧ cM = 1214 ∧ uM = 2399) ∨ (b = 16 ∧ N = 2600 ∧ cM = 4606 ∧ uM = 9180)
theorem Ch.t16 {b cap u k : Nat} (h : Ch b cap u k) : b = 16 → cap ≤ 4606 ∧ u ≤ 9180 :=
  (show ∀ q ∈ chL, q.1 = 16 → q.2.1 ≤ 4606 ∧ q.2.2.1 ≤ 9180 by decide +kernel) _ h
theorem x_growT {b N cM uM cap u k : Nat} (hM : cuM b N cM uM) (h : Ch b cap u k) (hc : cap ≤ cM) {need : Int} (hn : need ≤ N) (hd : need ≤ cap + 18) : ∃ mc ms cap2 : Nat, (need ≤ cap ∨ (1 ≤ mc ∧ 2 * cap + 2 ≤ ms)) ∧ Ch b cap2 (u + ms) (k + mc) ∧ ((need ≤ cap ∧ cap2 = cap ∧ mc = 0 ∧ ms = 0) ∨ ((cap : Int) < need ∧ cap2 = 2 * cap + 2 ∧ mc = 1 ∧ ms = 2 * cap + 2)) ∧ (cap2 ≤ cM ∧ u + ms ≤ uM ∧ k + mc ≤ 9 ∧ 16 ≤ cap2) := by
  obtain ⟨mc, ms, cap2, h1, h2, h3, h4⟩ := x_grow h (need := need) (by rcases hM with ⟨-, h1, -⟩ | ⟨-, h1, -⟩ | ⟨-, h1, -⟩ <;> omega) hd
  have t1 := h.top
  have t2 := h2.top
  have t3 := h2.t16
  refine ⟨mc, ms, cap2, h1, h2, h4, ?_⟩
  have s2 := t2.2.1
  have s3 := t2.2.2.1
  rcases hM with ⟨q1, q2, q3, q4⟩ | ⟨q1, q2, q3, q4⟩ | ⟨q1, q2, q3, q4⟩
  · have t4 := (t1.2.2.2.2.2.2 q1).1
    have e : cap2 ≤ 606 := by
      clear t1 t2 t3 h1
      rcases h4 with ⟨-, g, -, -⟩ | ⟨g, g2, -, -⟩
      · omega
      · have t5 := t4 (by omega)
        omega
    have e2 := t2.2.2.2.2.2.1 e
    clear t1 t2 t3 t4 h1 h4
    omega
  · have t4 := (t1.2.2.2.2.2.2 q1).2
    have e : cap2 ≤ 1214 := by
      clear t1 t2 t3 h1
      rcases h4 with ⟨-, g, -, -⟩ | ⟨g, g2, -, -⟩
      · omega
      · have t5 := t4 (by omega)
        omega
    have e2 := t2.2.2.2.2.1 e
    clear t1 t2 t3 t4 h1 h4
    omega
  · have e2 := t3 q1
    clear t1 t2 t3 h1 h4
    omega
/-- where the digits of a number lie: its size tells how far the front is -/
def gcI (ng x cp : Int) : Prop := (x ≤ -10 → ng + 2 ≤ cp) ∧ (x ≤ -100 → ng + 3 ≤ cp) ∧ (x ≤ -1000 → ng + 4 ≤ cp) ∧ (x ≤ -10000 → ng + 5 ≤ cp) ∧ (x ≤ -100000 → ng + 6 ≤ cp) ∧ (x ≤ -1000000 → ng + 7 ≤ cp) ∧ (x ≤ -10000000 → ng + 8 ≤ cp) ∧ (x ≤ -100000000 → ng + 9 ≤ cp) ∧ (x ≤ -1000000000 → ng + 10 ≤ cp)
theorem gcI_pos {p0 p1 : Int} (h : dgs p0 ≤ p1) : gcI 0 (-p0) p1 :=
  ⟨fun h9 => (by have h8 := (dgs_ge p0).2.2.2.1 (by omega); omega), fun h9 => (by have h8 := (dgs_ge p0).2.2.2.2.2.1 (by omega); omega), fun h9 => (by have h8 := (dgs_ge p0).2.2.2.2.2.2.2.1 (by omega); omega), fun h9 => (by have h8 := (dgs_ge p0).2.2.2.2.2.2.2.2.2.1 (by omega); omega), fun h9 => (by have h8 := (dgs_ge p0).2.2.2.2.2.2.2.2.2.2.2.1 (by omega); omega), fun h9 => (by have h8 := (dgs_ge p0).2.2.2.2.2.2.2.2.2.2.2.2.2.1 (by omega); omega), fun h9 => (by have h8 := (dgs_ge p0).2.2.2.2.2.2.2.2.2.2.2.2.2.2.2.1 (by omega); omega), fun h9 => (by have h8 := (dgs_ge p0).2.2.2.2.2.2.2.2.2.2.2.2.2.2.2.2.2.1 (by omega); omega), fun h9 => (by have h8 := (dgs_ge p0).2.2.2.2.2.2.2.2.2.2.2.2.2.2.2.2.2.2.2 (by omega); omega)⟩
theorem gcI_neg {p0 p1 : Int} (h : dgs p0 ≤ p1) : gcI 1 p0 p1 :=
  ⟨fun h9 => (by have h8 := (dgs_ge p0).2.2.1 (by omega); omega), fun h9 => (by have h8 := (dgs_ge p0).2.2.2.2.1 (by omega); omega), fun h9 => (by have h8 := (dgs_ge p0).2.2.2.2.2.2.1 (by omega); omega), fun h9 => (by have h8 := (dgs_ge p0).2.2.2.2.2.2.2.2.1 (by omega); omega), fun h9 => (by have h8 := (dgs_ge p0).2.2.2.2.2.2.2.2.2.2.1 (by omega); omega), fun h9 => (by have h8 := (dgs_ge p0).2.2.2.2.2.2.2.2.2.2.2.2.1 (by omega); omega), fun h9 => (by have h8 := (dgs_ge p0).2.2.2.2.2.2.2.2.2.2.2.2.2.2.1 (by omega); omega), fun h9 => (by have h8 := (dgs_ge p0).2.2.2.2.2.2.2.2.2.2.2.2.2.2.2.2.1 (by omega); omega), fun h9 => (by have h8 := (dgs_ge p0).2.2.2.2.2.2.2.2.2.2.2.2.2.2.2.2.2.2.1 (by omega); omega)⟩
theorem gcI_next {ng x cp z : Int} (h : gcI ng x cp) (hz : x ≤ 100 * z ∧ 100 * z < x + 100 ∧ z ≤ 0) (hr : -2147483648 ≤ x) : gcI ng z ((cp + (-1)) + (-1)) :=
  ⟨fun h9 => (by have h8 := h.2.2.1 (by omega); omega), fun h9 => (by have h8 := h.2.2.2.1 (by omega); omega), fun h9 => (by have h8 := h.2.2.2.2.1 (by omega); omega), fun h9 => (by have h8 := h.2.2.2.2.2.1 (by omega); omega), fun h9 => (by have h8 := h.2.2.2.2.2.2.1 (by omega); omega), fun h9 => (by have h8 := h.2.2.2.2.2.2.2.1 (by omega); omega), fun h9 => (by have h8 := h.2.2.2.2.2.2.2.2 (by omega); omega), fun h9 => (by omega), fun h9 => (by omega)⟩
/-- what the texts of the views cost so far -/
def suQ (Tm : Nat) (w : Int) (su : Nat) : Prop := (w = 0 ∧ su ≤ 319) ∨ (w = 1 ∧ su ≤ 319 + Tm) ∨ (w = 2 ∧ su ≤ 319 + 2 * Tm) ∨ (w = 3 ∧ su ≤ 319 + 3 * Tm) ∨ (w = 4 ∧ su ≤ 319 + 4 * Tm)
theorem suQ.init {Tm su : Nat} (h : su ≤ 319) : suQ Tm 0 su := Or.inl ⟨rfl, h⟩
theorem suQ.next {Tm su su2 : Nat} {w : Int} (h : suQ Tm w su) (hw : w < 4) (h2 : su2 = su + Tm) : suQ Tm (w + 1) su2 := by
  unfold suQ at *
  rcases h with ⟨a, b⟩ | ⟨a, b⟩ | ⟨a, b⟩ | ⟨a, b⟩ | ⟨a, b⟩
  · exact Or.inr (Or.inl ⟨by omega, by omega⟩)
  · exact Or.inr (Or.inr (Or.inl ⟨by omega, by omega⟩))
  · exact Or.inr (Or.inr (Or.inr (Or.inl ⟨by omega, by omega⟩)))
  · exact Or.inr (Or.inr (Or.inr (Or.inr ⟨by omega, by omega⟩)))
  · exact absurd a (by omega)
theorem suQ.skip {Tm su : Nat} {w : Int} (h : suQ Tm w su) (hw : w < 4) : suQ Tm (w + 1) su := by
  unfold suQ at *
  rcases h with ⟨a, b⟩ | ⟨a, b⟩ | ⟨a, b⟩ | ⟨a, b⟩ | ⟨a, b⟩
  · exact Or.inr (Or.inl ⟨by omega, by omega⟩)
  · exact Or.inr (Or.inr (Or.inl ⟨by omega, by omega⟩))
  · exact Or.inr (Or.inr (Or.inr (Or.inl ⟨by omega, by omega⟩)))
  · exact Or.inr (Or.inr (Or.inr (Or.inr ⟨by omega, by omega⟩)))
  · exact absurd a (by omega)
theorem suQ.le {Tm su : Nat} {w : Int} (h : suQ Tm w su) : (su : Int) ≤ 319 + 4 * Tm := by
  unfold suQ at h
  rcases h with h | h | h | h | h <;> omega
theorem suQ.lt {Tm su : Nat} {w : Int} (h : suQ Tm w su) (hw : w < 4) : (su : Int) ≤ 319 + 3 * Tm := by
  unfold suQ at h
  rcases h with h | h | h | h | h <;> omega
