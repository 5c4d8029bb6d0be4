/-! how many unlike values a book has: by places, by keys -/
section UNL
theorem laF_0 {V : Nat → Int} {k : Nat} : ∀ {n : Nat}, laF V k n = 0 ↔ ∀ j, j < n → k < j → V j ≠ V k
  | 0 => ⟨fun _ j hj => absurd hj (Nat.not_lt_zero j), fun _ => rfl⟩
  | n + 1 => by
    have ih := laF_0 (V := V) (k := k) (n := n)
    have nn : 0 ≤ laF V k n := (sI_rng (c := 1) (by omega) (fun j _ => by split <;> omega)).1
    have e : laF V k (n + 1) = laF V k n + (if k < n ∧ V n = V k then 1 else 0) := rfl
    rw [e]
    constructor
    · intro h j hj hk
      by_cases c : k < n ∧ V n = V k
      · rw [if_pos c] at h; omega
      · rw [if_neg c] at h
        by_cases q : j = n
        · subst q; exact fun x => c ⟨hk, x⟩
        · exact ih.mp (by omega) j (by omega) hk
    · intro h
      rw [ih.mpr (fun j hj => h j (Nat.lt_succ_of_lt hj)), if_neg (fun c => h n (Nat.lt_succ_self n) c.1 c.2)]; rfl
theorem la_ex {V : Nat → Int} : ∀ (m k : Nat), 100 - k ≤ m → k < 100 → ∃ j, j < 100 ∧ laF V j 100 = 0 ∧ V j = V k
  | 0, k, hm, hk => by omega
  | m + 1, k, hm, hk => by
    by_cases c : laF V k 100 = 0
    · exact ⟨k, hk, c, rfl⟩
    · by_cases e : ∃ j, j < 100 ∧ (k < j ∧ V j = V k)
      · obtain ⟨j, hj, hkj, hv⟩ := e
        obtain ⟨i, h1, h2, h3⟩ := la_ex (V := V) m j (by omega) hj
        exact ⟨i, h1, h2, by rw [h3, hv]⟩
      · exact absurd (laF_0.mpr (fun j hj hkj hv => e ⟨j, hj, hkj, hv⟩)) c
theorem un_eq {o : Nat} {V : Nat → Int} {fk fv : Nat → Int32} {n : Nat} (hV : BV o V n fk fv) : unP fv n = unF V 100 := by
  have hr : ∀ p, p < n → -9999 ≤ (fv p).toInt ∧ (fv p).toInt ≤ 9999 := fun p hp => by
    have h1 := hV.v hp
    have h2 := hV.vr (hV.k hp).2.1
    omega
  have e1 : unP fv n = sI (fun v => if ∃ p, p < n ∧ vN ((fv p).toInt) = v then 1 else 0) 19999 := by
    refine cnt_of (f := fun p => (fv p).toInt) (fun q => ∀ p, p < q → (fv p).toInt ≠ (fv q).toInt) hr (fun p q hp hq xp xq hv => ?_) (fun p hp => ?_)
    · rcases Nat.lt_trichotomy p q with g | g | g
      · exact absurd hv (xq p g)
      · exact g
      · exact absurd hv.symm (xp q g)
    · have go : ∀ m p, p ≤ m → p < n → ∃ q, q < n ∧ (∀ r, r < q → (fv r).toInt ≠ (fv q).toInt) ∧ (fv q).toInt = (fv p).toInt := fun m => by
        induction m with
        | zero => exact fun p h1 h2 => ⟨p, h2, fun r hr => by omega, rfl⟩
        | succ m ih =>
          intro p h1 h2
          by_cases e : ∃ r, r < p ∧ (fv r).toInt = (fv p).toInt
          · obtain ⟨r, hr1, hr2⟩ := e
            obtain ⟨q, a, b, c⟩ := ih r (by omega) (by omega)
            exact ⟨q, a, b, by rw [c, hr2]⟩
          · exact ⟨p, h2, fun r hr1 hr2 => e ⟨r, hr1, hr2⟩, rfl⟩
      exact go p p (Nat.le_refl p) hp
  have e2 : unF V 100 = sI (fun p => if laF V (kN fk p) 100 = 0 then 1 else 0) n := by
    rw [hV.sum (fun k => if laF V k 100 = 0 then 1 else 0)]
    exact sI_congr (fun k _ => by
      by_cases a : V k ≠ -10000
      · by_cases b : laF V k 100 = 0
        · rw [if_pos ⟨a, b⟩, if_pos a, if_pos b]
        · rw [if_neg (fun x => b x.2), if_pos a, if_neg b]
      · rw [if_neg (fun x => a x.1), if_neg a])
  have e3 : sI (fun p => if laF V (kN fk p) 100 = 0 then 1 else 0) n = sI (fun v => if ∃ p, p < n ∧ vN ((fv p).toInt) = v then 1 else 0) 19999 := by
    refine cnt_of (f := fun p => (fv p).toInt) (fun p => laF V (kN fk p) 100 = 0) hr (fun p q hp hq xp xq hv => ?_) (fun p hp => ?_)
    · have vp := hV.v hp
      have vq := hV.v hq
      refine hV.inj hp hq ?_
      rcases Nat.lt_trichotomy (kN fk p) (kN fk q) with g | g | g
      · exact absurd (by rw [← vp.1, ← vq.1]; exact hv.symm) (laF_0.mp xp _ (hV.k hq).2.1 g)
      · exact g
      · exact absurd (by rw [← vp.1, ← vq.1]; exact hv) (laF_0.mp xq _ (hV.k hp).2.1 g)
    · obtain ⟨j, h1, h2, h3⟩ := la_ex (V := V) 100 (kN fk p) (by omega) (hV.k hp).2.1
      obtain ⟨q, hq, rfl⟩ := hV.at h1 (by rw [h3]; exact (hV.v hp).2)
      exact ⟨q, hq, h2, by rw [(hV.v hq).1, (hV.v hp).1, h3]⟩
  rw [e1, e2, e3]
end UNL
