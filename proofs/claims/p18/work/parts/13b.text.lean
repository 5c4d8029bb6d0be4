/-! the next key lies behind -/
theorem nrF_lt {O : OW} {V : BW} {t : VT} {k : Nat} {z : Int} (h : z = nrF O V t k 3) (hz : z ≠ -10000) : mW O t k < mW O t z.toNat := by
  have e : nrF O V t k 3 = clF O V t (mwN (O t.b) k) 1 100 := by
    unfold nrF; rw [if_neg (by decide), if_neg (by decide), if_neg (by decide)]
  rw [e] at h
  subst h
  rcases okC_iff.mp (clF_sh hz).2.2 with h2 | h2
  · exact h2.2
  · exact absurd h2.1 (by decide)
