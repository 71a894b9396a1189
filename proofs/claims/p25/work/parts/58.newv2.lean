/-! ===== select, drop, join ===== -/
theorem w2_k {M : St} {q nv k t : Nat} {x : Int32} (h : k ≠ q ∨ t ≠ nv) : (w2 M q nv x).2 k t = M.2 k t := by
  rcases h with h | h
  · rw [w2_ne h]
  · by_cases hk : k = q
    · subst hk; exact w2_nj h
    · rw [w2_ne hk]