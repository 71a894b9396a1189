/-! ===== add, takeOut, change ===== -/
theorem nm1 {n : Nat} (h : n < 2 ^ 31) : ¬ nI n = -1 := fun z => nI_pos h (by rw [z]; decide)
theorem rem_len {l : List Nat} {p r : Nat} (hn : l.Nodup) (hp : p < l.length) (he : gl l p = r) : (rem r l).length = l.length - 1 := by
  rw [← erase_rem hn hp he, List.length_eraseIdx, if_pos hp]