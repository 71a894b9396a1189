/-! ===== both seek the same conflict ===== -/
theorem vd1 {β : Type} {k : Int32} {a b c d : Option β} (h : k = 1) : vd k a b c d = a := if_pos h
theorem vd2 {β : Type} {k : Int32} {a b c d : Option β} (h : k = 2) : vd k a b c d = b := by
  unfold vd
  rw [if_neg (show ¬ k = 1 by rw [h]; decide), if_pos h]
theorem vd4 {β : Type} {k : Int32} {a b c d : Option β} (h : k = 4) : vd k a b c d = c := by
  unfold vd
  rw [if_neg (show ¬ k = 1 by rw [h]; decide), if_neg (show ¬ k = 2 by rw [h]; decide), if_pos h]
theorem vd6 {β : Type} {k : Int32} {a b c d : Option β} (h : k = 6) : vd k a b c d = d := by
  unfold vd
  rw [if_neg (show ¬ k = 1 by rw [h]; decide), if_neg (show ¬ k = 2 by rw [h]; decide), if_neg (show ¬ k = 4 by rw [h]; decide)]
theorem told0 {S : St} (h : S.1 46 = 0) : d0_isTold S = some 0 := if_pos h
theorem told1 {S : St} (h : ¬ S.1 46 = 0) : d0_isTold S = some 1 := if_neg h
theorem Srt_ne {l : List Nat} {i j : Nat} (h : Srt l) (hij : i < j) (hj : j < l.length) : gl l i ≠ gl l j := Nat.ne_of_lt (h i j hij hj)