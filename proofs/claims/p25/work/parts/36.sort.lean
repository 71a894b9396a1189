/-! ===== rows in order ===== -/
def Srt (l : List Nat) : Prop := ∀ i j, i < j → j < l.length → gl l i < gl l j
theorem Srt_nil : Srt [] := fun i j _ h => by cases h
theorem insP_hi {r : Nat} {l : List Nat} : ∀ {n j : Nat}, insP r l n ≤ j → j < n → r < gl l j := by
  intro n
  induction n with
  | zero => intro j _ h; omega
  | succ n ih =>
    intro j h1 h2
    unfold insP at h1
    by_cases hle : gl l n ≤ r
    · rw [if_pos hle] at h1; omega
    · rw [if_neg hle] at h1
      by_cases hj : j = n
      · rw [hj]; omega
      · exact ih h1 (by omega)
theorem insP_lo {r : Nat} {l : List Nat} : ∀ {n : Nat}, 0 < insP r l n → gl l (insP r l n - 1) ≤ r := by
  intro n
  induction n with
  | zero => intro h; cases h
  | succ n ih =>
    intro h
    unfold insP at h ⊢
    by_cases hle : gl l n ≤ r
    · rw [if_pos hle]; exact hle
    · rw [if_neg hle] at h ⊢
      exact ih h
theorem insR_srt {r : Nat} {l : List Nat} (h : Srt l) : Srt (insR r l) := by
  by_cases hm : r ∈ l
  · unfold insR; rw [if_pos hm]; exact h
  · have hl := insR_len hm
    intro i j hij hj
    rw [hl] at hj
    have hple := insP_le r l l.length
    have hhi : ∀ q, insP r l l.length ≤ q → q < l.length → r < gl l q := fun q h1 h2 => insP_hi h1 h2
    have hlo : ∀ q, q < insP r l l.length → gl l q < r := by
      intro q hq
      have h1 := insP_lo (r := r) (l := l) (n := l.length) (by omega)
      have h2 : gl l q ≤ gl l (insP r l l.length - 1) := by
        by_cases hq2 : q = insP r l l.length - 1
        · rw [← hq2]; exact Nat.le_refl _
        · exact Nat.le_of_lt (h q _ (by omega) (by omega))
      have h3 : gl l q ≠ r := fun z => hm (z ▸ gl_mem (by omega))
      omega
    unfold insR
    rw [if_neg hm]
    generalize insP r l l.length = p at hple hhi hlo
    rw [gl_ins hple, gl_ins hple]
    by_cases j1 : j < p
    · rw [if_pos (by omega), if_pos j1]; exact h i j hij (by omega)
    · rw [if_neg j1]
      by_cases j2 : j = p
      · rw [if_pos j2, if_pos (by omega)]; exact hlo i (by omega)
      · rw [if_neg j2]
        by_cases i1 : i < p
        · rw [if_pos i1]; exact h i (j - 1) (by omega) (by omega)
        · rw [if_neg i1]
          by_cases i2 : i = p
          · rw [if_pos i2]; exact hhi (j - 1) (by omega) (by omega)
          · rw [if_neg i2]; exact h (i - 1) (j - 1) (by omega) (by omega)
theorem Srt_pw {l : List Nat} (h : Srt l) : l.Pairwise (· < ·) := by
  rw [List.pairwise_iff_getElem]
  intro i j hi hj hij
  have h1 := h i j hij hj
  unfold gl at h1
  rwa [List.getD_eq_getElem?_getD, List.getD_eq_getElem?_getD, List.getElem?_eq_getElem hi, List.getElem?_eq_getElem hj] at h1
theorem pw_Srt {l : List Nat} (h : l.Pairwise (· < ·)) : Srt l := by
  intro i j hij hj
  have := List.pairwise_iff_getElem.mp h i j (by omega) hj hij
  unfold gl
  rwa [List.getD_eq_getElem?_getD, List.getD_eq_getElem?_getD, List.getElem?_eq_getElem (by omega), List.getElem?_eq_getElem hj]
theorem Srt_nodup {l : List Nat} (h : Srt l) : l.Nodup := (Srt_pw h).imp (fun z => Nat.ne_of_lt z)
theorem ins_last {r : Nat} {l : List Nat} (h : ∀ q, q ∈ l → q < r) : insR r l = l ++ [r] := by
  have hm : r ∉ l := fun z => Nat.lt_irrefl _ (h r z)
  have hp : insP r l l.length = l.length := by
    cases hn : l.length with
    | zero => rfl
    | succ n =>
      unfold insP
      rw [if_pos (Nat.le_of_lt (h _ (gl_mem (by omega))))]
  unfold insR
  rw [if_neg hm, hp, List.take_length, List.drop_length]
theorem fold_srt {l : List Nat} (h : Srt l) : l.foldl (fun acc r => insR r acc) [] = l := by
  have key : ∀ k, k ≤ l.length → (l.take k).foldl (fun acc r => insR r acc) [] = l.take k := by
    intro k
    induction k with
    | zero => intro _; rfl
    | succ k ih =>
      intro hk
      rw [take_gl (by omega), List.foldl_append, ih (by omega)]
      show insR (gl l k) (l.take k) = _
      refine ins_last fun q hq => ?_
      obtain ⟨j, hj, rfl⟩ := mem_gl hq
      rw [List.length_take] at hj
      have : gl (l.take k) j = gl l j := by
        unfold gl
        rw [List.getD_eq_getElem?_getD, List.getD_eq_getElem?_getD, List.getElem?_take_of_lt (by omega)]
      rw [this]
      exact h j k (by omega) (by omega)
  have := key l.length (Nat.le_refl _)
  rwa [List.take_length] at this
theorem rem_srt {r : Nat} {l : List Nat} (h : Srt l) : Srt (rem r l) := pw_Srt ((Srt_pw h).filter _)
