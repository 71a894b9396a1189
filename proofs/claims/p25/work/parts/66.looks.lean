/-! ===== one view's conflict, in both ===== -/
def dsp (x : Option St) (y : Option St) (S M : St) (o : Option (Int32 × Int32 × Int32)) : Prop := match o with
  | none => x = some S ∧ y = some M
  | some (c, a, b) => ¬ c ≤ 0 ∧ x = some (apC S c a b) ∧ y = some (apM M c a b)
theorem ownSel_n {S : St} {G : Gt} {nt nv v c : Nat} {l : List Nat} (h : Rw S (23 + 2 * v) l) (hc7 : G v 7 = nI c) (hc6 : c < 6) : ((∀ i, i < l.length → selB G v (gl l i) = true) ∧ d5_seekOwnConflict G nt nv v S = some S) ∨ ∃ i, i < l.length ∧ selB G v (gl l i) = false ∧ (∀ j, j < i → selB G v (gl l j) = true) ∧ d5_seekOwnConflict G nt nv v S = some (apC S (10 * G v 0 + 2) (nI (gl l i)) (-1)) := by
  have hl := Nat.le_trans h.2.1 dcap_le
  unfold d5_seekOwnConflict
  refine lq1 (Q := fun x => ((∀ i, i < l.length → selB G v (gl l i) = true) ∧ x = some S) ∨ ∃ i, i < l.length ∧ selB G v (gl l i) = false ∧ (∀ j, j < i → selB G v (gl l j) = true) ∧ x = some (apC S (10 * G v 0 + 2) (nI (gl l i)) (-1))) (fun d (a : Int32) => ∃ i, i + d = l.length ∧ a = nI i ∧ ∀ j, j < i → selB G v (gl l j) = true) ?_ _ l.length _ (FU_lt (by omega)) ⟨0, by omega, rfl, fun j hj => by omega⟩
  rintro d a g ⟨i, hi, rfl, hno⟩ ih
  rw [size_n h, cb_s]
  by_cases h0 : d = 0
  · rw [if_pos (nI_le (by omega) (by omega))]
    exact Or.inl ⟨fun j hj => hno j (by omega), rfl⟩
  · have hil : i < l.length := by omega
    rw [if_neg (nI_ge hil (by omega)), at_n h hil, cb_s, selects_n hc7 hc6 (okL_gl h.2.2.2 hil), cb_s]
    cases hs : selB G v (gl l i)
    · rw [if_neg (show ¬ false = true by simp), if_pos z00, tell_n, cb_s]
      exact Or.inr ⟨i, hil, hs, hno, rfl⟩
    · rw [if_pos rfl, if_neg z10, nI_1]
      refine ih (d - 1) _ (by omega) ⟨i + 1, by omega, rfl, fun j hj => ?_⟩
      by_cases hji : j = i
      · subst hji; exact hs
      · exact hno j (by omega)