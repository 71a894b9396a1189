/-! ===== the reference's placeOf and takes ===== -/
theorem gl_erase {l : List Nat} {p j : Nat} : gl (l.eraseIdx p) j = if j < p then gl l j else gl l (j + 1) := by
  unfold gl
  rw [List.getD_eq_getElem?_getD, List.getElem?_eraseIdx]
  split <;> rw [List.getD_eq_getElem?_getD]
theorem erase_rem {r : Nat} : ∀ {l : List Nat} {p : Nat}, l.Nodup → p < l.length → gl l p = r → l.eraseIdx p = rem r l := by
  intro l
  induction l with
  | nil => intro p _ hp; cases hp
  | cons a t ih =>
    intro p hn hp he
    obtain ⟨h1, h2⟩ := List.nodup_cons.mp hn
    by_cases h0 : p = 0
    · subst h0
      have he2 : a = r := he
      subst he2
      unfold rem
      rw [List.filter_cons_of_neg (by simp)]
      show t = _
      exact (List.filter_eq_self.mpr fun q hq => by
        have : q ≠ a := fun z => h1 (z ▸ hq)
        simpa using this).symm
    · obtain ⟨q, rfl⟩ : ∃ q, p = q + 1 := ⟨p - 1, by omega⟩
      have hp2 : q < t.length := by simpa using hp
      have he2 : gl t q = r := he
      have hne : a ≠ r := fun z => h1 (by rw [z, ← he2]; exact gl_mem hp2)
      unfold rem
      rw [List.filter_cons_of_pos (by simpa using hne), List.eraseIdx_cons_succ, ih h2 hp2 he2]
      rfl
theorem rem_nodup {r : Nat} {l : List Nat} (h : l.Nodup) : (rem r l).Nodup := h.filter _
theorem insR_nodup {r : Nat} {l : List Nat} (h : l.Nodup) : (insR r l).Nodup := by
  unfold insR
  by_cases hm : r ∈ l
  · rw [if_pos hm]; exact h
  · rw [if_neg hm]
    have e : l.take (insP r l l.length) ++ l.drop (insP r l l.length) = l := List.take_append_drop _ _
    have hperm : (l.take (insP r l l.length) ++ r :: l.drop (insP r l l.length)).Perm (r :: l) := by
      have := (List.perm_middle (a := r) (l₁ := l.take (insP r l l.length)) (l₂ := l.drop (insP r l l.length)))
      rwa [e] at this
    exact hperm.nodup_iff.mpr (List.nodup_cons.mpr ⟨hm, h⟩)
