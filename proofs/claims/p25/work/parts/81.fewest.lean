/-! ===== fewest ===== -/
theorem onlyTable_n {S : St} {mk : Int32} {nt : Nat} (h42 : S.1 42 = nI nt) (h56 : S.1 56 = nI nt) (hnt : nt ≤ 3) : (∃ t, t < nt ∧ mk = 1 <<< (nI t &&& 31) ∧ d10_onlyTable mk S = some (some t)) ∨ ((∀ t, t < nt → mk ≠ 1 <<< (nI t &&& 31)) ∧ d10_onlyTable mk S = some none) := by
  unfold d10_onlyTable
  refine lq1 (Q := fun y => (∃ t, t < nt ∧ mk = 1 <<< (nI t &&& 31) ∧ y = some (some t)) ∨ ((∀ t, t < nt → mk ≠ 1 <<< (nI t &&& 31)) ∧ y = some none)) (fun d (a : Int32) => ∃ k, k + d = nt ∧ a = nI k ∧ ∀ t, t < k → mk ≠ 1 <<< (nI t &&& 31)) ?_ _ nt _ (FU_lt (by omega)) ⟨0, by omega, rfl, fun t ht => by omega⟩
  rintro d a g ⟨k, hk, rfl, hno⟩ ih
  rw [h42]
  by_cases h0 : d = 0
  · rw [if_pos (nI_le (by omega) (by omega))]
    exact Or.inr ⟨fun t ht => hno t (by omega), rfl⟩
  · have hkn : k < nt := by omega
    rw [if_neg (nI_ge hkn (by omega))]
    by_cases he : mk = 1 <<< (nI k &&& 31)
    · rw [if_pos he, tableAt_i h42 h56 hnt hkn, cb_s]
      exact Or.inl ⟨k, hkn, he, rfl⟩
    · rw [if_neg he, nI_1]
      refine ih (d - 1) _ (by omega) ⟨k + 1, by omega, rfl, fun t ht => ?_⟩
      by_cases htk : t = k
      · rw [htk]; exact he
      · exact hno t (by omega)
def CT (H : List Nat) : Prop := ∀ r, r ∈ H → ∀ j, j < 6 → dg r j ≤ 2
theorem great_n {r : Nat} (hr : r < 2 ^ 31) : ((∀ j, j < 6 → dg r j ≤ 2) ∧ d8_hasGreatValue (nI r) = some 0) ∨ (¬ (∀ j, j < 6 → dg r j ≤ 2) ∧ d8_hasGreatValue (nI r) = some 1) := by
  unfold d8_hasGreatValue
  refine lq1 (Q := fun y => ((∀ j, j < 6 → dg r j ≤ 2) ∧ y = some 0) ∨ (¬ (∀ j, j < 6 → dg r j ≤ 2) ∧ y = some 1)) (fun d (a : Int32) => ∃ k, k + d = 6 ∧ a = nI k ∧ ∀ j, j < k → dg r j ≤ 2) ?_ _ 6 _ (FU_lt (by omega)) ⟨0, by omega, rfl, fun t ht => by omega⟩
  rintro d a g ⟨k, hk, rfl, hno⟩ ih
  by_cases h0 : d = 0
  · have hk6 : k = 6 := by omega
    subst hk6
    rw [if_pos (show (6 : Int32) ≤ nI 6 by decide)]
    exact Or.inl ⟨hno, rfl⟩
  · have hk6 : k < 6 := by omega
    rw [if_neg (show ¬ (6 : Int32) ≤ nI k from nI_ge (b := 6) hk6 (by decide)), digit_n hr hk6, cb_s]
    by_cases h2 : dg r k ≤ 2
    · rw [if_pos (show nI (dg r k) ≤ 2 from nI_le (b := 2) h2 (by decide)), nI_1]
      refine ih (d - 1) _ (by omega) ⟨k + 1, by omega, rfl, fun j hj => ?_⟩
      by_cases hjk : j = k
      · rw [hjk]; exact h2
      · exact hno j (by omega)
    · rw [if_neg (show ¬ nI (dg r k) ≤ 2 from nI_ge (a := 2) (by omega) (by have := dg_lt r k; omega))]
      exact Or.inr ⟨fun z => h2 (z k hk6), rfl⟩