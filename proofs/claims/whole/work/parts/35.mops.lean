/-! ===== the reference's placeOf and takes ===== -/
theorem placeOf_n {M : St} {a b N : Nat} {l : List Nat} (h : Sg (M.2 a) b l) (hN : mlen a = N) (hN2 : N ≤ 400) (hc : b + l.length ≤ N) (x : Int32) : ∃ z, m_placeOf a (nI b) (nI l.length) x M = some z ∧ ((z = -1 ∧ ∀ j, j < l.length → nI (gl l j) ≠ x) ∨ ∃ p, p < l.length ∧ z = nI p ∧ nI (gl l p) = x) := by
  have hl : l.length < 2 ^ 31 := by omega
  have hN31 : N < 2 ^ 31 := by omega
  unfold m_placeOf
  rw [hN]
  refine lq2 (Q := fun y => ∃ z, y = some z ∧ ((z = -1 ∧ ∀ j, j < l.length → nI (gl l j) ≠ x) ∨ ∃ p, p < l.length ∧ z = nI p ∧ nI (gl l p) = x)) (fun d (z y : Int32) => ∃ k, k + d = l.length ∧ y = nI k ∧ ((z = -1 ∧ ∀ j, j < k → nI (gl l j) ≠ x) ∨ ∃ p, p < l.length ∧ z = nI p ∧ nI (gl l p) = x)) ?_ _ l.length _ _ (FU_lt (by omega)) ⟨0, by omega, rfl, Or.inl ⟨rfl, fun j hj => by omega⟩⟩
  rintro d z y g ⟨k, hk, rfl, hz⟩ ih
  by_cases h0 : d = 0
  · rw [if_pos (nI_le (by omega) (by omega))]
    have : k = l.length := by omega
    subst this
    exact ⟨z, rfl, hz⟩
  · rw [if_neg (nI_ge (by omega) hl), nI_add, rd_n (by omega) hN31, h k (by omega), nI_1]
    by_cases he : nI (gl l k) = x
    · rw [if_pos he]
      exact ih (d - 1) _ _ (by omega) ⟨k + 1, by omega, rfl, Or.inr ⟨k, by omega, rfl, he⟩⟩
    · rw [if_neg he]
      refine ih (d - 1) _ _ (by omega) ⟨k + 1, by omega, rfl, hz.imp (fun q => ⟨q.1, fun j hj => ?_⟩) id⟩
      by_cases hjk : j = k
      · subst hjk; exact he
      · exact q.2 j (by omega)
theorem gl_erase {l : List Nat} {p j : Nat} : gl (l.eraseIdx p) j = if j < p then gl l j else gl l (j + 1) := by
  unfold gl
  rw [List.getD_eq_getElem?_getD, List.getElem?_eraseIdx]
  split <;> rw [List.getD_eq_getElem?_getD]
theorem takes_n {M : St} {a b N p : Nat} {l : List Nat} (h : Sg (M.2 a) b l) (hN : mlen a = N) (hN2 : N ≤ 400) (hc : b + l.length ≤ N) (hp : p < l.length) : ∃ M', m_takes a (nI b) (nI l.length) (nI p) M = some (nI (l.length - 1), M') ∧ Sg (M'.2 a) b (l.eraseIdx p) ∧ FrM a b l.length M M' := by
  have hl : l.length < 2 ^ 31 := by omega
  have hN31 : N < 2 ^ 31 := by omega
  have e1 : nI l.length - 1 = nI (l.length - 1) := by
    have := nI_pred (l.length - 1)
    rwa [show l.length - 1 + 1 = l.length by omega] at this
  unfold m_takes
  rw [hN, e1]
  refine lq2 (Q := fun x => ∃ M', x = some (nI (l.length - 1), M') ∧ Sg (M'.2 a) b (l.eraseIdx p) ∧ FrM a b l.length M M') (fun d (y : Int32) (T : St) => ∃ k, k + d = l.length - 1 ∧ y = nI k ∧ p ≤ k ∧ FrM a b l.length M T ∧ (∀ j, j < k → T.2 a (b + j) = nI (gl (l.eraseIdx p) j)) ∧ ∀ j, k ≤ j → j < l.length → T.2 a (b + j) = nI (gl l j)) ?_ _ (l.length - 1 - p) _ _ (FU_lt (by omega)) ⟨p, by omega, rfl, Nat.le_refl _, FrM.rf, fun j hj => by rw [gl_erase, if_pos hj]; exact h j (by omega), fun j _ hj => h j hj⟩
  rintro d y T g ⟨k, hk, rfl, hpk, hF, hlo, hhi⟩ ih
  by_cases h0 : d = 0
  · rw [if_pos (nI_le (by omega) (by omega))]
    refine ⟨T, rfl, fun j hj => ?_, hF⟩
    rw [List.length_eraseIdx, if_pos hp] at hj
    exact hlo j (by omega)
  · rw [if_neg (nI_ge (by omega) (by omega)), nI_add, nI_1, rd_n (by omega) hN31, rd_n (by omega) hN31, lt_d, nI_1]
    refine ih (d - 1) _ _ (by omega) ⟨k + 1, by omega, rfl, by omega, ⟨hF.1, fun q hq => (w2_ne hq).trans (hF.2.1 q hq), fun j hj => (w2_nj (by omega)).trans (hF.2.2 j hj)⟩, fun j hj => ?_, fun j h1 h2 => (w2_nj (by omega)).trans (hhi j (by omega) h2)⟩
    by_cases hjk : j = k
    · rw [hjk, w2_at, gl_erase, if_neg (by omega), Nat.add_assoc]
      exact hhi (k + 1) (by omega) (by omega)
    · rw [w2_nj (by omega)]
      exact hlo j (by omega)
theorem erase_rem {r : Nat} : ∀ {l : List Nat} {p : Nat}, l.Nodup → p < l.length → gl l p = r → l.eraseIdx p = rem r l := by
  intro l
  induction l with
  | nil => intro p _ hp; cases hp
  | cons a t ih =>
    intro p hn hp he
    obtain ⟨h1, h2⟩ := List.nodup_cons.mp hn
    by_cases h0 : p = 0
    · subst h0
      have he2 : a = r := he
      subst he2
      unfold rem
      rw [List.filter_cons_of_neg (by simp)]
      show t = _
      exact (List.filter_eq_self.mpr fun q hq => by
        have : q ≠ a := fun z => h1 (z ▸ hq)
        simpa using this).symm
    · obtain ⟨q, rfl⟩ : ∃ q, p = q + 1 := ⟨p - 1, by omega⟩
      have hp2 : q < t.length := by simpa using hp
      have he2 : gl t q = r := he
      have hne : a ≠ r := fun z => h1 (by rw [z, ← he2]; exact gl_mem hp2)
      unfold rem
      rw [List.filter_cons_of_pos (by simpa using hne), List.eraseIdx_cons_succ, ih h2 hp2 he2]
      rfl
theorem rem_nodup {r : Nat} {l : List Nat} (h : l.Nodup) : (rem r l).Nodup := h.filter _
theorem insR_nodup {r : Nat} {l : List Nat} (h : l.Nodup) : (insR r l).Nodup := by
  unfold insR
  by_cases hm : r ∈ l
  · rw [if_pos hm]; exact h
  · rw [if_neg hm]
    have e : l.take (insP r l l.length) ++ l.drop (insP r l l.length) = l := List.take_append_drop _ _
    have hperm : (l.take (insP r l l.length) ++ r :: l.drop (insP r l l.length)).Perm (r :: l) := by
      have := (List.perm_middle (a := r) (l₁ := l.take (insP r l l.length)) (l₂ := l.drop (insP r l l.length)))
      rwa [e] at this
    exact hperm.nodup_iff.mpr (List.nodup_cons.mpr ⟨hm, h⟩)
