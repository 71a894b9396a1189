/-! ===== undo ===== -/
theorem n3 {v : Nat} : (3 : Int32) * nI v = nI (3 * v) := pk_mul 3 v
theorem n36 {v : Nat} : (36 : Int32) * nI v = nI (36 * v) := pk_mul 36 v
theorem recall_n {S : St} {t j : Nat} {l : List Nat} (h : Rw S (3 + 7 * t + j) l) (hj : j < 5) (ht : t < 3) : ∃ S', d6_recall t (nI j) S = some S' ∧ Rw S' (1 + 7 * t) l ∧ Fr (1 + 7 * t) S S' := by
  unfold d6_recall
  have hl := h.2.1
  rw [dcap_t (by omega)] at hl
  obtain ⟨S1, e1, s1, f1⟩ := takeOver_n (i := 1 + 7 * t) h (by rw [dcap_t (by omega)]; exact hl) (by omega)
  rw [if_neg (nI_pos (by omega)), if_neg (show ¬ (5 : Int32) ≤ nI j from nI_ge (b := 5) hj (by decide)), rd_n hj (by decide), rd_n hj (by decide), e1, cb_s]
  exact ⟨S1, rfl, s1, f1⟩