/-! ===== laying a row: the class's put, the reference's lays ===== -/
theorem w2_at {S : St} {k j : Nat} {x : Int32} : (w2 S k j x).2 k j = x := by rw [w2_eq]; exact if_pos rfl
theorem w2_nj {S : St} {k j q : Nat} {x : Int32} (h : q ≠ j) : (w2 S k j x).2 k q = S.2 k q := by rw [w2_eq]; exact if_neg h
theorem put_n {S : St} {i r : Nat} {l : List Nat} (h : Rw S i l) (hr : r < 1000000) (hc : r ∈ l ∨ l.length < dcap i) : ∃ S', d4_put i (nI r) S = some S' ∧ Rw S' i (insR r l) ∧ Fr i S S' := by
  have hl := Rw_len h
  have hd := dcap_le (i := i)
  have hcl := h.2.1
  have hr31 : r < 2 ^ 31 := Nat.lt_of_lt_of_le hr (by decide)
  by_cases hm : r ∈ l
  · refine ⟨S, ?_, by unfold insR; rw [if_pos hm]; exact h, Fr.rf⟩
    unfold d4_put
    by_cases hf : nI (dcap i) ≤ S.1 i
    · rw [if_pos hf]
    · rw [if_neg hf, has_n h, cb_s, any_mem h.2.2.2 hr, decide_eq_true hm, if_pos rfl, if_neg (by decide)]
  · have hc := hc.resolve_left hm
    unfold d4_put
    rw [h.1, if_neg (nI_ge hc dcap_31), has_n h, cb_s, any_mem h.2.2.2 hr, decide_eq_false hm, if_pos (show (if false = true then (1 : Int32) else 0) = 0 from by decide)]
    refine lq2 (Q := fun x => ∃ S', x = some S' ∧ Rw S' i (insR r l) ∧ Fr i S S') (fun d a T => a = nI d ∧ d ≤ l.length ∧ T.1 = S.1 ∧ (∀ k, k ≠ i → T.2 k = S.2 k) ∧ (∀ j, j < d → T.2 i j = nI (gl l j)) ∧ (∀ j, d ≤ j → j < l.length → T.2 i (j + 1) = nI (gl l j)) ∧ insP r l d = insP r l l.length) ?_ _ l.length _ _ (FU_lt (by omega)) ⟨rfl, Nat.le_refl _, rfl, fun _ _ => rfl, fun j hj => Rw_at h hj, fun j h1 h2 => by omega, rfl⟩
    rintro d a T g ⟨rfl, hdl, hT1, hT2, hlo, hhi, hP⟩ ih
    have hexit : insP r l d = d → ∃ S', (rd (nI d) (dcap i) fun j19 => lt (w2 T i j19 (nI r)) fun S21 => lt (w1 S21 i (S21.1 i + 1)) fun S22 => some S22) = some S' ∧ Rw S' i (insR r l) ∧ Fr i S S' := by
      intro hpd
      rw [rd_n (by omega) dcap_31, lt_d, lt_d]
      have hi : insR r l = l.take d ++ r :: l.drop d := by
        unfold insR
        rw [if_neg hm, ← hP, hpd]
      refine ⟨_, rfl, ⟨?_, ?_, ?_, insR_ok h.2.2.2 hr⟩, ?_, ?_⟩
      · rw [w1_eq, w2_1, hT1, h.1, nI_1, insR_len hm]
      · rw [insR_len hm]; omega
      · intro j hj
        rw [insR_len hm] at hj
        rw [hi, gl_ins hdl, Nat.zero_add, w1_2]
        by_cases h1 : j < d
        · rw [if_pos h1, w2_nj (by omega), hlo j h1]
        · rw [if_neg h1]
          by_cases h2 : j = d
          · rw [if_pos h2, h2, w2_at]
          · rw [if_neg h2, w2_nj h2]
            have h3 := hhi (j - 1) (by omega) (by omega)
            rwa [show j - 1 + 1 = j by omega] at h3
      · intro k hk
        rw [w1_ne hk, w2_1, hT1]
      · intro k hk
        rw [w1_2, w2_ne hk, hT2 k hk]
    rw [jn_d]
    by_cases h0 : d = 0
    · subst h0
      rw [if_pos (show nI 0 ≤ 0 from by decide)]
      exact hexit rfl
    · obtain ⟨p, rfl⟩ : ∃ p, d = p + 1 := ⟨d - 1, by omega⟩
      rw [if_neg (nI_nle (by omega) (by omega)), nI_pred, rd_n (by omega) dcap_31, hlo p (by omega)]
      by_cases hle : gl l p ≤ r
      · rw [if_pos (nI_le hle hr31)]
        exact hexit (by unfold insP; rw [if_pos hle])
      · rw [if_neg (nI_ge (by omega) (okL_gl h.2.2.2 (by omega))), rd_n (by omega) dcap_31, rd_n (by omega) dcap_31, lt_d, pk_m1]
        have hw : ∀ j, j ≠ p + 1 → (w2 T i (p + 1) (T.2 i p)).2 i j = T.2 i j := fun j hj => w2_nj hj
        refine ih p _ _ (by omega) ⟨rfl, by omega, hT1, fun k hk => (w2_ne hk).trans (hT2 k hk), fun j hj => (hw j (by omega)).trans (hlo j (by omega)), fun j h1 h2 => ?_, ?_⟩
        · by_cases hjp : j = p
          · rw [hjp, w2_at]
            exact hlo p (by omega)
          · exact (hw _ (by omega)).trans (hhi j (by omega) h2)
        · rw [← hP]
          conv => rhs; unfold insP
          rw [if_neg hle]