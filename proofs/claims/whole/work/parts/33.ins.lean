/-! ===== laying a row: the class's put, the reference's lays ===== -/
theorem w2_at {S : St} {k j : Nat} {x : Int32} : (w2 S k j x).2 k j = x := by rw [w2_eq]; exact if_pos rfl
theorem w2_nj {S : St} {k j q : Nat} {x : Int32} (h : q ≠ j) : (w2 S k j x).2 k q = S.2 k q := by rw [w2_eq]; exact if_neg h
theorem put_n {S : St} {i r : Nat} {l : List Nat} (h : Rw S i l) (hr : r < 1000000) (hc : r ∈ l ∨ l.length < dcap i) : ∃ S', d4_put i (nI r) S = some S' ∧ Rw S' i (insR r l) ∧ Fr i S S' := by
  have hl := Rw_len h
  have hd := dcap_le (i := i)
  have hcl := h.2.1
  have hr31 : r < 2 ^ 31 := Nat.lt_of_lt_of_le hr (by decide)
  by_cases hm : r ∈ l
  · refine ⟨S, ?_, by unfold insR; rw [if_pos hm]; exact h, Fr.rf⟩
    unfold d4_put
    by_cases hf : nI (dcap i) ≤ S.1 i
    · rw [if_pos hf]
    · rw [if_neg hf, has_n h, cb_s, any_mem h.2.2.2 hr, decide_eq_true hm, if_pos rfl, if_neg (by decide)]
  · have hc := hc.resolve_left hm
    unfold d4_put
    rw [h.1, if_neg (nI_ge hc dcap_31), has_n h, cb_s, any_mem h.2.2.2 hr, decide_eq_false hm, if_pos (show (if false = true then (1 : Int32) else 0) = 0 from by decide)]
    refine lq2 (Q := fun x => ∃ S', x = some S' ∧ Rw S' i (insR r l) ∧ Fr i S S') (fun d a T => a = nI d ∧ d ≤ l.length ∧ T.1 = S.1 ∧ (∀ k, k ≠ i → T.2 k = S.2 k) ∧ (∀ j, j < d → T.2 i j = nI (gl l j)) ∧ (∀ j, d ≤ j → j < l.length → T.2 i (j + 1) = nI (gl l j)) ∧ insP r l d = insP r l l.length) ?_ _ l.length _ _ (FU_lt (by omega)) ⟨rfl, Nat.le_refl _, rfl, fun _ _ => rfl, fun j hj => Rw_at h hj, fun j h1 h2 => by omega, rfl⟩
    rintro d a T g ⟨rfl, hdl, hT1, hT2, hlo, hhi, hP⟩ ih
    have hexit : insP r l d = d → ∃ S', (rd (nI d) (dcap i) fun j19 => lt (w2 T i j19 (nI r)) fun S21 => lt (w1 S21 i (S21.1 i + 1)) fun S22 => some S22) = some S' ∧ Rw S' i (insR r l) ∧ Fr i S S' := by
      intro hpd
      rw [rd_n (by omega) dcap_31, lt_d, lt_d]
      have hi : insR r l = l.take d ++ r :: l.drop d := by
        unfold insR
        rw [if_neg hm, ← hP, hpd]
      refine ⟨_, rfl, ⟨?_, ?_, ?_, insR_ok h.2.2.2 hr⟩, ?_, ?_⟩
      · rw [w1_eq, w2_1, hT1, h.1, nI_1, insR_len hm]
      · rw [insR_len hm]; omega
      · intro j hj
        rw [insR_len hm] at hj
        rw [hi, gl_ins hdl, Nat.zero_add, w1_2]
        by_cases h1 : j < d
        · rw [if_pos h1, w2_nj (by omega), hlo j h1]
        · rw [if_neg h1]
          by_cases h2 : j = d
          · rw [if_pos h2, h2, w2_at]
          · rw [if_neg h2, w2_nj h2]
            have h3 := hhi (j - 1) (by omega) (by omega)
            rwa [show j - 1 + 1 = j by omega] at h3
      · intro k hk
        rw [w1_ne hk, w2_1, hT1]
      · intro k hk
        rw [w1_2, w2_ne hk, hT2 k hk]
    rw [jn_d]
    by_cases h0 : d = 0
    · subst h0
      rw [if_pos (show nI 0 ≤ 0 from by decide)]
      exact hexit rfl
    · obtain ⟨p, rfl⟩ : ∃ p, d = p + 1 := ⟨d - 1, by omega⟩
      rw [if_neg (nI_nle (by omega) (by omega)), nI_pred, rd_n (by omega) dcap_31, hlo p (by omega)]
      by_cases hle : gl l p ≤ r
      · rw [if_pos (nI_le hle hr31)]
        exact hexit (by unfold insP; rw [if_pos hle])
      · rw [if_neg (nI_ge (by omega) (okL_gl h.2.2.2 (by omega))), rd_n (by omega) dcap_31, rd_n (by omega) dcap_31, lt_d, pk_m1]
        have hw : ∀ j, j ≠ p + 1 → (w2 T i (p + 1) (T.2 i p)).2 i j = T.2 i j := fun j hj => w2_nj hj
        refine ih p _ _ (by omega) ⟨rfl, by omega, hT1, fun k hk => (w2_ne hk).trans (hT2 k hk), fun j hj => (hw j (by omega)).trans (hlo j (by omega)), fun j h1 h2 => ?_, ?_⟩
        · by_cases hjp : j = p
          · rw [hjp, w2_at]
            exact hlo p (by omega)
          · exact (hw _ (by omega)).trans (hhi j (by omega) h2)
        · rw [← hP]
          conv => rhs; unfold insP
          rw [if_neg hle]
/-- but for the cells from b on, n of them, of the array a nothing differs -/
def FrM (a b n : Nat) (M M' : St) : Prop := M'.1 = M.1 ∧ (∀ k, k ≠ a → M'.2 k = M.2 k) ∧ ∀ j, (j < b ∨ b + n ≤ j) → M'.2 a j = M.2 a j
theorem FrM.rf {a b n : Nat} {M : St} : FrM a b n M M := ⟨rfl, fun _ _ => rfl, fun _ _ => rfl⟩
theorem lays_n {M : St} {a b r N : Nat} {l : List Nat} (h : Sg (M.2 a) b l) (hok : okL l) (hN : mlen a = N) (hN2 : N ≤ 400) (hr : r < 1000000) (hc : b + l.length ≤ N) (hc2 : r ∈ l ∨ b + l.length < N) : ∃ M', m_lays a (nI b) (nI l.length) (nI r) M = some (nI (insR r l).length, M') ∧ Sg (M'.2 a) b (insR r l) ∧ FrM a b (insR r l).length M M' := by
  have hl : l.length < 2 ^ 31 := by omega
  have hr31 : r < 2 ^ 31 := Nat.lt_of_lt_of_le hr (by decide)
  have hN31 : N < 2 ^ 31 := by omega
  unfold m_lays
  rw [hN]
  refine lq1 (Q := fun x => ∃ M', x = some (nI (insR r l).length, M') ∧ Sg (M'.2 a) b (insR r l) ∧ FrM a b (insR r l).length M M') (fun d q => ∃ k, k + d = l.length ∧ q = nI k ∧ ∀ j, j < k → gl l j ≠ r) ?_ _ l.length _ (FU_lt (by omega)) ⟨0, by omega, rfl, fun j hj => by omega⟩
  rintro d q g ⟨k, hk, rfl, hj⟩ ih
  by_cases hd0 : d = 0
  · have hm : r ∉ l := fun z => by
      obtain ⟨j, hjl, he⟩ := mem_gl z
      exact hj j (by omega) he
    have hc := hc2.resolve_left hm
    rw [if_pos (nI_le (by omega) (by omega))]
    refine lq2 (Q := fun x => ∃ M', x = some (nI (insR r l).length, M') ∧ Sg (M'.2 a) b (insR r l) ∧ FrM a b (insR r l).length M M') (fun d (q : Int32) (T : St) => q = nI d ∧ d ≤ l.length ∧ T.1 = M.1 ∧ (∀ k, k ≠ a → T.2 k = M.2 k) ∧ (∀ j, j < d → T.2 a (b + j) = nI (gl l j)) ∧ (∀ j, d ≤ j → j < l.length → T.2 a (b + (j + 1)) = nI (gl l j)) ∧ (∀ j, (j < b ∨ b + (l.length + 1) ≤ j) → T.2 a j = M.2 a j) ∧ insP r l d = insP r l l.length) ?_ _ l.length _ _ (FU_lt (by omega)) ⟨rfl, Nat.le_refl _, rfl, fun _ _ => rfl, fun j hj => h j hj, fun j h1 h2 => by omega, fun _ _ => rfl, rfl⟩
    rintro d q T g2 ⟨rfl, hdl, hT1, hT2, hlo, hhi, hout, hP⟩ ih2
    have hexit : insP r l d = d → ∃ M', (rd (nI b + nI d) N fun j13 => lt (w2 T a j13 (nI r)) fun S15 => some ((nI l.length + 1), S15)) = some (nI (insR r l).length, M') ∧ Sg (M'.2 a) b (insR r l) ∧ FrM a b (insR r l).length M M' := by
      intro hpd
      rw [nI_add, rd_n (by omega) hN31, lt_d, nI_1, insR_len hm]
      have hi : insR r l = l.take d ++ r :: l.drop d := by
        unfold insR
        rw [if_neg hm, ← hP, hpd]
      refine ⟨_, rfl, ?_, hT1, fun k hk => (w2_ne hk).trans (hT2 k hk), fun j hj => ?_⟩
      · intro j hj
        rw [insR_len hm] at hj
        rw [hi, gl_ins hdl]
        by_cases h1 : j < d
        · rw [if_pos h1, w2_nj (by omega), hlo j h1]
        · rw [if_neg h1]
          by_cases h2 : j = d
          · rw [if_pos h2, h2, w2_at]
          · rw [if_neg h2, w2_nj (by omega)]
            have h3 := hhi (j - 1) (by omega) (by omega)
            rwa [show j - 1 + 1 = j by omega] at h3
      · rw [w2_nj (by omega)]
        exact hout j hj
    rw [jn_d]
    by_cases h0 : d = 0
    · subst h0
      rw [if_pos (show nI 0 ≤ 0 from by decide)]
      exact hexit rfl
    · obtain ⟨p, rfl⟩ : ∃ p, d = p + 1 := ⟨d - 1, by omega⟩
      rw [if_neg (nI_nle (by omega) (by omega)), nI_add, ← Nat.add_assoc, nI_pred, rd_n (by omega) hN31, hlo p (by omega)]
      by_cases hle : gl l p ≤ r
      · rw [if_pos (nI_le hle hr31)]
        have := hexit (by unfold insP; rw [if_pos hle])
        rwa [nI_add, ← Nat.add_assoc] at this
      · rw [if_neg (nI_ge (by omega) (okL_gl hok (by omega))), rd_n (by omega) hN31, rd_n (by omega) hN31, lt_d, pk_m1]
        have hw : ∀ j, j ≠ b + p + 1 → (w2 T a (b + p + 1) (T.2 a (b + p))).2 a j = T.2 a j := fun j hj => w2_nj hj
        refine ih2 p _ _ (by omega) ⟨rfl, by omega, hT1, fun k hk => (w2_ne hk).trans (hT2 k hk), fun j hj => (hw _ (by omega)).trans (hlo j (by omega)), fun j h1 h2 => ?_, fun j hj => (hw j (by omega)).trans (hout j hj), ?_⟩
        · by_cases hjp : j = p
          · rw [hjp, show b + (p + 1) = b + p + 1 by omega, w2_at]
            exact hlo p (by omega)
          · exact (hw _ (by omega)).trans (hhi j (by omega) h2)
        · rw [← hP]
          conv => rhs; unfold insP
          rw [if_neg hle]
  · rw [if_neg (nI_ge (by omega) hl), nI_add, rd_n (by omega) hN31, h k (by omega)]
    by_cases he : gl l k = r
    · have hm : r ∈ l := he ▸ gl_mem (by omega)
      have hi : insR r l = l := by unfold insR; rw [if_pos hm]
      rw [if_pos (by rw [he]), hi]
      exact ⟨M, rfl, h, FrM.rf⟩
    · rw [if_neg (fun z => he ((nI_eq (okL_gl hok (by omega)) hr31).mp z)), nI_1]
      refine ih (d - 1) _ (by omega) ⟨k + 1, by omega, rfl, fun j hj2 => ?_⟩
      by_cases hjk : j = k
      · subst hjk; exact he
      · exact hj j (by omega)
