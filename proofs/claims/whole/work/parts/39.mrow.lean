/-! ===== one row of a view that the reference lays ===== -/
theorem lay1_n {M : St} {v r : Nat} {s : Int32} {l : List Nat} (hP : PW M) (hV : Vm M 18 17 v l) (hv : v < 10) (h14 : M.2 14 v = s) (hr : r < 2 ^ 31) (hc : l.length < 40) : ∃ M', (rd (nI v) 10 fun (j10 : Nat) => rd (nI v) 10 fun (j12 : Nat) => cb (m_part (nI r) (M.2 14 j12) M) fun (z14 : Int32) => cb2 (m_lays 18 (40 * nI v) (M.2 17 j10) z14 M) fun (z15 : Int32) (S16 : St) => rd (nI v) 10 fun (j17 : Nat) => lt (w2 S16 17 j17 z15) fun (S19 : St) => some S19) = some M' ∧ Vm M' 18 17 v (insR (pt s r) l) ∧ FrV 18 17 v M M' := by
  obtain ⟨M1, e1, s1, f1⟩ := layV_n hV rfl (by decide) hv (pt_lt s r) (Or.inr hc)
  rw [rd_n hv (by decide), rd_n hv (by decide), h14, mpart_n hP hr, cb_s, hV.1, e1, cb2_s, rd_n hv (by decide), lt_d]
  exact ⟨_, rfl, s1, f1⟩
theorem laysRow_p {M : St} {v r : Nat} {s : Int32} {l : List Nat} (hP : PW M) (hV : Vm M 18 17 v l) (hv : v < 10) (hk : M.2 8 v = 0 ∨ M.2 8 v = 2) (h14 : M.2 14 v = s) (hr : r < 2 ^ 31) (hc : l.length < 40) : ∃ M', m_laysRow (nI v) (nI r) M = some M' ∧ Vm M' 18 17 v (insR (pt s r) l) ∧ FrV 18 17 v M M' := by
  unfold m_laysRow
  have h3 : ¬ M.2 8 v = 3 := by rcases hk with h | h <;> rw [h] <;> decide
  have h1 : ¬ M.2 8 v = 1 := by rcases hk with h | h <;> rw [h] <;> decide
  rw [rd_n hv (by decide), if_neg h3, rd_n hv (by decide), jn_d, if_neg h1]
  exact lay1_n hP hV hv h14 hr hc
theorem laysRow_s {M : St} {G : Gt} {v r c : Nat} {s : Int32} {l : List Nat} (hP : PW M) (hV : Vm M 18 17 v l) (hv : v < 10) (hk : M.2 8 v = 1) (h14 : M.2 14 v = s) (hc7 : G v 7 = nI c) (hc6 : c < 6) (h11 : M.2 11 v = G v 7) (h12 : M.2 12 v = G v 8) (h13 : M.2 13 v = G v 9) (hr : r < 2 ^ 31) (hc : l.length < 40) : ∃ M', m_laysRow (nI v) (nI r) M = some M' ∧ Vm M' 18 17 v (if selB G v r then insR (pt s r) l else l) ∧ FrV 18 17 v M M' := by
  unfold m_laysRow
  have h3 : ¬ M.2 8 v = 3 := by rw [hk]; decide
  rw [rd_n hv (by decide), if_neg h3, rd_n hv (by decide), jn_d, if_pos hk, msel_n hP hv hc7 hc6 hr h11 h12 h13, cb_s]
  by_cases hs : selB G v r = true
  · rw [if_pos hs, if_neg (by decide), if_pos hs]
    exact lay1_n hP hV hv h14 hr hc
  · rw [if_neg hs, if_pos rfl, if_neg hs]
    exact ⟨M, rfl, hV, FrV.rf⟩
