/-! ===== the reference's views: rows of view v lie at 40 v; a: the rows' array, c: the counts' ===== -/
def Vm (M : St) (a c v : Nat) (l : List Nat) : Prop := M.2 c v = nI l.length ∧ Sg (M.2 a) (40 * v) l ∧ okL l ∧ l.length ≤ 40
def FrV (a c v : Nat) (M M' : St) : Prop := M'.1 = M.1 ∧ (∀ k, k ≠ a → k ≠ c → M'.2 k = M.2 k) ∧ (∀ j, j ≠ v → M'.2 c j = M.2 c j) ∧ ∀ j, (j < 40 * v ∨ 40 * v + 40 ≤ j) → M'.2 a j = M.2 a j
theorem FrV.rf {a c v : Nat} {M : St} : FrV a c v M M := ⟨rfl, fun _ _ _ => rfl, fun _ _ => rfl, fun _ _ => rfl⟩
theorem FrV.tr {a c v : Nat} {M M1 M2 : St} (h1 : FrV a c v M M1) (h2 : FrV a c v M1 M2) : FrV a c v M M2 := ⟨h2.1.trans h1.1, fun k ha hc => (h2.2.1 k ha hc).trans (h1.2.1 k ha hc), fun j hj => (h2.2.2.1 j hj).trans (h1.2.2.1 j hj), fun j hj => (h2.2.2.2 j hj).trans (h1.2.2.2 j hj)⟩
/-- another view's rows -/
theorem Vm_fr {M M' : St} {a c v u : Nat} {l : List Nat} (h : Vm M a c u l) (hF : FrV a c v M M') (hne : u ≠ v) : Vm M' a c u l := by
  refine ⟨(hF.2.2.1 u hne).trans h.1, fun j hj => ?_, h.2.2⟩
  have h4 := h.2.2.2
  rw [hF.2.2.2 _ (by omega)]
  exact h.2.1 j hj
theorem n40 {v : Nat} : (40 : Int32) * nI v = nI (40 * v) := pk_mul 40 v
theorem layV_n {M : St} {a c v r : Nat} {l : List Nat} (h : Vm M a c v l) (ha : mlen a = 400) (hne : a ≠ c) (hv : v < 10) (hr : r < 1000000) (hc : r ∈ l ∨ l.length < 40) : ∃ M1, m_lays a (40 * nI v) (nI l.length) (nI r) M = some (nI (insR r l).length, M1) ∧ Vm (w2 M1 c v (nI (insR r l).length)) a c v (insR r l) ∧ FrV a c v M (w2 M1 c v (nI (insR r l).length)) := by
  have h4 := h.2.2.2
  obtain ⟨M1, e1, s1, f1⟩ := lays_n h.2.1 h.2.2.1 ha (Nat.le_refl _) hr (by omega) (hc.imp id (by omega))
  have hlen : (insR r l).length ≤ 40 := by
    by_cases hm : r ∈ l
    · unfold insR; rw [if_pos hm]; exact h4
    · rw [insR_len hm]
      have := hc.resolve_left hm
      omega
  have ea : (w2 M1 c v (nI (insR r l).length)).2 a = M1.2 a := w2_ne hne
  refine ⟨M1, by rw [n40]; exact e1, ⟨w2_at, by rw [ea]; exact s1, insR_ok h.2.2.1 hr, hlen⟩, f1.1, fun k hk hk2 => (w2_ne hk2).trans (f1.2.1 k hk), fun j hj => (w2_nj hj).trans (by rw [f1.2.1 c (Ne.symm hne)]), fun j hj => by rw [ea]; exact f1.2.2 j (by omega)⟩
theorem msel_n {M : St} {G : Gt} {v r c : Nat} (hP : PW M) (hv : v < 10) (hc : G v 7 = nI c) (hc6 : c < 6) (hr : r < 2 ^ 31) (h11 : M.2 11 v = G v 7) (h12 : M.2 12 v = G v 8) (h13 : M.2 13 v = G v 9) : m_isSelected (nI v) (nI r) M = some (if selB G v r then 1 else 0) := by
  unfold m_isSelected selB
  rw [rd_n hv (by decide), h11, hc, mdigit_n hP hr hc6, cb_s, rd_n hv (by decide), jn_d, h12, nI_clamp (by omega)]
  by_cases h1 : nI (dg r c) = G v 8
  · rw [if_pos h1, if_pos h1]
    dsimp only
    rw [rd_n hv (by decide), h13]
    by_cases h2 : (1 : Int32) = G v 9
    · rw [if_pos h2, decide_eq_true h2, if_pos rfl]
    · rw [if_neg h2, decide_eq_false h2, if_neg (by decide)]
  · rw [if_neg h1, if_neg h1]
    dsimp only
    rw [rd_n hv (by decide), h13]
    by_cases h2 : (0 : Int32) = G v 9
    · rw [if_pos h2, decide_eq_true h2, if_pos rfl]
    · rw [if_neg h2, decide_eq_false h2, if_neg (by decide)]
