/-! ===== one view's conflict, in both ===== -/
def dsp (x : Option St) (y : Option St) (S M : St) (o : Option (Int32 × Int32 × Int32)) : Prop := match o with
  | none => x = some S ∧ y = some M
  | some (c, a, b) => ¬ c ≤ 0 ∧ x = some (apC S c a b) ∧ y = some (apM M c a b)
theorem ownSel_n {S : St} {G : Gt} {nt nv v c : Nat} {l : List Nat} (h : Rw S (23 + 2 * v) l) (hc7 : G v 7 = nI c) (hc6 : c < 6) : ((∀ i, i < l.length → selB G v (gl l i) = true) ∧ d5_seekOwnConflict G nt nv v S = some S) ∨ ∃ i, i < l.length ∧ selB G v (gl l i) = false ∧ (∀ j, j < i → selB G v (gl l j) = true) ∧ d5_seekOwnConflict G nt nv v S = some (apC S (10 * G v 0 + 2) (nI (gl l i)) (-1)) := by
  have hl := Nat.le_trans h.2.1 dcap_le
  unfold d5_seekOwnConflict
  refine lq1 (Q := fun x => ((∀ i, i < l.length → selB G v (gl l i) = true) ∧ x = some S) ∨ ∃ i, i < l.length ∧ selB G v (gl l i) = false ∧ (∀ j, j < i → selB G v (gl l j) = true) ∧ x = some (apC S (10 * G v 0 + 2) (nI (gl l i)) (-1))) (fun d (a : Int32) => ∃ i, i + d = l.length ∧ a = nI i ∧ ∀ j, j < i → selB G v (gl l j) = true) ?_ _ l.length _ (FU_lt (by omega)) ⟨0, by omega, rfl, fun j hj => by omega⟩
  rintro d a g ⟨i, hi, rfl, hno⟩ ih
  rw [size_n h, cb_s]
  by_cases h0 : d = 0
  · rw [if_pos (nI_le (by omega) (by omega))]
    exact Or.inl ⟨fun j hj => hno j (by omega), rfl⟩
  · have hil : i < l.length := by omega
    rw [if_neg (nI_ge hil (by omega)), at_n h hil, cb_s, selects_n hc7 hc6 (okL_gl h.2.2.2 hil), cb_s]
    cases hs : selB G v (gl l i)
    · rw [if_neg (show ¬ false = true by simp), if_pos z00, tell_n, cb_s]
      exact Or.inr ⟨i, hil, hs, hno, rfl⟩
    · rw [if_pos rfl, if_neg z10, nI_1]
      refine ih (d - 1) _ (by omega) ⟨i + 1, by omega, rfl, fun j hj => ?_⟩
      by_cases hji : j = i
      · subst hji; exact hs
      · exact hno j (by omega)
/-- what comes behind the rows' loop of m_looks -/
def lkE (v : Int32) (S6 : St) : Option St := jn (fun (S11 : St) => if (S11.1 25) = 0 then (rd v 10 fun (j14 : Nat) => if (S11.2 8 j14) = 0 then (rd v 10 fun (j17 : Nat) => if (S11.2 19 j17) ≤ 12 then (some S11) else (cb (m_tells v 4 (-1) (-1) S11) fun (S21 : St) => some S21)) else (some S11)) else (some S11)) fun k12 => if (S6.1 25) = 0 then (rd v 10 fun (j23 : Nat) => if (S6.2 8 j23) = 3 then (cb (m_looksForTwo v 3 S6) fun (S27 : St) => k12 S27) else (k12 S6)) else (k12 S6)
theorem lkE_t {v : Int32} {T : St} (h : ¬ T.1 25 = 0) : lkE v T = some T := by
  unfold lkE
  rw [jn_d, if_neg h]
  dsimp only
  rw [if_neg h]
theorem rowsLk_n {M : St} {G : Gt} {v c : Nat} {l : List Nat} (h : Vm M 20 19 v l) (hv : v < 10) (h25 : M.1 25 = 0) (hP : PW M) (k8 : M.2 8 v = 1) (hc7 : G v 7 = nI c) (hc6 : c < 6) (h11 : M.2 11 v = G v 7) (h12 : M.2 12 v = G v 8) (h13 : M.2 13 v = G v 9) (e1 : m_looksForTwo (nI v) 1 M = some M) : ((∀ i, i < l.length → selB G v (gl l i) = true) ∧ m_looks (nI v) M = some M) ∨ ∃ i, i < l.length ∧ selB G v (gl l i) = false ∧ (∀ j, j < i → selB G v (gl l j) = true) ∧ m_looks (nI v) M = some (apM M (10 * nI v + 2) (nI (gl l i)) (-1)) := by
  have hl := h.2.2.2
  have hnz : ¬ (10 : Int32) * nI v + 2 = 0 := by
    rw [show (2 : Int32) = nI 2 from rfl, n10c]
    exact nI_ne0 (by omega) (by omega)
  unfold m_looks
  rw [e1, cb_s]
  refine lq2 (Q := fun x => ((∀ i, i < l.length → selB G v (gl l i) = true) ∧ x = some M) ∨ ∃ i, i < l.length ∧ selB G v (gl l i) = false ∧ (∀ j, j < i → selB G v (gl l j) = true) ∧ x = some (apM M (10 * nI v + 2) (nI (gl l i)) (-1))) (fun d (a : Int32) (T : St) => ∃ i, i + d = l.length ∧ a = nI i ∧ ((T = M ∧ ∀ j, j < i → selB G v (gl l j) = true) ∨ ∃ p, p < l.length ∧ selB G v (gl l p) = false ∧ (∀ j, j < p → selB G v (gl l j) = true) ∧ T = apM M (10 * nI v + 2) (nI (gl l p)) (-1))) ?_ _ l.length _ _ (FU_lt (by omega)) ⟨0, by omega, rfl, Or.inl ⟨rfl, fun j hj => by omega⟩⟩
  rintro d a T g ⟨i, hi, rfl, hT⟩ ih
  have e19 : T.2 19 v = nI l.length := by
    rcases hT with ⟨rfl, -⟩ | ⟨p, -, -, -, rfl⟩
    · exact h.1
    · exact h.1
  have hend : (i = l.length ∨ ¬ T.1 25 = 0) → ((∀ i, i < l.length → selB G v (gl l i) = true) ∧ lkE (nI v) T = some M) ∨ ∃ i, i < l.length ∧ selB G v (gl l i) = false ∧ (∀ j, j < i → selB G v (gl l j) = true) ∧ lkE (nI v) T = some (apM M (10 * nI v + 2) (nI (gl l i)) (-1)) := by
    intro hx
    rcases hT with ⟨rfl, hno⟩ | ⟨p, p1, p2, p3, rfl⟩
    · have hil := hx.resolve_right (fun z => z h25)
      refine Or.inl ⟨fun j hj => hno j (by omega), ?_⟩
      unfold lkE
      rw [jn_d, if_pos h25, rd_n hv (by decide), if_neg (show ¬ T.2 8 v = 3 by rw [k8]; decide)]
      dsimp only
      rw [if_pos h25, rd_n hv (by decide), if_neg (show ¬ T.2 8 v = 0 by rw [k8]; decide)]
    · exact Or.inr ⟨p, p1, p2, p3, lkE_t (by rw [apM_25]; exact hnz)⟩
  rw [rd_n hv (by decide), jn_d, e19]
  by_cases h0 : d = 0
  · rw [if_pos (nI_le (by omega) (by omega))]
    exact hend (Or.inl (by omega))
  · have hil : i < l.length := by omega
    rw [if_neg (nI_ge hil (by omega))]
    rcases hT with ⟨rfl, hno⟩ | ⟨p, p1, p2, p3, rfl⟩
    · have ei : T.2 20 (40 * v + i) = nI (gl l i) := h.2.1 i hil
      rw [if_pos h25, rd_n hv (by decide), if_pos k8, n40, nI_add, rd_n (by omega) (by decide), ei, msel_n hP hv hc7 hc6 (okL_gl h.2.2.1 hil) h11 h12 h13, cb_s]
      cases hs : selB G v (gl l i)
      · rw [if_neg (show ¬ false = true by simp), if_pos z00, rd_n (by omega) (by decide), ei, tells_n, cb_s, nI_1]
        exact ih (d - 1) _ _ (by omega) ⟨i + 1, by omega, rfl, Or.inr ⟨i, hil, hs, hno, rfl⟩⟩
      · rw [if_pos rfl, if_neg z10, nI_1]
        refine ih (d - 1) _ _ (by omega) ⟨i + 1, by omega, rfl, Or.inl ⟨rfl, fun j hj => ?_⟩⟩
        by_cases hji : j = i
        · subst hji; exact hs
        · exact hno j (by omega)
    · have hn : ¬ (apM M (10 * nI v + 2) (nI (gl l p)) (-1)).1 25 = 0 := by rw [apM_25]; exact hnz
      rw [if_neg hn]
      exact hend (Or.inr hn)
/-- not a selecting view, or told: no row is looked at -/
theorem rowsLk_o {M T : St} {v : Nat} {l : List Nat} (h : Vm T 20 19 v l) (hv : v < 10) (hx : ¬ T.1 25 = 0 ∨ ¬ T.2 8 v = 1) (e1 : m_looksForTwo (nI v) 1 M = some T) : m_looks (nI v) M = lkE (nI v) T := by
  unfold m_looks
  rw [e1, cb_s]
  refine lq2 (Q := fun x => x = lkE (nI v) T) (fun d (a : Int32) (U : St) => a = 0 ∧ U = T) ?_ _ 0 _ _ (FU_lt (by omega)) ⟨rfl, rfl⟩
  rintro d a U g ⟨rfl, rfl⟩ -
  rw [rd_n hv (by decide), jn_d]
  by_cases h0 : U.2 19 v ≤ 0
  · rw [if_pos h0]
    rfl
  · rw [if_neg h0]
    by_cases h1 : U.1 25 = 0
    · rw [if_pos h1, rd_n hv (by decide), if_neg (hx.resolve_left (fun z => z h1))]
      rfl
    · rw [if_neg h1]
      rfl
