/-! ===== taking out, finding, copying ===== -/
theorem gl_cons0 {a : Nat} {l : List Nat} : gl (a :: l) 0 = a := rfl
theorem gl_consS {a j : Nat} {l : List Nat} : gl (a :: l) (j + 1) = gl l j := rfl
theorem gl_append_l {l t : List Nat} {j : Nat} (h : j < l.length) : gl (l ++ t) j = gl l j := by
  unfold gl
  rw [List.getD_eq_getElem?_getD, List.getD_eq_getElem?_getD, List.getElem?_append_left h]
theorem gl_append_at {l : List Nat} {a : Nat} : gl (l ++ [a]) l.length = a := by
  unfold gl
  rw [List.getD_eq_getElem?_getD, List.getElem?_append_right (Nat.le_refl _), Nat.sub_self]
  rfl
theorem take_gl {l : List Nat} {k : Nat} (h : k < l.length) : l.take (k + 1) = l.take k ++ [gl l k] := by
  unfold gl
  rw [List.take_succ, List.getD_eq_getElem?_getD, List.getElem?_eq_getElem h]
  rfl
theorem drop_gl {l : List Nat} {k : Nat} (h : k < l.length) : l.drop k = gl l k :: l.drop (k + 1) := by
  unfold gl
  rw [List.getD_eq_getElem?_getD, List.getElem?_eq_getElem h]
  exact List.drop_eq_getElem_cons h
def rem (r : Nat) (l : List Nat) : List Nat := l.filter (fun q => decide (q ≠ r))
theorem rem_mem {r q : Nat} {l : List Nat} : q ∈ rem r l ↔ q ∈ l ∧ q ≠ r := by
  unfold rem
  rw [List.mem_filter, decide_eq_true_iff]
theorem remove_n {S : St} {i r : Nat} {l : List Nat} (h : Rw S i l) (hr : r < 1000000) : ∃ S', d4_remove i (nI r) S = some S' ∧ Rw S' i (rem r l) ∧ Fr i S S' := by
  have hl := Rw_len h
  have hd := dcap_le (i := i)
  have hcl := h.2.1
  have hr31 : r < 2 ^ 31 := Nat.lt_of_lt_of_le hr (by decide)
  unfold d4_remove
  refine lq3 (Q := fun x => ∃ S', x = some S' ∧ Rw S' i (rem r l) ∧ Fr i S S') (fun d (a b : Int32) (T : St) => ∃ k c, k + d = l.length ∧ b = nI k ∧ a = nI c ∧ c = (rem r (l.take k)).length ∧ c ≤ k ∧ T.1 = S.1 ∧ (∀ q, q ≠ i → T.2 q = S.2 q) ∧ (∀ j, j < c → T.2 i j = nI (gl (rem r (l.take k)) j)) ∧ ∀ j, k ≤ j → j < l.length → T.2 i j = nI (gl l j)) ?_ _ l.length _ _ _ (FU_lt (by omega)) ⟨0, 0, by omega, rfl, rfl, rfl, Nat.le_refl _, rfl, fun _ _ => rfl, fun j hj => by omega, fun j _ hj => Rw_at h hj⟩
  rintro d a b T g ⟨k, c, hk, rfl, rfl, hc, hck, hT1, hT2, hlo, hhi⟩ ih
  have hsz : T.1 i = nI l.length := by rw [hT1, h.1]
  by_cases h0 : d = 0
  · have hkl : k = l.length := by omega
    rw [hsz, if_pos (nI_le (by omega) (by omega)), lt_d]
    rw [hkl, List.take_length] at hc hlo
    refine ⟨_, rfl, ⟨?_, by omega, ?_, fun q hq => h.2.2.2 q (rem_mem.mp hq).1⟩, fun q hq => ?_, hT2⟩
    · rw [w1_eq, hc]
    · intro j hj
      rw [Nat.zero_add, w1_2]
      exact hlo j (by omega)
    · rw [w1_ne hq, hT1]
  · have hkl : k < l.length := by omega
    have htk : rem r (l.take (k + 1)) = rem r (l.take k) ++ (if gl l k = r then [] else [gl l k]) := by
      unfold rem
      rw [take_gl hkl, List.filter_append]
      congr 1
      by_cases he : gl l k = r
      · rw [if_pos he, List.filter_cons_of_neg (by simp [he])]
        rfl
      · rw [if_neg he, List.filter_cons_of_pos (by simp [he])]
        rfl
    rw [hsz, if_neg (nI_ge hkl hl), if_neg (nI_ge (by omega) dcap_31), rd_n (by omega) dcap_31, hhi k (Nat.le_refl _) hkl]
    by_cases he : gl l k = r
    · rw [if_pos (by rw [he]), nI_1]
      rw [if_pos he, List.append_nil] at htk
      refine ih (d - 1) _ _ _ (by omega) ⟨k + 1, c, by omega, rfl, rfl, by rw [htk]; exact hc, by omega, hT1, hT2, by rw [htk]; exact hlo, fun j h1 h2 => hhi j (by omega) h2⟩
    · rw [if_neg (fun z => he ((nI_eq (okL_gl h.2.2.2 hkl) hr31).mp z)), rd_n (by omega) dcap_31, rd_n (by omega) dcap_31, lt_d, nI_1, nI_1]
      rw [if_neg he] at htk
      refine ih (d - 1) _ _ _ (by omega) ⟨k + 1, c + 1, by omega, rfl, rfl, by rw [htk, List.length_append, ← hc]; rfl, by omega, hT1, fun q hq => (w2_ne hq).trans (hT2 q hq), fun j hj => ?_, fun j h1 h2 => (w2_nj (by omega)).trans (hhi j (by omega) h2)⟩
      rw [htk]
      by_cases hjc : j = c
      · rw [hjc, w2_at, hhi k (Nat.le_refl _) hkl]
        conv => rhs; rw [hc]
        rw [gl_append_at]
      · rw [w2_nj hjc, hlo j (by omega), gl_append_l (by omega)]
def fnd (s : Int32) (p : Nat) (l : List Nat) : Option Nat := l.find? (fun q => decide (pt s q = p))
def oN : Option Nat → Int32
  | none => -1
  | some q => nI q
theorem fnd_no {s : Int32} {p : Nat} {l : List Nat} (h : ∀ j, j < l.length → pt s (gl l j) ≠ p) : fnd s p l = none := by
  refine List.find?_eq_none.mpr fun q hq => ?_
  obtain ⟨j, hj, rfl⟩ := mem_gl hq
  simpa using h j hj
theorem fnd_cons {s : Int32} {p a : Nat} {l : List Nat} : fnd s p (a :: l) = if pt s a = p then some a else fnd s p l := by
  unfold fnd
  by_cases h : pt s a = p
  · rw [if_pos h, List.find?_cons_of_pos (by simpa using h)]
  · rw [if_neg h, List.find?_cons_of_neg (by simpa using h)]
theorem fnd_at {s : Int32} {p : Nat} : ∀ {l : List Nat} {k : Nat}, k < l.length → (∀ j, j < k → pt s (gl l j) ≠ p) → pt s (gl l k) = p → fnd s p l = some (gl l k) := by
  intro l
  induction l with
  | nil => intro k hk; cases hk
  | cons a t ih =>
    intro k hk h1 h2
    rw [fnd_cons]
    by_cases hk0 : k = 0
    · subst hk0
      rw [if_pos (show pt s a = p from h2)]
      rfl
    · obtain ⟨q, rfl⟩ : ∃ q, k = q + 1 := ⟨k - 1, by omega⟩
      rw [if_neg (show ¬ pt s a = p from h1 0 (by omega))]
      exact ih (by simpa using hk) (fun j hj => h1 (j + 1) (by omega)) h2
theorem fnd_mem {s : Int32} {p q : Nat} {l : List Nat} (h : fnd s p l = some q) : q ∈ l ∧ pt s q = p := ⟨List.mem_of_find?_eq_some h, by simpa using List.find?_some h⟩
theorem fnd_none {s : Int32} {p : Nat} {l : List Nat} (h : fnd s p l = none) {q : Nat} (hq : q ∈ l) : pt s q ≠ p := by
  simpa using List.find?_eq_none.mp h q hq
theorem firstLike_n {S : St} {i r : Nat} {l : List Nat} {s : Int32} (h : Rw S i l) (hr : r < 2 ^ 31) : d4_firstLike i (nI r) s S = some (oN (fnd s (pt s r) l)) := by
  have hl := Rw_len h
  have hd := dcap_le (i := i)
  have hcl := h.2.1
  unfold d4_firstLike
  refine lq1 (Q := fun x => x = some (oN (fnd s (pt s r) l))) (fun d (a : Int32) => ∃ k, k + d = l.length ∧ a = nI k ∧ ∀ j, j < k → pt s (gl l j) ≠ pt s r) ?_ _ l.length _ (FU_lt (by omega)) ⟨0, by omega, rfl, fun j hj => by omega⟩
  rintro d a g ⟨k, hk, rfl, hj⟩ ih
  by_cases h0 : d = 0
  · rw [h.1, if_pos (nI_le (by omega) (by omega)), fnd_no (fun j hj2 => hj j (by omega))]
    rfl
  · have hkl : k < l.length := by omega
    rw [h.1, if_neg (nI_ge hkl hl), at_n h hkl, cb_s, alike_n (okL_gl h.2.2.2 hkl) hr, cb_s]
    by_cases he : pt s (gl l k) = pt s r
    · rw [if_pos he, if_neg (by decide), cb_s, fnd_at hkl hj he]
      rfl
    · rw [if_neg he, if_pos rfl, nI_1]
      refine ih (d - 1) _ (by omega) ⟨k + 1, by omega, rfl, fun j hj2 => ?_⟩
      by_cases hjk : j = k
      · subst hjk; exact he
      · exact hj j (by omega)
theorem takeOver_n {S : St} {i i1 : Nat} {l : List Nat} (h : Rw S i1 l) (hc : l.length ≤ dcap i) (hne : i ≠ i1) : ∃ S', d4_takeOver i i1 S = some S' ∧ Rw S' i l ∧ Fr i S S' := by
  have hl := Rw_len h
  have hd := dcap_le (i := i)
  unfold d4_takeOver
  rw [lt_d, lt_d, h.1, if_neg (nI_nlt hc dcap_31)]
  refine lq2 (Q := fun x => ∃ S', x = some S' ∧ Rw S' i l ∧ Fr i S S') (fun d (a : Int32) (T : St) => ∃ k, k + d = l.length ∧ a = nI k ∧ T.1 i = nI l.length ∧ Fr i S T ∧ ∀ j, j < k → T.2 i j = nI (gl l j)) ?_ _ l.length _ _ (FU_lt (by omega)) ⟨0, by omega, rfl, w1_eq, ⟨fun q hq => w1_ne hq, fun q hq => rfl⟩, fun j hj => by omega⟩
  rintro d a T g ⟨k, hk, rfl, hT1, hF, hlo⟩ ih
  by_cases h0 : d = 0
  · rw [hT1, if_pos (nI_le (by omega) (by omega))]
    refine ⟨T, rfl, ⟨hT1, hc, fun j hj => ?_, h.2.2.2⟩, hF⟩
    rw [Nat.zero_add]
    exact hlo j (by omega)
  · have hkl : k < l.length := by omega
    have hT : Rw T i1 l := ⟨(hF.1 i1 (Ne.symm hne)).trans h.1, h.2.1, fun j hj => by rw [hF.2 i1 (Ne.symm hne)]; exact h.2.2.1 j hj, h.2.2.2⟩
    rw [hT1, if_neg (nI_ge hkl hl), at_n hT hkl, cb_s, rd_n (by omega) dcap_31, lt_d, nI_1]
    refine ih (d - 1) _ _ (by omega) ⟨k + 1, by omega, rfl, hT1, hF.tr ⟨fun q _ => rfl, fun q hq => w2_ne hq⟩, fun j hj => ?_⟩
    by_cases hjk : j = k
    · rw [hjk, w2_at]
    · rw [w2_nj hjk]
      exact hlo j (by omega)
