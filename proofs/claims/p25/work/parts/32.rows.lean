/-! ===== rows of numbers ===== -/
def gl (l : List Nat) (j : Nat) : Nat := l.getD j 0
def Sg (f : Nat → Int32) (b : Nat) (l : List Nat) : Prop := ∀ j, j < l.length → f (b + j) = nI (gl l j)
def okL (l : List Nat) : Prop := ∀ r, r ∈ l → r < 1000000
def Rw (S : St) (i : Nat) (l : List Nat) : Prop := S.1 i = nI l.length ∧ l.length ≤ dcap i ∧ Sg (S.2 i) 0 l ∧ okL l
/-- but for the Rows i nothing differs -/
def Fr (i : Nat) (S S' : St) : Prop := (∀ k, k ≠ i → S'.1 k = S.1 k) ∧ ∀ k, k ≠ i → S'.2 k = S.2 k
theorem Fr.rf {i : Nat} {S : St} : Fr i S S := ⟨fun _ _ => rfl, fun _ _ => rfl⟩
theorem Fr.tr {i : Nat} {S S1 S2 : St} (h1 : Fr i S S1) (h2 : Fr i S1 S2) : Fr i S S2 := ⟨fun k hk => (h2.1 k hk).trans (h1.1 k hk), fun k hk => (h2.2 k hk).trans (h1.2 k hk)⟩
theorem dcap_le {i : Nat} : dcap i ≤ 32 := by
  unfold dcap
  split
  · decide
  · split
    · decide
    · split <;> decide
theorem dcap_31 {i : Nat} : dcap i < 2 ^ 31 := Nat.lt_of_le_of_lt dcap_le (by decide)
theorem gl_mem {l : List Nat} {j : Nat} (h : j < l.length) : gl l j ∈ l := by
  unfold gl
  rw [List.getD_eq_getElem?_getD, List.getElem?_eq_getElem h]
  exact List.getElem_mem h
theorem mem_gl {l : List Nat} {r : Nat} (h : r ∈ l) : ∃ j, j < l.length ∧ gl l j = r := by
  obtain ⟨j, hj, he⟩ := List.getElem_of_mem h
  refine ⟨j, hj, ?_⟩
  unfold gl
  rw [List.getD_eq_getElem?_getD, List.getElem?_eq_getElem hj]
  exact he
theorem okL_gl {l : List Nat} {j : Nat} (h : okL l) (hj : j < l.length) : gl l j < 2 ^ 31 := Nat.lt_of_lt_of_le (h _ (gl_mem hj)) (by decide)
theorem Rw_at {S : St} {i : Nat} {l : List Nat} (h : Rw S i l) {j : Nat} (hj : j < l.length) : S.2 i j = nI ((fun l j => gl l j) l j) := by
  have := h.2.2.1 j hj
  rwa [Nat.zero_add] at this
theorem Rw_len {S : St} {i : Nat} {l : List Nat} (h : Rw S i l) : l.length < 2 ^ 31 := Nat.lt_of_le_of_lt h.2.1 dcap_31
theorem at_n {S : St} {i : Nat} {l : List Nat} (h : Rw S i l) {j : Nat} (hj : j < l.length) : d4_at i (nI j) S = some (nI (gl l j)) := by
  have hc := h.2.1
  have hl := Rw_len h
  unfold d4_at
  rw [if_neg (nI_pos (by omega)), h.1, if_neg (nI_ge hj hl), if_pos (nI_lt (by omega) dcap_31), rd_n (by omega) dcap_31, Rw_at h hj]
/-- of any number, in or out -/
theorem at_x {S : St} {i : Nat} {l : List Nat} (h : Rw S i l) (x : Int32) (hx : ¬ vp_in x l.length) : d4_at i x S = some (-1) := by
  have hl := Rw_len h
  unfold d4_at
  by_cases h0 : x < 0
  · rw [if_pos h0]
  · rw [if_neg h0]
    obtain ⟨k, hk, rfl⟩ := nI_of h0
    rw [h.1, if_pos]
    refine nI_le (Nat.not_lt.mp fun z => hx (vp_in_nI z hl)) hk
theorem has_n {S : St} {i : Nat} {l : List Nat} (h : Rw S i l) (x : Int32) : d4_has i x S = some (if l.any (fun r => decide (nI r = x)) then 1 else 0) := by
  have hc := h.2.1
  have hl := Rw_len h
  have hd := dcap_le (i := i)
  unfold d4_has
  refine lq1 (Q := fun y => y = some (if l.any (fun r => decide (nI r = x)) then 1 else 0)) (fun d a => ∃ k, k + d = l.length ∧ a = nI k ∧ ∀ j, j < k → nI (gl l j) ≠ x) ?_ _ l.length _ (FU_lt (by omega)) ⟨0, by omega, rfl, fun j hj => by omega⟩
  rintro d a g ⟨k, hk, rfl, hj⟩ ih
  by_cases hd0 : d = 0
  · rw [h.1, if_pos (nI_le (by omega) (by omega)), if_neg]
    intro z
    obtain ⟨r, hr, he⟩ := List.any_eq_true.mp z
    obtain ⟨j, hjl, rfl⟩ := mem_gl hr
    exact hj j (by omega) (of_decide_eq_true he)
  · rw [h.1, if_neg (nI_ge (by omega) hl), if_neg (nI_ge (by omega) dcap_31), rd_n (by omega) dcap_31, Rw_at h (by omega)]
    by_cases he : nI (gl l k) = x
    · rw [if_pos he, if_pos (List.any_eq_true.mpr ⟨_, gl_mem (by omega), decide_eq_true he⟩)]
    · rw [if_neg he, nI_1]
      refine ih (d - 1) _ (by omega) ⟨k + 1, by omega, rfl, fun j hj2 => ?_⟩
      by_cases hjk : j = k
      · subst hjk; exact he
      · exact hj j (by omega)
theorem any_mem {l : List Nat} (hl : okL l) {r : Nat} (hr : r < 1000000) : l.any (fun q => decide (nI q = nI r)) = decide (r ∈ l) := by
  by_cases h : r ∈ l
  · rw [decide_eq_true h]
    exact List.any_eq_true.mpr ⟨r, h, decide_eq_true rfl⟩
  · rw [decide_eq_false h]
    refine List.any_eq_false.mpr fun q hq z => h ?_
    have := (nI_eq (Nat.lt_of_lt_of_le (hl q hq) (by decide)) (Nat.lt_of_lt_of_le hr (by decide))).mp (of_decide_eq_true z)
    rwa [← this]
/-! laying a row in order: from the right, behind the last that isn't greater -/
def insP (r : Nat) (l : List Nat) : Nat → Nat
  | 0 => 0
  | p + 1 => if gl l p ≤ r then p + 1 else insP r l p
def insR (r : Nat) (l : List Nat) : List Nat := if r ∈ l then l else l.take (insP r l l.length) ++ r :: l.drop (insP r l l.length)
theorem insP_le (r : Nat) (l : List Nat) : ∀ p, insP r l p ≤ p := by
  intro p
  induction p with
  | zero => exact Nat.le_refl 0
  | succ p ih =>
    unfold insP
    split
    · exact Nat.le_refl _
    · exact Nat.le_succ_of_le ih
theorem gl_ins {l : List Nat} {p r j : Nat} (hp : p ≤ l.length) : gl (l.take p ++ r :: l.drop p) j = if j < p then gl l j else if j = p then r else gl l (j - 1) := by
  unfold gl
  simp only [List.getD_eq_getElem?_getD]
  by_cases h1 : j < p
  · rw [if_pos h1, List.getElem?_append_left (by rw [List.length_take]; omega), List.getElem?_take_of_lt h1]
  · rw [if_neg h1, List.getElem?_append_right (by rw [List.length_take]; omega), List.length_take, Nat.min_eq_left hp]
    by_cases h2 : j = p
    · rw [if_pos h2, h2, Nat.sub_self]
      rfl
    · rw [if_neg h2, show j - p = (j - 1 - p) + 1 by omega, List.getElem?_cons_succ, List.getElem?_drop, show p + (j - 1 - p) = j - 1 by omega]
theorem insR_len {l : List Nat} {r : Nat} (h : r ∉ l) : (insR r l).length = l.length + 1 := by
  unfold insR
  have := insP_le r l l.length
  rw [if_neg h, List.length_append, List.length_cons, List.length_take, List.length_drop]
  omega
theorem insR_mem {l : List Nat} {r q : Nat} : q ∈ insR r l ↔ q = r ∨ q ∈ l := by
  unfold insR
  by_cases h : r ∈ l
  · rw [if_pos h]
    exact ⟨Or.inr, fun z => z.elim (fun z => z ▸ h) id⟩
  · rw [if_neg h, List.mem_append, List.mem_cons]
    have e : q ∈ l ↔ q ∈ l.take (insP r l l.length) ∨ q ∈ l.drop (insP r l l.length) := by
      rw [← List.mem_append, List.take_append_drop]
    rw [e]
    constructor
    · rintro (z | z | z)
      · exact Or.inr (Or.inl z)
      · exact Or.inl z
      · exact Or.inr (Or.inr z)
    · rintro (z | z | z)
      · exact Or.inr (Or.inl z)
      · exact Or.inl z
      · exact Or.inr (Or.inr z)
theorem insR_ok {l : List Nat} {r : Nat} (hl : okL l) (hr : r < 1000000) : okL (insR r l) := fun q hq => (insR_mem.mp hq).elim (fun z => z ▸ hr) (hl q)
