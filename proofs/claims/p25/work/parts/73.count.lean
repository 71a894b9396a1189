/-! ===== changes ===== -/
theorem pick_n {Q : Nat → List Nat → Prop} : ∀ {n : Nat}, (∀ t, t < n → ∃ l, Q t l) → ∃ N : Nat → List Nat, ∀ t, t < n → Q t (N t) := by
  intro n
  induction n with
  | zero => intro _; exact ⟨fun _ => [], fun t ht => by omega⟩
  | succ n ih =>
    intro h
    obtain ⟨N, hN⟩ := ih fun t ht => h t (by omega)
    obtain ⟨l, hl⟩ := h n (Nat.lt_succ_self n)
    refine ⟨up N n l, fun t ht => ?_⟩
    by_cases htn : t = n
    · subst htn; rw [up_s]; exact hl
    · rw [up_n htn]; exact hN t (by omega)
theorem nw_take {V l : List Nat} {k : Nat} (h : k < l.length) : (nw V (l.take (k + 1))).length = (nw V (l.take k)).length + (if gl l k ∈ V then 0 else 1) := by
  unfold nw
  rw [take_gl h, List.filter_append, List.length_append]
  congr 1
  by_cases he : gl l k ∈ V
  · rw [if_pos he, List.filter_cons_of_neg (by simpa using he)]
    rfl
  · rw [if_neg he, List.filter_cons_of_pos (by simpa using he)]
    rfl
theorem missing_n {S : St} {i i1 : Nat} {l V : List Nat} (h : Rw S i l) (hV : Rw S i1 V) : d4_countMissingIn i i1 S = some (nI (nw V l).length) := by
  have hl := Nat.le_trans h.2.1 dcap_le
  unfold d4_countMissingIn
  refine lq2 (Q := fun x => x = some (nI (nw V l).length)) (fun d (a b : Int32) => ∃ k, k + d = l.length ∧ b = nI k ∧ a = nI (nw V (l.take k)).length) ?_ _ l.length _ _ (FU_lt (by omega)) ⟨0, by omega, rfl, rfl⟩
  rintro d a b g ⟨k, hk, rfl, rfl⟩ ih
  by_cases h0 : d = 0
  · have hkl : k = l.length := by omega
    rw [h.1, if_pos (nI_le (by omega) (by omega)), hkl, List.take_length]
  · have hkl : k < l.length := by omega
    have hnt := nw_take (V := V) hkl
    rw [h.1, if_neg (nI_ge hkl (by omega)), at_n h hkl, cb_s, has_n hV, cb_s, any_mem hV.2.2.2 (h.2.2.2 _ (gl_mem hkl)), nI_1, nI_1]
    by_cases hm : gl l k ∈ V
    · rw [if_pos hm] at hnt
      rw [decide_eq_true hm, if_pos rfl, if_neg z10]
      exact ih (d - 1) _ _ (by omega) ⟨k + 1, by omega, rfl, by rw [hnt]; rfl⟩
    · rw [if_neg hm] at hnt
      rw [decide_eq_false hm, if_neg (show ¬ false = true by simp), if_pos z00]
      exact ih (d - 1) _ _ (by omega) ⟨k + 1, by omega, rfl, by rw [hnt]⟩
def sumN (f : Nat → Nat) : Nat → Nat
  | 0 => 0
  | k + 1 => sumN f k + f k
def chg (A B : Nat → List Nat) (t : Nat) : Nat := (nw (B t) (A t)).length + (nw (A t) (B t)).length
theorem planned_n {S : St} {G : Gt} {nt nv : Nat} {A B : Nat → List Nat} (h42 : S.1 42 = nI nt) (h56 : S.1 56 = nI nt) (hnt : nt ≤ 3) (hA : ∀ t, t < nt → Rw S (1 + 7 * t) (A t)) (hB : ∀ t, t < nt → Rw S (2 + 7 * t) (B t)) : d10_countPlanned G nt nv S = some (nI (sumN (chg A B) nt)) := by
  unfold d10_countPlanned
  refine lq2 (Q := fun x => x = some (nI (sumN (chg A B) nt))) (fun d (a b : Int32) => ∃ k, k + d = nt ∧ b = nI k ∧ a = nI (sumN (chg A B) k)) ?_ _ nt _ _ (FU_lt (by omega)) ⟨0, by omega, rfl, rfl⟩
  rintro d a b g ⟨k, hk, rfl, rfl⟩ ih
  rw [h42]
  by_cases h0 : d = 0
  · have hkl : k = nt := by omega
    rw [if_pos (nI_le (by omega) (by omega)), hkl]
  · have hkn : k < nt := by omega
    rw [if_neg (nI_ge hkn (by omega)), tableAt_i h42 h56 hnt hkn, cb_s, oc_s, gd_t hkn, missing_n (hA k hkn) (hB k hkn), cb_s, missing_n (hB k hkn) (hA k hkn), cb_s, nI_add, nI_add, nI_1]
    exact ih (d - 1) _ _ (by omega) ⟨k + 1, by omega, rfl, rfl⟩