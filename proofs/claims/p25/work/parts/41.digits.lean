/-! ===== the digits of parts ===== -/
theorem dg_add {a x c j : Nat} (ha : a < 10 ^ c) (hx : x < 10) : dg (a + x * 10 ^ c) j = if j < c then dg a j else if j = c then x else 0 := by
  unfold dg
  by_cases h1 : j < c
  · rw [if_pos h1]
    obtain ⟨e, rfl⟩ : ∃ e, c = j + (e + 1) := ⟨c - j - 1, by omega⟩
    have h2 : x * 10 ^ (j + (e + 1)) = (x * 10 ^ e * 10) * 10 ^ j := by
      rw [Nat.pow_add, Nat.pow_succ, Nat.mul_comm (10 ^ j), ← Nat.mul_assoc, ← Nat.mul_assoc]
    rw [h2, Nat.add_mul_div_right _ _ (Nat.pow_pos (by decide)), Nat.add_mul_mod_self_right]
  · rw [if_neg h1]
    by_cases h2 : j = c
    · rw [if_pos h2, h2, Nat.add_mul_div_right _ _ (Nat.pow_pos (by decide)), Nat.div_eq_of_lt ha, Nat.zero_add, Nat.mod_eq_of_lt hx]
    · rw [if_neg h2, Nat.div_eq_of_lt, Nat.zero_mod]
      have h3 : 10 ^ (c + 1) ≤ 10 ^ j := Nat.pow_le_pow_right (by decide) (by omega)
      have h4 : x * 10 ^ c ≤ 9 * 10 ^ c := Nat.mul_le_mul_right _ (by omega)
      rw [Nat.pow_succ] at h3
      omega
theorem dg_big {a c j : Nat} (ha : a < 10 ^ c) (h : c ≤ j) : dg a j = 0 := by
  unfold dg
  rw [Nat.div_eq_of_lt (Nat.lt_of_lt_of_le ha (Nat.pow_le_pow_right (by decide) h)), Nat.zero_mod]
theorem dg_ptn {s : Int32} {r j : Nat} : ∀ c, dg (ptn s r c) j = if j < c ∧ bt s j = true then dg r j else 0 := by
  intro c
  induction c with
  | zero =>
    rw [if_neg (by omega)]
    exact dg_big (c := 0) (ptn_lt s r 0) (Nat.zero_le _)
  | succ c ih =>
    have h1 := ptn_lt s r c
    have e1 : ptn s r (c + 1) = ptn s r c + (if bt s c then dg r c * 10 ^ c else 0) := rfl
    rw [e1]
    cases hb : bt s c
    · rw [if_neg (by simp), Nat.add_zero, ih]
      by_cases hj : j = c
      · subst hj
        rw [if_neg (by omega), if_neg (by simp [hb])]
      · by_cases h2 : j < c ∧ bt s j = true
        · rw [if_pos h2, if_pos ⟨by omega, h2.2⟩]
        · rw [if_neg h2, if_neg (fun z => h2 ⟨by omega, z.2⟩)]
    · rw [if_pos rfl, dg_add h1 (dg_lt r c), ih]
      by_cases hj : j < c
      · rw [if_pos hj]
        by_cases h2 : bt s j = true
        · rw [if_pos ⟨hj, h2⟩, if_pos ⟨by omega, h2⟩]
        · rw [if_neg (fun z => h2 z.2), if_neg (fun z => h2 z.2)]
      · rw [if_neg hj]
        by_cases h2 : j = c
        · subst h2
          rw [if_pos rfl, if_pos ⟨by omega, hb⟩]
        · rw [if_neg h2, if_neg (by omega)]
theorem dg_pt {s : Int32} {r j : Nat} (hj : j < 6) : dg (pt s r) j = if bt s j = true then dg r j else 0 := by
  unfold pt
  rw [dg_ptn]
  by_cases h : bt s j = true
  · rw [if_pos ⟨hj, h⟩, if_pos h]
  · rw [if_neg (fun z => h z.2), if_neg h]
/-- a number below a million is told by its digits -/
theorem dg_ext {a b : Nat} (ha : a < 1000000) (hb : b < 1000000) (h : ∀ j, j < 6 → dg a j = dg b j) : a = b := by
  have h0 := h 0 (by decide)
  have h1 := h 1 (by decide)
  have h2 := h 2 (by decide)
  have h3 := h 3 (by decide)
  have h4 := h 4 (by decide)
  have h5 := h 5 (by decide)
  simp only [dg, Nat.reducePow] at h0 h1 h2 h3 h4 h5
  omega
