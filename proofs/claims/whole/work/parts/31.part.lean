/-! loops: a measure that falls, an invariant, any wish Q of the outcome -/
theorem lq1 {A0 β : Type} {bot : A0 → Option β} {F : (A0 → Option β) → A0 → Option β} {Q : Option β → Prop} (I : Nat → A0 → Prop) (step : ∀ (d : Nat) (a0 : A0) (g : A0 → Option β), I d a0 → (∀ (d2 : Nat) (a0 : A0), d2 < d → I d2 a0 → Q (g a0)) → Q (F g a0)) : ∀ (n d : Nat) (a0 : A0), d < n → I d a0 → Q (lp bot F n a0) := by
  intro n
  induction n with
  | zero => intro d a0 h; omega
  | succ n ih =>
    intro d a0 h hI
    exact step d a0 _ hI (fun d2 b0 h2 hI2 => ih d2 b0 (by omega) hI2)
theorem lq2 {A0 A1 β : Type} {bot : A0 → A1 → Option β} {F : (A0 → A1 → Option β) → A0 → A1 → Option β} {Q : Option β → Prop} (I : Nat → A0 → A1 → Prop) (step : ∀ (d : Nat) (a0 : A0) (a1 : A1) (g : A0 → A1 → Option β), I d a0 a1 → (∀ (d2 : Nat) (a0 : A0) (a1 : A1), d2 < d → I d2 a0 a1 → Q (g a0 a1)) → Q (F g a0 a1)) : ∀ (n d : Nat) (a0 : A0) (a1 : A1), d < n → I d a0 a1 → Q (lp bot F n a0 a1) := by
  intro n
  induction n with
  | zero => intro d a0 a1 h; omega
  | succ n ih =>
    intro d a0 a1 h hI
    exact step d a0 a1 _ hI (fun d2 b0 b1 h2 hI2 => ih d2 b0 b1 (by omega) hI2)
theorem lq3 {A0 A1 A2 β : Type} {bot : A0 → A1 → A2 → Option β} {F : (A0 → A1 → A2 → Option β) → A0 → A1 → A2 → Option β} {Q : Option β → Prop} (I : Nat → A0 → A1 → A2 → Prop) (step : ∀ (d : Nat) (a0 : A0) (a1 : A1) (a2 : A2) (g : A0 → A1 → A2 → Option β), I d a0 a1 a2 → (∀ (d2 : Nat) (a0 : A0) (a1 : A1) (a2 : A2), d2 < d → I d2 a0 a1 a2 → Q (g a0 a1 a2)) → Q (F g a0 a1 a2)) : ∀ (n d : Nat) (a0 : A0) (a1 : A1) (a2 : A2), d < n → I d a0 a1 a2 → Q (lp bot F n a0 a1 a2) := by
  intro n
  induction n with
  | zero => intro d a0 a1 a2 h; omega
  | succ n ih =>
    intro d a0 a1 a2 h hI
    exact step d a0 a1 a2 _ hI (fun d2 b0 b1 b2 h2 hI2 => ih d2 b0 b1 b2 (by omega) hI2)
theorem lq4 {A0 A1 A2 A3 β : Type} {bot : A0 → A1 → A2 → A3 → Option β} {F : (A0 → A1 → A2 → A3 → Option β) → A0 → A1 → A2 → A3 → Option β} {Q : Option β → Prop} (I : Nat → A0 → A1 → A2 → A3 → Prop) (step : ∀ (d : Nat) (a0 : A0) (a1 : A1) (a2 : A2) (a3 : A3) (g : A0 → A1 → A2 → A3 → Option β), I d a0 a1 a2 a3 → (∀ (d2 : Nat) (a0 : A0) (a1 : A1) (a2 : A2) (a3 : A3), d2 < d → I d2 a0 a1 a2 a3 → Q (g a0 a1 a2 a3)) → Q (F g a0 a1 a2 a3)) : ∀ (n d : Nat) (a0 : A0) (a1 : A1) (a2 : A2) (a3 : A3), d < n → I d a0 a1 a2 a3 → Q (lp bot F n a0 a1 a2 a3) := by
  intro n
  induction n with
  | zero => intro d a0 a1 a2 a3 h; omega
  | succ n ih =>
    intro d a0 a1 a2 a3 h hI
    exact step d a0 a1 a2 a3 _ hI (fun d2 b0 b1 b2 b3 h2 hI2 => ih d2 b0 b1 b2 b3 (by omega) hI2)
theorem lq5 {A0 A1 A2 A3 A4 β : Type} {bot : A0 → A1 → A2 → A3 → A4 → Option β} {F : (A0 → A1 → A2 → A3 → A4 → Option β) → A0 → A1 → A2 → A3 → A4 → Option β} {Q : Option β → Prop} (I : Nat → A0 → A1 → A2 → A3 → A4 → Prop) (step : ∀ (d : Nat) (a0 : A0) (a1 : A1) (a2 : A2) (a3 : A3) (a4 : A4) (g : A0 → A1 → A2 → A3 → A4 → Option β), I d a0 a1 a2 a3 a4 → (∀ (d2 : Nat) (a0 : A0) (a1 : A1) (a2 : A2) (a3 : A3) (a4 : A4), d2 < d → I d2 a0 a1 a2 a3 a4 → Q (g a0 a1 a2 a3 a4)) → Q (F g a0 a1 a2 a3 a4)) : ∀ (n d : Nat) (a0 : A0) (a1 : A1) (a2 : A2) (a3 : A3) (a4 : A4), d < n → I d a0 a1 a2 a3 a4 → Q (lp bot F n a0 a1 a2 a3 a4) := by
  intro n
  induction n with
  | zero => intro d a0 a1 a2 a3 a4 h; omega
  | succ n ih =>
    intro d a0 a1 a2 a3 a4 h hI
    exact step d a0 a1 a2 a3 a4 _ hI (fun d2 b0 b1 b2 b3 b4 h2 hI2 => ih d2 b0 b1 b2 b3 b4 (by omega) hI2)
theorem FU_lt {d : Nat} (h : d < 1000) : d < FU := h
theorem digit_n {r c : Nat} (hr : r < 2 ^ 31) (hc : c < 6) : d1_digit (nI r) (nI c) = some (nI (dg r c)) := by
  unfold d1_digit
  refine lq2 (Q := fun x => x = some (nI (dg r c))) (fun d a b => ∃ q k, a = nI q ∧ b = nI k ∧ k + d = c ∧ q < 2 ^ 31 ∧ q / 10 ^ d % 10 = dg r c) ?_ _ c _ _ (FU_lt (by omega)) ⟨r, 0, rfl, rfl, by omega, hr, rfl⟩
  rintro d a b g ⟨q, k, rfl, rfl, hk, hq, he⟩ ih
  by_cases h : d = 0
  · subst h
    rw [if_pos (nI_le (by omega) (by omega)), rem10 hq, ← he, Nat.pow_zero, Nat.div_one]
  · rw [if_neg (nI_ge (by omega) (by omega)), if_neg (nI_ge (b := 6) (by omega) (by decide)), div10 hq, nI_1]
    refine ih (d - 1) _ _ (by omega) ⟨q / 10, k + 1, rfl, rfl, by omega, by omega, ?_⟩
    rw [← he, Nat.div_div_eq_div_mul, ← Nat.pow_succ', show d - 1 + 1 = d by omega]
theorem part_n {r : Nat} {s : Int32} (hr : r < 2 ^ 31) : d1_part (nI r) s = some (nI (pt s r)) := by
  unfold d1_part
  refine lq4 (Q := fun x => x = some (nI (pt s r))) (fun d a b p k => ∃ c, c + d = 6 ∧ a = nI (ptn s r c) ∧ b = nI (r / 10 ^ c) ∧ p = nI (10 ^ c) ∧ k = nI c) ?_ _ 6 _ _ _ _ (FU_lt (by omega)) ⟨0, rfl, rfl, by rw [Nat.pow_zero, Nat.div_one], rfl, rfl⟩
  rintro d a b p k g ⟨c, hc, rfl, rfl, rfl, rfl⟩ ih
  have hq : r / 10 ^ c < 2 ^ 31 := Nat.lt_of_le_of_lt (Nat.div_le_self _ _) hr
  by_cases h : d = 0
  · have : c = 6 := by omega
    subst this
    rw [if_pos (nI_le (a := 6) (by omega) (by omega))]
    rfl
  · rw [if_neg (nI_ge (b := 6) (by omega) (by decide)), isIn_n, cb_s, jn_d, div10 hq, rem10 hq, nI_1, show (10 : Int32) = nI 10 from rfl, pk_mul, pk_mul, nI_add]
    have e1 : r / 10 ^ c / 10 = r / 10 ^ (c + 1) := by rw [Nat.div_div_eq_div_mul, ← Nat.pow_succ]
    have e2 : 10 ^ c * 10 = 10 ^ (c + 1) := rfl
    have e3 : ptn s r (c + 1) = ptn s r c + (if bt s c then dg r c * 10 ^ c else 0) := rfl
    cases hb : bt s c
    · rw [if_pos (by simp), e1, e2]
      refine ih (d - 1) _ _ _ _ (by omega) ⟨c + 1, by omega, ?_, rfl, rfl, rfl⟩
      rw [e3, hb]
      rfl
    · rw [if_neg (by simp), e1, e2]
      refine ih (d - 1) _ _ _ _ (by omega) ⟨c + 1, by omega, ?_, rfl, rfl, rfl⟩
      rw [e3, hb]
      rfl
