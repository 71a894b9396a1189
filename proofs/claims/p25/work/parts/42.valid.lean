/-! ===== rows that are valid for some columns ===== -/
def sub (k s : Int32) : Prop := ∀ j, j < 6 → bt k j = true → bt s j = true
theorem pt_pt {k s : Int32} {r : Nat} (h : sub k s) : pt k (pt s r) = pt k r := pt_eq.mpr fun j hj hb => by rw [dg_pt hj, if_pos (h j hj hb)]
theorem sub_rf {s : Int32} : sub s s := fun _ _ h => h
theorem pt_id {s : Int32} {r : Nat} : pt s (pt s r) = pt s r := pt_pt sub_rf
theorem val_0 {s : Int32} {r j : Nat} (h : pt s r = r) (hj : j < 6) (hb : bt s j = false) : dg r j = 0 := by
  rw [← h, dg_pt hj, hb, if_neg (by decide)]
theorem val_lt {s : Int32} {r : Nat} (h : pt s r = r) : r < 1000000 := h ▸ pt_lt s r
def nf (d : Nat → Nat) : Nat → Nat
  | 0 => 0
  | c + 1 => nf d c + d c * 10 ^ c
theorem nf_lt {d : Nat → Nat} : ∀ {c : Nat}, (∀ j, j < c → d j < 10) → nf d c < 10 ^ c := by
  intro c
  induction c with
  | zero => intro _; exact Nat.zero_lt_one
  | succ c ih =>
    intro h
    have h1 := ih (fun j hj => h j (by omega))
    have h2 : d c * 10 ^ c ≤ 9 * 10 ^ c := Nat.mul_le_mul_right _ (by have := h c (by omega); omega)
    have e : nf d (c + 1) = nf d c + d c * 10 ^ c := rfl
    rw [e, Nat.pow_succ]
    omega
theorem dg_nf {d : Nat → Nat} {j : Nat} : ∀ {c : Nat}, (∀ j, j < c → d j < 10) → dg (nf d c) j = if j < c then d j else 0 := by
  intro c
  induction c with
  | zero =>
    intro h
    rw [if_neg (by omega)]
    exact dg_big (c := 0) (nf_lt (d := d) (c := 0) h) (Nat.zero_le _)
  | succ c ih =>
    intro h
    have h1 := fun j (hj : j < c) => h j (by omega)
    have e : nf d (c + 1) = nf d c + d c * 10 ^ c := rfl
    rw [e, dg_add (nf_lt h1) (h c (by omega)), ih h1]
    by_cases hj : j < c
    · rw [if_pos hj, if_pos hj, if_pos (by omega)]
    · rw [if_neg hj]
      by_cases h2 : j = c
      · rw [if_pos h2, if_pos (by omega), h2]
      · rw [if_neg h2, if_neg (by omega)]
theorem nf_dg {a : Nat} (h : a < 1000000) : nf (dg a) 6 = a := by
  have hd : ∀ j, j < 6 → dg a j < 10 := fun j _ => dg_lt a j
  exact dg_ext (nf_lt hd) h fun j hj => by rw [dg_nf hd, if_pos hj]
theorem nf_add {d e : Nat → Nat} : ∀ {c : Nat}, nf (fun j => d j + e j) c = nf d c + nf e c := by
  intro c
  induction c with
  | zero => rfl
  | succ c ih =>
    show nf (fun j => d j + e j) c + (d c + e c) * 10 ^ c = (nf d c + d c * 10 ^ c) + (nf e c + e c * 10 ^ c)
    rw [ih, Nat.add_mul]
    omega
theorem dg_sum {a b : Nat} (ha : a < 1000000) (hb : b < 1000000) (h : ∀ j, j < 6 → dg a j + dg b j < 10) : a + b < 1000000 ∧ ∀ j, j < 6 → dg (a + b) j = dg a j + dg b j := by
  have e : a + b = nf (fun j => dg a j + dg b j) 6 := by rw [nf_add, nf_dg ha, nf_dg hb]
  rw [e]
  exact ⟨nf_lt h, fun j hj => by rw [dg_nf h, if_pos hj]⟩
