/-! ===== rows that are valid for some columns ===== -/
def sub (k s : Int32) : Prop := ∀ j, j < 6 → bt k j = true → bt s j = true
theorem pt_pt {k s : Int32} {r : Nat} (h : sub k s) : pt k (pt s r) = pt k r := pt_eq.mpr fun j hj hb => by rw [dg_pt hj, if_pos (h j hj hb)]
theorem sub_rf {s : Int32} : sub s s := fun _ _ h => h
theorem pt_id {s : Int32} {r : Nat} : pt s (pt s r) = pt s r := pt_pt sub_rf
theorem val_0 {s : Int32} {r j : Nat} (h : pt s r = r) (hj : j < 6) (hb : bt s j = false) : dg r j = 0 := by
  rw [← h, dg_pt hj, hb, if_neg (by decide)]
theorem val_lt {s : Int32} {r : Nat} (h : pt s r = r) : r < 1000000 := h ▸ pt_lt s r
/-- sums of numbers whose digits don't run over -/
theorem dg_sum {a b : Nat} (ha : a < 1000000) (hb : b < 1000000) (h : ∀ j, j < 6 → dg a j + dg b j < 10) : a + b < 1000000 ∧ ∀ j, j < 6 → dg (a + b) j = dg a j + dg b j := by
  have h0 := h 0 (by decide)
  have h1 := h 1 (by decide)
  have h2 := h 2 (by decide)
  have h3 := h 3 (by decide)
  have h4 := h 4 (by decide)
  have h5 := h 5 (by decide)
  simp only [dg, Nat.reducePow] at h0 h1 h2 h3 h4 h5
  refine ⟨by omega, fun j hj => ?_⟩
  have z : j = 0 ∨ j = 1 ∨ j = 2 ∨ j = 3 ∨ j = 4 ∨ j = 5 := by omega
  rcases z with rfl | rfl | rfl | rfl | rfl | rfl <;> simp only [dg, Nat.reducePow] <;> omega
