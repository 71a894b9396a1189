/-! ===== rows that are valid for some columns ===== -/
def sub (k s : Int32) : Prop := ∀ j, j < 6 → bt k j = true → bt s j = true
theorem pt_pt {k s : Int32} {r : Nat} (h : sub k s) : pt k (pt s r) = pt k r := pt_eq.mpr fun j hj hb => by rw [dg_pt hj, if_pos (h j hj hb)]
theorem sub_rf {s : Int32} : sub s s := fun _ _ h => h
theorem pt_id {s : Int32} {r : Nat} : pt s (pt s r) = pt s r := pt_pt sub_rf
theorem val_0 {s : Int32} {r j : Nat} (h : pt s r = r) (hj : j < 6) (hb : bt s j = false) : dg r j = 0 := by
  rw [← h, dg_pt hj, hb, if_neg (by decide)]
theorem val_lt {s : Int32} {r : Nat} (h : pt s r = r) : r < 1000000 := h ▸ pt_lt s r
