/-! ===== fewest: small sets, told by the kernel ===== -/
theorem bit_n : ∀ m : Fin 512, dJ_bitCount (nI m.1) = some (nI (sumN (fun k => if bq (nI m.1) k = true then 1 else 0) 9)) := by decide +kernel
theorem hi_n : ∀ n : Fin 10, ∀ m : Fin 512, m.1 < 2 ^ n.1 ↔ ∀ i : Fin 9, n.1 ≤ i.1 → bq (nI m.1) i.1 = false := by decide +kernel
theorem bq_511 : ∀ i : Fin 32, bq 511 i.1 = decide (i.1 < 9) := by decide +kernel
theorem bq_m : ∀ m : Fin 512, ∀ i : Fin 32, 9 ≤ i.1 → bq (nI m.1) i.1 = false := by decide +kernel
theorem shl_n : ∀ n : Fin 10, (1 : Int32) <<< (nI n.1 &&& 31) = nI (2 ^ n.1) := by decide +kernel
