/-! ===== calls that only look ===== -/
theorem z00 : (0 : Int32) = 0 := rfl
theorem z10 : ¬ (1 : Int32) = 0 := by decide
theorem z20 : ¬ (2 : Int32) = 0 := by decide
theorem z30 : ¬ (3 : Int32) = 0 := by decide
theorem z1l : ¬ (1 : Int32) ≤ 0 := by decide
theorem z2l : ¬ (2 : Int32) ≤ 0 := by decide
theorem z3l : ¬ (3 : Int32) ≤ 0 := by decide
theorem z0l : (0 : Int32) ≤ 0 := by decide