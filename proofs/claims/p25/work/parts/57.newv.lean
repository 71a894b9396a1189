/-! ===== a new view ===== -/
theorem h10n {nv : Nat} (h : nv < 10) : nI nv < (10 : Int32) ∧ ¬ nI nv = (10 : Int32) := ⟨nI_lt (b := 10) h (by decide), fun z => by
  have := (nI_eq (b := 10) (by omega) (by decide)).mp z
  omega⟩
theorem h10f : ¬ nI 10 < (10 : Int32) ∧ nI 10 = (10 : Int32) := ⟨by decide, rfl⟩