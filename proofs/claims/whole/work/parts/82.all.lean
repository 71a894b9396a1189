/-! ===== all 22 calls, and the start ===== -/
theorem simAll : SimAll RR := ⟨fun _ _ _ _ _ h => h.1, sm_table, sm_insert, sm_delete, sm_of, sm_select, sm_drop, sm_join, sm_columns, sm_key, sm_rows, sm_row, sm_open, sm_add, sm_takeOut, sm_change, sm_draftRow, sm_conflict, sm_conflictRow, sm_changes, sm_fewest, sm_putBack, sm_undo⟩
theorem pw00 : PW M00 := by
  intro c hc
  have h : c = 0 ∨ c = 1 ∨ c = 2 ∨ c = 3 ∨ c = 4 ∨ c = 5 := by omega
  rcases h with rfl | rfl | rfl | rfl | rfl | rfl <;> rfl
theorem rr00 : RR S00 G00 0 0 M00 := ⟨⟨rfl, rfl, rfl, rfl, Or.inl rfl⟩, ⟨⟨⟨⟨by omega, by omega⟩, fun v hv => by omega⟩, fun v hv => by omega, fun v hv => by omega⟩, pw00, rfl, rfl, fun v hv => by omega, fun t ht => by omega⟩, ⟨fun _ => [], fun t ht => by omega, fun v hv => by omega⟩, Or.inl ⟨rfl, rfl⟩, ⟨0, fun _ _ => [], by omega, rfl, rfl, fun j hj => by omega⟩⟩
