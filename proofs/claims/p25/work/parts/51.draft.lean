/-! ===== drafts ===== -/
theorem dcap_0 : dcap 0 = 20 := rfl
theorem oid_m1 : oid (-1) = none := rfl
