/-! ===== the class's passDown is the reference's loop over its stack ===== -/
theorem Stk_pop {M : St} {rest : List Nat} {v : Nat} (h : Stk M (rest ++ [v])) : Stk (w1 M 30 (nI rest.length)) rest := ⟨w1_eq, fun j hj => by
  have := h.2 j (by rw [List.length_append, List.length_singleton]; omega)
  rwa [gl_append_l hj] at this⟩
theorem WG.no5 {G : Gt} {nt nv v : Nat} (h : WG G nt nv) (hv : v < nv) (hk : G v 6 ≠ 2) : G v 5 = -1 := by
  rcases h.2 v hv with q | q | q | q
  · exact q.2.2
  · exact absurd q.1 hk
  · exact q.2.2
  · exact q.2.2.1
theorem WG.no4 {G : Gt} {nt nv v : Nat} (h : WG G nt nv) (hv : v < nv) (hk : G v 6 = 6) : G v 4 = -1 := by
  rcases h.2 v hv with q | q | q | q
  · exact absurd (q.1.symm.trans hk) (by decide)
  · exact absurd (q.1.symm.trans hk) (by decide)
  · exact absurd (q.1.symm.trans hk) (by decide)
  · exact q.2.1