/-! ===== the reference lays a view's row: the class's step ===== -/
def WG (G : Gt) (nt nv : Nat) : Prop := (nt ≤ 3 ∧ nv ≤ 10) ∧ ∀ v, v < nv → WV G nt v
theorem WG.K {G : Gt} {nt nv v : Nat} (h : WG G nt nv) (hv : v < nv) : G v 6 = 1 ∨ G v 6 = 2 ∨ G v 6 = 4 ∨ G v 6 = 6 := by
  rcases h.2 v hv with q | q | q | q
  · exact Or.inl q.1
  · exact Or.inr (Or.inl q.1)
  · exact Or.inr (Or.inr (Or.inl q.1))
  · exact Or.inr (Or.inr (Or.inr q.1))
theorem WG.L' {G : Gt} {nt nv v : Nat} (h : WG G nt nv) (hv : v < nv) (hk : G v 6 ≠ 6) : G v 4 = nI (vl G v) ∧ vl G v < v := by
  have q : ∃ u, u < v ∧ G v 4 = nI u := by
    rcases h.2 v hv with q | q | q | q
    · exact q.2.1
    · exact q.2.1
    · exact q.2.1
    · exact absurd q.1 hk
  obtain ⟨u, h1, h2⟩ := q
  have : vl G v = u := by unfold vl; rw [h2, nI_clamp (by have := h.1.2; omega)]
  rw [this]
  exact ⟨h2, h1⟩
theorem WG.R' {G : Gt} {nt nv v : Nat} (h : WG G nt nv) (hv : v < nv) (hk : G v 6 = 2) : G v 5 = nI (vr G v) ∧ vr G v < v := by
  have q : ∃ u, u < v ∧ G v 5 = nI u := by
    rcases h.2 v hv with q | q | q | q
    · exact absurd (q.1.symm.trans hk) (by decide)
    · exact q.2.2
    · exact absurd (q.1.symm.trans hk) (by decide)
    · exact absurd (q.1.symm.trans hk) (by decide)
  obtain ⟨u, h1, h2⟩ := q
  have : vr G v = u := by unfold vr; rw [h2, nI_clamp (by have := h.1.2; omega)]
  rw [this]
  exact ⟨h2, h1⟩
theorem WG.T' {G : Gt} {nt nv v : Nat} (h : WG G nt nv) (hv : v < nv) (hk : G v 6 = 6) : G v 11 = nI (vt G v) ∧ vt G v < nt := by
  have q : ∃ u, u < nt ∧ G v 11 = nI u := by
    rcases h.2 v hv with q | q | q | q
    · exact absurd (q.1.symm.trans hk) (by decide)
    · exact absurd (q.1.symm.trans hk) (by decide)
    · exact absurd (q.1.symm.trans hk) (by decide)
    · exact q.2.2.2
  obtain ⟨u, h1, h2⟩ := q
  have : vt G v = u := by unfold vt; rw [h2, nI_clamp (by have := h.1.1; omega)]
  rw [this]
  exact ⟨h2, h1⟩
def stp (G : Gt) (V : Nat → List Nat) (v : Nat) : List Nat → Nat → List Nat :=
  if G v 6 = 2 then stJ G v (V (vr G v)) else if G v 6 = 4 then stS G v else if G v 6 = 1 then stD G v else fun acc r => insR r acc
theorem stp_2 {G : Gt} {V : Nat → List Nat} {v : Nat} (h : G v 6 = 2) : stp G V v = stJ G v (V (vr G v)) := if_pos h
theorem stp_4 {G : Gt} {V : Nat → List Nat} {v : Nat} (h : G v 6 = 4) : stp G V v = stS G v := by
  unfold stp
  rw [if_neg (show ¬ G v 6 = 2 by rw [h]; decide), if_pos h]
theorem stp_1 {G : Gt} {V : Nat → List Nat} {v : Nat} (h : G v 6 = 1) : stp G V v = stD G v := by
  unfold stp
  rw [if_neg (show ¬ G v 6 = 2 by rw [h]; decide), if_neg (show ¬ G v 6 = 4 by rw [h]; decide), if_pos h]
theorem stp_6 {G : Gt} {V : Nat → List Nat} {v : Nat} (h : G v 6 = 6) : stp G V v = fun acc r => insR r acc := by
  unfold stp
  rw [if_neg (show ¬ G v 6 = 2 by rw [h]; decide), if_neg (show ¬ G v 6 = 4 by rw [h]; decide), if_neg (show ¬ G v 6 = 1 by rw [h]; decide)]
theorem stp_le {G : Gt} {V : Nat → List Nat} {v : Nat} (acc : List Nat) (r : Nat) : (stp G V v acc r).length ≤ acc.length + 1 := by
  unfold stp
  split
  · exact stJ_le acc r
  · split
    · exact stS_le acc r
    · split
      · exact stD_le acc r
      · exact insR_le
/-- a view's attributes by its kind -/
def GA (G : Gt) (v : Nat) : Prop := (G v 6 = 6 → G v 1 = G (20 + vt G v) 0 ∧ G v 2 = G (20 + vt G v) 1 ∧ G v 3 = 1 <<< (nI (vt G v) &&& 31)) ∧
  (G v 6 = 4 → G v 1 = G (vl G v) 1 ∧ G v 2 = G (vl G v) 2 ∧ G v 3 = G (vl G v) 3 ∧ (∃ c, c < 6 ∧ G v 7 = nI c ∧ bt (G (vl G v) 1) c = true) ∧ (∃ w, w < 10 ∧ G v 8 = nI w) ∧ (G v 9 = 0 ∨ G v 9 = 1)) ∧
  (G v 6 = 1 → G v 1 = (G (vl G v) 1 &&& ((1 <<< (G v 7 &&& 31)) ^^^ (-1))) ∧ G v 2 = G (vl G v) 2 ∧ G v 3 = G (vl G v) 3 ∧ (∃ c, c < 6 ∧ G v 7 = nI c ∧ bt (G (vl G v) 1) c = true ∧ bt (G (vl G v) 2) c = false) ∧ ∃ w, w < 10 ∧ G v 8 = nI w) ∧
  (G v 6 = 2 → G v 1 = (G (vl G v) 1 ||| G (vr G v) 1) ∧ G v 2 = G (vl G v) 2 ∧ G v 3 = (G (vl G v) 3 ||| G (vr G v) 3) ∧ G v 10 = (G (vl G v) 1 &&& G (vr G v) 1) ∧ (G (vl G v) 3 &&& G (vr G v) 3) = 0 ∧ sub (G (vr G v) 2) (G (vl G v) 1))