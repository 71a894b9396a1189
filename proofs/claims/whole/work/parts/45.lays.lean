/-! ===== the reference lays a view's row: the class's step ===== -/
def WG (G : Gt) (nt nv : Nat) : Prop := (nt ≤ 3 ∧ nv ≤ 10) ∧ ∀ v, v < nv → WV G nt v
theorem WG.K {G : Gt} {nt nv v : Nat} (h : WG G nt nv) (hv : v < nv) : G v 6 = 1 ∨ G v 6 = 2 ∨ G v 6 = 4 ∨ G v 6 = 6 := by
  rcases h.2 v hv with q | q | q | q
  · exact Or.inl q.1
  · exact Or.inr (Or.inl q.1)
  · exact Or.inr (Or.inr (Or.inl q.1))
  · exact Or.inr (Or.inr (Or.inr q.1))
theorem WG.L' {G : Gt} {nt nv v : Nat} (h : WG G nt nv) (hv : v < nv) (hk : G v 6 ≠ 6) : G v 4 = nI (vl G v) ∧ vl G v < v := by
  have q : ∃ u, u < v ∧ G v 4 = nI u := by
    rcases h.2 v hv with q | q | q | q
    · exact q.2.1
    · exact q.2.1
    · exact q.2.1
    · exact absurd q.1 hk
  obtain ⟨u, h1, h2⟩ := q
  have : vl G v = u := by unfold vl; rw [h2, nI_clamp (by have := h.1.2; omega)]
  rw [this]
  exact ⟨h2, h1⟩
theorem WG.R' {G : Gt} {nt nv v : Nat} (h : WG G nt nv) (hv : v < nv) (hk : G v 6 = 2) : G v 5 = nI (vr G v) ∧ vr G v < v := by
  have q : ∃ u, u < v ∧ G v 5 = nI u := by
    rcases h.2 v hv with q | q | q | q
    · exact absurd (q.1.symm.trans hk) (by decide)
    · exact q.2.2
    · exact absurd (q.1.symm.trans hk) (by decide)
    · exact absurd (q.1.symm.trans hk) (by decide)
  obtain ⟨u, h1, h2⟩ := q
  have : vr G v = u := by unfold vr; rw [h2, nI_clamp (by have := h.1.2; omega)]
  rw [this]
  exact ⟨h2, h1⟩
theorem WG.T' {G : Gt} {nt nv v : Nat} (h : WG G nt nv) (hv : v < nv) (hk : G v 6 = 6) : G v 11 = nI (vt G v) ∧ vt G v < nt := by
  have q : ∃ u, u < nt ∧ G v 11 = nI u := by
    rcases h.2 v hv with q | q | q | q
    · exact absurd (q.1.symm.trans hk) (by decide)
    · exact absurd (q.1.symm.trans hk) (by decide)
    · exact absurd (q.1.symm.trans hk) (by decide)
    · exact q.2.2.2
  obtain ⟨u, h1, h2⟩ := q
  have : vt G v = u := by unfold vt; rw [h2, nI_clamp (by have := h.1.1; omega)]
  rw [this]
  exact ⟨h2, h1⟩
def stp (G : Gt) (V : Nat → List Nat) (v : Nat) : List Nat → Nat → List Nat :=
  if G v 6 = 2 then stJ G v (V (vr G v)) else if G v 6 = 4 then stS G v else if G v 6 = 1 then stD G v else fun acc r => insR r acc
theorem stp_2 {G : Gt} {V : Nat → List Nat} {v : Nat} (h : G v 6 = 2) : stp G V v = stJ G v (V (vr G v)) := if_pos h
theorem stp_4 {G : Gt} {V : Nat → List Nat} {v : Nat} (h : G v 6 = 4) : stp G V v = stS G v := by
  unfold stp
  rw [if_neg (show ¬ G v 6 = 2 by rw [h]; decide), if_pos h]
theorem stp_1 {G : Gt} {V : Nat → List Nat} {v : Nat} (h : G v 6 = 1) : stp G V v = stD G v := by
  unfold stp
  rw [if_neg (show ¬ G v 6 = 2 by rw [h]; decide), if_neg (show ¬ G v 6 = 4 by rw [h]; decide), if_pos h]
theorem stp_6 {G : Gt} {V : Nat → List Nat} {v : Nat} (h : G v 6 = 6) : stp G V v = fun acc r => insR r acc := by
  unfold stp
  rw [if_neg (show ¬ G v 6 = 2 by rw [h]; decide), if_neg (show ¬ G v 6 = 4 by rw [h]; decide), if_neg (show ¬ G v 6 = 1 by rw [h]; decide)]
theorem stp_le {G : Gt} {V : Nat → List Nat} {v : Nat} (acc : List Nat) (r : Nat) : (stp G V v acc r).length ≤ acc.length + 1 := by
  unfold stp
  split
  · exact stJ_le acc r
  · split
    · exact stS_le acc r
    · split
      · exact stD_le acc r
      · exact insR_le
/-- a view's attributes in the reference -/
def KM (G : Gt) (M : St) (v : Nat) : Prop := M.2 14 v = G v 1 ∧ M.2 15 v = G v 2 ∧ M.2 16 v = G v 3 ∧ ((G v 6 = 6 ∧ M.2 8 v = 0 ∧ M.2 9 v = G v 11) ∨ (G v 6 = 4 ∧ M.2 8 v = 1 ∧ M.2 9 v = G v 4 ∧ M.2 11 v = G v 7 ∧ M.2 12 v = G v 8 ∧ M.2 13 v = G v 9) ∨ (G v 6 = 1 ∧ M.2 8 v = 2 ∧ M.2 9 v = G v 4 ∧ M.2 11 v = G v 7 ∧ M.2 12 v = G v 8) ∨ (G v 6 = 2 ∧ M.2 8 v = 3 ∧ M.2 9 v = G v 4 ∧ M.2 10 v = G v 5))
theorem KM_fr {G : Gt} {M M' : St} {v : Nat} (h : KM G M v) (hF : ∀ k, 8 ≤ k → k ≤ 16 → M'.2 k = M.2 k) : KM G M' v := by
  unfold KM at h ⊢
  rw [hF 14 (by decide) (by decide), hF 15 (by decide) (by decide), hF 16 (by decide) (by decide), hF 8 (by decide) (by decide), hF 9 (by decide) (by decide), hF 10 (by decide) (by decide), hF 11 (by decide) (by decide), hF 12 (by decide) (by decide), hF 13 (by decide) (by decide)]
  exact h
/-- a view's attributes by its kind -/
def GA (G : Gt) (v : Nat) : Prop := (G v 6 = 6 → G v 1 = G (20 + vt G v) 0 ∧ G v 2 = G (20 + vt G v) 1 ∧ G v 3 = 1 <<< (nI (vt G v) &&& 31)) ∧
  (G v 6 = 4 → G v 1 = G (vl G v) 1 ∧ G v 2 = G (vl G v) 2 ∧ G v 3 = G (vl G v) 3 ∧ (∃ c, c < 6 ∧ G v 7 = nI c ∧ bt (G (vl G v) 1) c = true) ∧ (∃ w, w < 10 ∧ G v 8 = nI w) ∧ (G v 9 = 0 ∨ G v 9 = 1)) ∧
  (G v 6 = 1 → G v 1 = (G (vl G v) 1 &&& ((1 <<< (G v 7 &&& 31)) ^^^ (-1))) ∧ G v 2 = G (vl G v) 2 ∧ G v 3 = G (vl G v) 3 ∧ (∃ c, c < 6 ∧ G v 7 = nI c ∧ bt (G (vl G v) 1) c = true ∧ bt (G (vl G v) 2) c = false) ∧ ∃ w, w < 10 ∧ G v 8 = nI w) ∧
  (G v 6 = 2 → G v 1 = (G (vl G v) 1 ||| G (vr G v) 1) ∧ G v 2 = G (vl G v) 2 ∧ G v 3 = (G (vl G v) 3 ||| G (vr G v) 3) ∧ G v 10 = (G (vl G v) 1 &&& G (vr G v) 1) ∧ (G (vl G v) 3 &&& G (vr G v) 3) = 0 ∧ sub (G (vr G v) 2) (G (vl G v) 1))
theorem laysRow_n {M : St} {G : Gt} {V : Nat → List Nat} {nt nv v r : Nat} {acc : List Nat} (hP : PW M) (hG : WG G nt nv) (hA : GA G v) (hK : KM G M v) (hKl : G v 6 = 2 → M.2 14 (vl G v) = G (vl G v) 1 ∧ M.2 14 (vr G v) = G (vr G v) 1) (hv : v < nv) (hV : Vm M 18 17 v acc) (hW : G v 6 = 2 → Vm M 18 17 (vr G v) (V (vr G v)) ∧ (V (vr G v)).Nodup ∧ unl (G v 10) (V (vr G v)) ∧ (V (vr G v)).length ≤ 12 ∧ ∀ q, q ∈ V (vr G v) → r + pt (G (vr G v) 1 &&& (G (vl G v) 1 ^^^ (-1))) q < 1000000)
    (hr : r < 1000000) (hval : (G v 6 = 6 ∨ G v 6 = 4) → pt (G v 1) r = r) (hc : acc.length ≤ 20) : ∃ M', m_laysRow (nI v) (nI r) M = some M' ∧ Vm M' 18 17 v (stp G V v acc r) ∧ FrV 18 17 v M M' := by
  have hv10 : v < 10 := Nat.lt_of_lt_of_le hv hG.1.2
  have hr31 : r < 2 ^ 31 := Nat.lt_of_lt_of_le hr (by decide)
  obtain ⟨k14, k15, k16, hk⟩ := hK
  rcases hk with ⟨k6, k8, k9⟩ | ⟨k6, k8, k9, k11, k12, k13⟩ | ⟨k6, k8, k9, k11, k12⟩ | ⟨k6, k8, k9, k10⟩
  · have := laysRow_p hP hV hv10 (Or.inl k8) k14 hr31 (by omega)
    rw [hval (Or.inl k6)] at this
    rw [stp_6 k6]
    exact this
  · obtain ⟨-, -, -, ⟨c, hc6, hc7, -⟩, -⟩ := hA.2.1 k6
    have := laysRow_s hP hV hv10 k8 k14 hc7 hc6 k11 k12 k13 hr31 (by omega)
    rw [hval (Or.inr k6)] at this
    rw [stp_4 k6]
    exact this
  · rw [stp_1 k6]
    exact laysRow_p hP hV hv10 (Or.inr k8) k14 hr31 (by omega)
  · obtain ⟨hW1, hW2, hW3, hW4, hW5⟩ := hW k6
    obtain ⟨hl1, hl2⟩ := hKl k6
    obtain ⟨-, -, -, a10, -, -⟩ := hA.2.2.2 k6
    obtain ⟨r1, r2⟩ := hG.R' hv k6
    obtain ⟨l1, l2⟩ := hG.L' hv (ne6_2 k6)
    obtain ⟨M', e1, s1, f1⟩ := joins_n (cm := G v 10) (rs := G (vr G v) 1 &&& (G (vl G v) 1 ^^^ (-1))) hP hV hW1 hv10 r2 (by omega) (k9.trans l1) (k10.trans r1) (by rw [hl1, hl2, a10]) (by rw [hl1, hl2]) hr31 hW5 (by omega)
    unfold m_laysRow
    rw [rd_n hv10 (by decide), if_pos k8, e1, cb_s]
    refine ⟨M', rfl, ?_, f1⟩
    rw [stp_2 k6]
    rw [fold_one hW2 hW3] at s1
    exact s1
