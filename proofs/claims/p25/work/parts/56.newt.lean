/-! ===== a new table ===== -/
theorem nTG_s {G : Gt} {nt : Nat} {g : Nat → Int32} : nTG G nt g (20 + nt) = g := if_pos rfl
theorem nTG_n {G : Gt} {nt v : Nat} {g : Nat → Int32} (h : v ≠ 20 + nt) : nTG G nt g v = G v := if_neg h
theorem nVG_s {G : Gt} {nv : Nat} {g : Nat → Int32} : nVG G nv g nv = g := if_pos rfl
theorem nVG_n {G : Gt} {nv v : Nat} {g : Nat → Int32} (h : v ≠ nv) : nVG G nv g v = G v := if_neg h
theorem WV_cg {G G' : Gt} {nt nt' v : Nat} (h : WV G nt v) (hv : G' v = G v) (hn : nt ≤ nt') : WV G' nt' v := by
  unfold WV at h ⊢
  rw [hv]
  rcases h with h | h | h | ⟨a, b, c, t, d, e⟩
  · exact Or.inl h
  · exact Or.inr (Or.inl h)
  · exact Or.inr (Or.inr (Or.inl h))
  · exact Or.inr (Or.inr (Or.inr ⟨a, b, c, t, by omega, e⟩))
theorem GA_cg {G G' : Gt} {v : Nat} (h : GA G v) (hv : G' v = G v) (hl : G v 6 ≠ 6 → G' (vl G v) = G (vl G v)) (hr : G v 6 = 2 → G' (vr G v) = G (vr G v)) (ht : G v 6 = 6 → G' (20 + vt G v) = G (20 + vt G v)) : GA G' v := by
  have gl1 : vl G' v = vl G v := by unfold vl; rw [hv]
  have gr1 : vr G' v = vr G v := by unfold vr; rw [hv]
  have gt1 : vt G' v = vt G v := by unfold vt; rw [hv]
  unfold GA at h ⊢
  rw [gl1, gr1, gt1, hv]
  refine ⟨fun k => ?_, fun k => ?_, fun k => ?_, fun k => ?_⟩
  · rw [ht k]; exact h.1 k
  · rw [hl (ne6_4 k)]; exact h.2.1 k
  · rw [hl (ne6_1 k)]; exact h.2.2.1 k
  · rw [hl (ne6_2 k), hr k]; exact h.2.2.2 k
theorem FT_cg {G G' : Gt} {t : Nat} {l : List Nat} (h : FT G t l) (hv : G' (20 + t) = G (20 + t)) : FT G' t l := by
  unfold FT at h ⊢
  rw [hv]
  exact h
theorem FT_nil {G : Gt} {t : Nat} : FT G t [] := ⟨Nat.zero_le _, Srt_nil, fun r hr => (by cases hr), fun r hr => (by cases hr)⟩
theorem sub_and {x y : Int32} (h : (x &&& (y ^^^ (-1))) = 0) : sub x y := by
  intro j hj hb
  have h1 : bt (x &&& (y ^^^ (-1))) j = false := by rw [h, bt_0 (by omega)]
  rw [bt_and (by omega), bt_not (by omega), hb] at h1
  cases hy : bt y j
  · rw [hy] at h1; simp at h1
  · rfl
theorem bq_63 : ∀ c : Fin 64, ∀ i : Fin 32, bq (nI c.1) i.1 = true → bq 63 i.1 = true := by decide +kernel
theorem in63 {x : Int32} {c : Nat} (hc : c < 64) (h : (x &&& (nI c ^^^ (-1))) = 0) : ∃ j, j < 64 ∧ x = nI j := by
  obtain ⟨j, hj, he⟩ := pk_andE x (m := 63) 6 (by decide)
  refine ⟨j, hj, he ▸ (bq_ext fun i hi => ?_).symm⟩
  rw [bq_and]
  have h1 : bq (x &&& (nI c ^^^ (-1))) i = false := by rw [h, bq_0]
  rw [bq_and, bq_xor, bq_m1 i hi, Bool.xor_true] at h1
  cases hx : bq x i
  · rfl
  · rw [hx] at h1
    have hcb : bq (nI c) i = true := by
      cases hq : bq (nI c) i
      · rw [hq] at h1; simp at h1
      · rfl
    rw [bq_63 ⟨c, hc⟩ ⟨i, hi⟩ hcb]
    rfl