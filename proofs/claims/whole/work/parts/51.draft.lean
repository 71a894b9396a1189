/-! ===== drafts ===== -/
theorem RR.dr {S M S' M' : St} {G : Gt} {nt nv u : Nat} {l : List Nat} (h : RR S G nt nv M) (h1 : ∀ k, k ≠ 0 → k ≠ 44 → S'.1 k = S.1 k) (h2 : ∀ k, k ≠ 0 → S'.2 k = S.2 k) (h3 : ∀ k, k ≠ 0 → k ≠ 21 → k ≠ 22 → k ≠ 23 → M'.1 k = M.1 k) (h4 : ∀ k, k ≠ 17 → k ≠ 18 → k ≠ 24 → M'.2 k = M.2 k) (hD : DD G nv S' M' u l) : RR S' G nt nv M' := by
  obtain ⟨⟨a1, a2, a3, a4, a5⟩, b, ⟨Tb, c, d⟩, e, f⟩ := h
  have n : ∀ k, k ≠ 0 → k ≠ 44 → S'.1 k = S.1 k ∧ S'.2 k = S.2 k := fun k q1 q2 => ⟨h1 k q1 q2, h2 k q1⟩
  refine ⟨⟨(h1 56 (by decide) (by decide)).trans a1, (h1 55 (by decide) (by decide)).trans a2, (h1 42 (by decide) (by decide)).trans a3, (h1 43 (by decide) (by decide)).trans a4, Or.inr ⟨u, hD.1, hD.2.1⟩⟩, b.fr (h3 2 (by decide) (by decide) (by decide) (by decide)) (h3 7 (by decide) (by decide) (by decide) (by decide)) (fun k q _ _ => h4 k (by omega) (by omega) (by omega)), ⟨Tb, c.fr (fun t ht => n _ (by omega) (by have := b.1.1.1.1; omega)) (h4 5 (by decide) (by decide) (by decide)) (h4 6 (by decide) (by decide) (by decide)), d.fr (fun v hv => n _ (by omega) (by have := b.1.1.1.2; omega))⟩, Or.inr ⟨u, l, hD⟩, f.fr (h1 45 (by decide) (by decide)) (fun t ht j hj => n _ (by omega) (by have := b.1.1.1.1; omega)) (h3 32 (by decide) (by decide) (by decide) (by decide)) (h4 33 (by decide) (by decide) (by decide)) (h4 34 (by decide) (by decide) (by decide))⟩
theorem dcap_0 : dcap 0 = 20 := rfl
theorem sm_open : Sm_open RR := by
  intro S G nt nv M x1 h
  have hb := h.b
  unfold d10_open m_open
  rcases ix_n x1 (show nv < 2 ^ 31 by omega) with ho | ⟨u, hu, rfl⟩
  · rw [viewAt_o h.s43 ho, cb_s, oc_o, asksView_o h.m7 (by omega) ho, cb2_s, if_pos z00]
    exact ⟨3, 0, 1, 0, S, _, rfl, rfl, thr_w, Or.inr ⟨rfl, rfl⟩, (fun z => by cases z), h.x0⟩
  · obtain ⟨Tb, hB, hV⟩ := h.tb
    obtain ⟨M1, e1, f1, v1⟩ := (h.x0 (x := 0)).lays (RR.b0 hB)
    have hF := h.fv hB hu
    generalize hL : VV G Tb u = l at *
    have hV1 : Vm M1 18 17 u l := by rw [← hL]; exact v1 u hu
    have hVu : Rw S (22 + 2 * u) l := by rw [← hL]; exact hV u hu
    have hl12 := hF.1
    have hW : Rw (w1 S 44 (nI u)) (22 + 2 * u) l := hVu.fr (w1_ne (by omega)) rfl
    obtain ⟨S1, e2, s1, f2⟩ := takeOver_n (i := 0) hW (by rw [dcap_0]; omega) (by omega)
    rw [viewAt_i h.s43 h.s55 hb.2 hu, cb_s, oc_s, gd_t hu, lt_d, e2, cb_s, size_n s1, cb_s, asksView_i h.m7 (by omega) hu, cb2_s, if_neg z10, e1, cb_s, lt_d, lt_d, rd_n (by omega) (by decide), lt_d]
    have hloop : ∃ M' : St, lp (fun _ _ => none) (fun (g15 : Int32 → St → Option (Int32 × St)) (x13 : Int32) (S14 : St) => if (S14.1 23) ≤ x13 then (some ((S14.1 23), S14)) else (rd ((40 * nI u) + x13) 400 fun (j17 : Nat) => rd x13 20 fun (j19 : Nat) => lt (w2 S14 24 j19 (S14.2 18 j17)) fun (S21 : St) => g15 (x13 + 1) S21)) FU 0 (w1 (w1 (w1 M1 21 1) 22 (nI u)) 23 ((w1 (w1 M1 21 1) 22 (nI u)).2 17 u)) = some (nI l.length, M') ∧ M'.1 = (w1 (w1 (w1 M1 21 1) 22 (nI u)) 23 (nI l.length)).1 ∧ (∀ k, k ≠ 24 → M'.2 k = M1.2 k) ∧ Sg (M'.2 24) 0 l := by
      refine lq2 (Q := fun x => ∃ M' : St, x = some (nI l.length, M') ∧ M'.1 = (w1 (w1 (w1 M1 21 1) 22 (nI u)) 23 (nI l.length)).1 ∧ (∀ k, k ≠ 24 → M'.2 k = M1.2 k) ∧ Sg (M'.2 24) 0 l) (fun d (a : Int32) (T : St) => ∃ k, k + d = l.length ∧ a = nI k ∧ T.1 = (w1 (w1 (w1 M1 21 1) 22 (nI u)) 23 (nI l.length)).1 ∧ (∀ k, k ≠ 24 → T.2 k = M1.2 k) ∧ ∀ j, j < k → T.2 24 j = nI (gl l j)) ?_ _ l.length _ _ (FU_lt (by omega)) ⟨0, by omega, rfl, by rw [show (w1 (w1 M1 21 1) 22 (nI u)).2 17 u = nI l.length from hV1.1], fun _ _ => rfl, fun j hj => by omega⟩
      rintro d a T g ⟨k, hk, rfl, hT1, hT2, hlo⟩ ih
      have hT23 : T.1 23 = nI l.length := by rw [hT1, w1_eq]
      rw [hT23]
      by_cases h0 : d = 0
      · rw [if_pos (nI_le (by omega) (by omega))]
        refine ⟨T, rfl, hT1, hT2, fun j hj => ?_⟩
        rw [Nat.zero_add]
        exact hlo j (by omega)
      · have hkl : k < l.length := by omega
        have e18 : T.2 18 (40 * u + k) = nI (gl l k) := by rw [hT2 18 (by decide)]; exact hV1.2.1 k hkl
        rw [if_neg (nI_ge hkl (by omega)), n40, nI_add, rd_n (by omega) (by decide), rd_n (by omega) (by decide), lt_d, nI_1, e18]
        refine ih (d - 1) _ _ (by omega) ⟨k + 1, by omega, rfl, hT1, fun q hq => (w2_ne hq).trans (hT2 q hq), fun j hj => ?_⟩
        by_cases hjk : j = k
        · rw [hjk, w2_at]
        · rw [w2_nj hjk]
          exact hlo j (by omega)
    obtain ⟨M', e3, m1, m2, m3⟩ := hloop
    rw [e3]
    have hM1 : ∀ k, k ≠ 21 → k ≠ 22 → k ≠ 23 → M'.1 k = M1.1 k := fun k a b c => by rw [m1, w1_ne c, w1_ne b, w1_ne a]
    refine ⟨0, _, 0, _, S1, M', rfl, rfl, ?_, Or.inl ⟨rfl, rfl⟩, fun _ => rfl, h.dr (l := l) (u := u) (fun k a b => by rw [f2.1 k a, w1_ne b]) (fun k a => f2.2 k a) (fun k a b c d => by rw [hM1 k b c d, f1.1, w1_ne a]) (fun k a b c => by rw [m2 k c, f1.2 k a b]; rfl) ⟨hu, by rw [f2.1 44 (by decide), w1_eq], ?_, ?_, s1, ?_, m3, hF.2.1, hF.2.2.1⟩⟩
    · rw [thr_n, hM1 0 (by decide) (by decide) (by decide), f1.1, w1_eq]
    · rw [m1, w1_ne (by decide), w1_ne (by decide), w1_eq]
    · rw [m1, w1_ne (by decide), w1_eq]
    · rw [m1, w1_eq]
theorem seek_n {M : St} {a b N : Nat} {l : List Nat} (h : Sg (M.2 a) b l) (hN : mlen a = N) (hN2 : N ≤ 400) (hc : b + l.length ≤ N) (x : Int32) : (l.any (fun r => decide (nI r = x)) = false ∧ m_placeOf a (nI b) (nI l.length) x M = some (-1)) ∨ ∃ p, p < l.length ∧ nI (gl l p) = x ∧ l.any (fun r => decide (nI r = x)) = true ∧ m_placeOf a (nI b) (nI l.length) x M = some (nI p) := by
  obtain ⟨z, e, ⟨rfl, hz⟩ | ⟨p, hp, rfl, hx⟩⟩ := placeOf_n h hN hN2 hc x
  · refine Or.inl ⟨List.any_eq_false.mpr fun r hr hd => ?_, e⟩
    obtain ⟨j, hj, rfl⟩ := mem_gl hr
    exact hz j hj (of_decide_eq_true hd)
  · exact Or.inr ⟨p, hp, hx, List.any_eq_true.mpr ⟨gl l p, gl_mem hp, decide_eq_true hx⟩, e⟩
theorem seek0 {M : St} {l : List Nat} (h : Sg (M.2 24) 0 l) (hl : l.length ≤ 20) (x : Int32) : (l.any (fun r => decide (nI r = x)) = false ∧ m_placeOf 24 0 (nI l.length) x M = some (-1)) ∨ ∃ p, p < l.length ∧ nI (gl l p) = x ∧ l.any (fun r => decide (nI r = x)) = true ∧ m_placeOf 24 0 (nI l.length) x M = some (nI p) := seek_n (N := 20) (b := 0) h rfl (by decide) (by omega) x
theorem lays0 {M : St} {r : Nat} {l : List Nat} (h : Sg (M.2 24) 0 l) (hok : okL l) (hr : r < 1000000) (hc : l.length ≤ 20) (hc2 : r ∈ l ∨ l.length < 20) : ∃ M', m_lays 24 0 (nI l.length) (nI r) M = some (nI (insR r l).length, M') ∧ Sg (M'.2 24) 0 (insR r l) ∧ FrM 24 0 (insR r l).length M M' := lays_n (N := 20) (b := 0) h hok rfl (by decide) hr (by omega) (hc2.imp id (by omega))
theorem takes0 {M : St} {p : Nat} {l : List Nat} (h : Sg (M.2 24) 0 l) (hc : l.length ≤ 20) (hp : p < l.length) : ∃ M', m_takes 24 0 (nI l.length) (nI p) M = some (nI (l.length - 1), M') ∧ Sg (M'.2 24) 0 (l.eraseIdx p) ∧ FrM 24 0 l.length M M' := takes_n (N := 20) (b := 0) h rfl (by decide) (by omega) hp
theorem isRow_n {M : St} (hP : PW M) (x s : Int32) : (d1_isRow x s = some 0 ∧ m_isRow x s M = some 0) ∨ ∃ r, r < 1000000 ∧ x = nI r ∧ pt s r = r ∧ d1_isRow x s = some 1 ∧ m_isRow x s M = some 1 := by
  unfold d1_isRow m_isRow m_in
  by_cases h0 : x < 0
  · rw [if_pos h0, if_pos h0]
    exact Or.inl ⟨rfl, rfl⟩
  · rw [if_neg h0, if_neg h0]
    by_cases h9 : (999999 : Int32) < x
    · rw [if_pos h9, if_pos h9]
      exact Or.inl ⟨rfl, rfl⟩
    · rw [if_neg h9, if_neg h9]
      obtain ⟨r, hr, rfl⟩ := nI_of h0
      have hr9 : r ≤ 999999 := by
        rcases Nat.lt_or_ge 999999 r with z | z
        · exact absurd (nI_lt z hr) h9
        · exact z
      rw [part_n hr, cb_s, cb_s, if_neg z10, mpart_n hP hr, cb_s]
      by_cases he : pt s r = r
      · rw [if_pos (by rw [he])]
        exact Or.inr ⟨r, by omega, rfl, he, rfl, rfl⟩
      · rw [if_neg (fun z => he ((nI_eq (Nat.lt_of_lt_of_le (pt_lt s r) (by decide)) hr).mp z))]
        exact Or.inl ⟨rfl, rfl⟩
theorem oid_m1 : oid (-1) = none := rfl
