/-! ===== join ===== -/
theorem sm_join : Sm_join RR := by
  intro S G nt nv M x1 x2 h
  have hb := h.b
  have hk6 : ∀ (hm : m_isView x1 M = some 0 ∨ (m_isView x1 M = some 1 ∧ m_isView x2 M = some 0)), m_join x1 x2 M = some (0, w1 M 0 1) := by
    intro hm
    have hk : (lt (w1 M 0 1) fun (S7 : St) => jn (fun (S8 : St) => if (S8.1 0) ≤ 0 then (rd (S8.1 7) 10 fun (j11 : Nat) => lt (w2 S8 10 j11 x2) fun (S13 : St) => rd x1 10 fun (j14 : Nat) => rd x2 10 fun (j16 : Nat) => rd x1 10 fun (j18 : Nat) => rd x1 10 fun (j20 : Nat) => rd x2 10 fun (j22 : Nat) => cb2 (m_makes 3 x1 ((S13.2 14 j14) ||| (S13.2 14 j16)) (S13.2 15 j18) ((S13.2 16 j20) ||| (S13.2 16 j22)) S13) fun (z24 : Int32) (S25 : St) => some (z24, S25)) else (some (0, S8))) fun k9 => if (S7.1 0) = 0 then (rd x1 10 fun (j27 : Nat) => rd x2 10 fun (j29 : Nat) => jn (fun (x31 : Int32) => if x31 = 0 then (lt (w1 S7 0 2) fun (S37 : St) => k9 S37) else (if (S7.1 7) = 10 then (lt (w1 S7 0 3) fun (S36 : St) => k9 S36) else (lt (w1 S7 0 0) fun (S35 : St) => k9 S35))) fun k32 => if ((S7.2 16 j27) &&& (S7.2 16 j29)) = 0 then (rd x2 10 fun (j39 : Nat) => rd x1 10 fun (j41 : Nat) => if ((S7.2 15 j39) &&& ((S7.2 14 j41) ^^^ (-1))) = 0 then (k32 1) else (k32 0)) else (k32 0)) else (k9 S7)) = some (0, w1 M 0 1) := by
      rw [lt_d, jn_d, w1_eq, if_neg z10]
      dsimp only
      rw [w1_eq, if_neg z1l]
    unfold m_join
    rcases hm with hm | ⟨hm1, hm2⟩
    · rw [hm, cb_s, jn_d, if_pos z00]
      exact hk
    · rw [hm1, cb_s, jn_d, if_neg z10, hm2, cb_s, if_pos z00]
      exact hk
  have e3 : ∀ (hc : d10_join G nt nv x1 x2 S = some (3, 0, S, G, nt, nv)) (hm : m_join x1 x2 M = some (0, w1 M 0 1)), ∃ (e0 : Nat) (r k r2 : Int32) (S' M' : St) (G' : Gt) (nt' nv' : Nat), d10_join G nt nv x1 x2 S = some (e0, r, S', G', nt', nv') ∧ m_join x1 x2 M = some (r2, M') ∧ m_thrown M' = some k ∧ ((e0 = 0 ∧ k = 0) ∨ (e0 = 3 ∧ k = 1) ∨ (e0 = 1 ∧ k = 2) ∨ (e0 = 2 ∧ k = 3)) ∧ (e0 = 0 → r = r2) ∧ RR S' G' nt' nv' M' := fun hc hm => ⟨3, 0, 1, 0, S, _, G, nt, nv, hc, hm, thr_w, Or.inr (Or.inl ⟨rfl, rfl⟩), (fun z => by cases z), h.x0⟩
  rcases ix_n x1 (show nv < 2 ^ 31 by omega) with ho | ⟨u, hu, rfl⟩
  · refine e3 ?_ (hk6 (Or.inl (isView_o h.m7 (by omega) ho)))
    unfold d10_join
    rw [viewAt_o h.s43 ho, cb_s]
    rcases ix_n x2 (show nv < 2 ^ 31 by omega) with ho2 | ⟨w, hw, rfl⟩
    · rw [viewAt_o h.s43 ho2, cb_s, oc_o]
    · rw [viewAt_i h.s43 h.s55 hb.2 hw, cb_s, oc_o]
  have hat : d10_viewAt (nI u) S = some (some u) := viewAt_i h.s43 h.s55 hb.2 hu
  have hit : m_isView (nI u) M = some 1 := isView_i h.m7 (by omega) hu
  rcases ix_n x2 (show nv < 2 ^ 31 by omega) with ho | ⟨w, hw, rfl⟩
  · refine e3 ?_ (hk6 (Or.inr ⟨hit, isView_o h.m7 (by omega) ho⟩))
    unfold d10_join
    rw [hat, cb_s, viewAt_o h.s43 ho, cb_s, oc_s, gd_t hu, oc_o]
  have hat2 : d10_viewAt (nI w) S = some (some w) := viewAt_i h.s43 h.s55 hb.2 hw
  have hit2 : m_isView (nI w) M = some 1 := isView_i h.m7 (by omega) hw
  obtain ⟨⟨g14, g15, g16, -⟩, g0, gm⟩ := h.2.1.2.2.2.2.1 u hu
  obtain ⟨⟨w14, w15, w16, -⟩, w0, wm⟩ := h.2.1.2.2.2.2.1 w hw
  have hcd : d10_join G nt nv (nI u) (nI w) S = if ((G u 3) &&& (G w 3)) = 0 then (if ((G w 2) &&& ((G u 1) ^^^ (-1))) = 0 then (if nI nv < 10 then (gd (nv < 10) <| cb2 (d10_keepView (nVG G nv (gL [nI nv, (G u 1 ||| G w 1), (G u 2), (G u 3 ||| G w 3), nI u, nI w, 2, 0, 0, 0, (G u 1 &&& G w 1)])) nt (nv + 1) nv (nVS S nv)) fun (z9 : Int32) (S9 : St) => some (0, z9, S9, (nVG G nv (gL [nI nv, (G u 1 ||| G w 1), (G u 2), (G u 3 ||| G w 3), nI u, nI w, 2, 0, 0, 0, (G u 1 &&& G w 1)])), nt, nv + 1)) else (some (2, 0, S, G, nt, nv))) else (some (1, 0, S, G, nt, nv))) else (some (1, 0, S, G, nt, nv)) := by
    unfold d10_join
    rw [hat, cb_s, hat2, cb_s, oc_s, gd_t hu, oc_s, gd_t hw, h.s43]
  have e7 : (w1 M 0 0).1 7 = nI nv := (w1_ne (by decide)).trans h.m7
  have hmd : m_join (nI u) (nI w) M = (fun (k9 : St → Option (Int32 × St)) => (fun (k32 : Int32 → Option (Int32 × St)) => if ((G u 3) &&& (G w 3)) = 0 then (if ((G w 2) &&& ((G u 1) ^^^ (-1))) = 0 then (k32 1) else (k32 0)) else (k32 0)) (fun (x31 : Int32) => if x31 = 0 then (lt (w1 (w1 M 0 0) 0 2) fun (S37 : St) => k9 S37) else (if nI nv = 10 then (lt (w1 (w1 M 0 0) 0 3) fun (S36 : St) => k9 S36) else (lt (w1 (w1 M 0 0) 0 0) fun (S35 : St) => k9 S35)))) (fun (S8 : St) => if (S8.1 0) ≤ 0 then (rd (S8.1 7) 10 fun (j11 : Nat) => lt (w2 S8 10 j11 (nI w)) fun (S13 : St) => rd (nI u) 10 fun (j14 : Nat) => rd (nI w) 10 fun (j16 : Nat) => rd (nI u) 10 fun (j18 : Nat) => rd (nI u) 10 fun (j20 : Nat) => rd (nI w) 10 fun (j22 : Nat) => cb2 (m_makes 3 (nI u) ((S13.2 14 j14) ||| (S13.2 14 j16)) (S13.2 15 j18) ((S13.2 16 j20) ||| (S13.2 16 j22)) S13) fun (z24 : Int32) (S25 : St) => some (z24, S25)) else (some (0, S8))) := by
    unfold m_join
    rw [hit, cb_s, jn_d, if_neg z10, hit2, cb_s, if_neg z10]
    dsimp only
    rw [lt_d, jn_d, w1_eq, if_pos z00, rd_n (by omega) (by decide), rd_n (by omega) (by decide), jn_d, show (w1 M 0 0).2 16 u = G u 3 from g16, show (w1 M 0 0).2 16 w = G w 3 from w16, e7]
    dsimp only
    by_cases hq : ((G u 3) &&& (G w 3)) = 0
    · rw [if_pos hq, if_pos hq]
      rw [rd_n (show w < 10 by omega) (by decide), rd_n (show u < 10 by omega) (by decide), show (w1 M 0 0).2 15 w = G w 2 from w15, show (w1 M 0 0).2 14 u = G u 1 from g14]
    · rw [if_neg hq, if_neg hq]
  dsimp only at hmd
  have hb2 : ∀ (x : Int32), ¬ x ≤ 0 → (lt (w1 (w1 M 0 0) 0 x) fun (S8 : St) => if (S8.1 0) ≤ 0 then (rd (S8.1 7) 10 fun (j11 : Nat) => lt (w2 S8 10 j11 (nI w)) fun (S13 : St) => rd (nI u) 10 fun (j14 : Nat) => rd (nI w) 10 fun (j16 : Nat) => rd (nI u) 10 fun (j18 : Nat) => rd (nI u) 10 fun (j20 : Nat) => rd (nI w) 10 fun (j22 : Nat) => cb2 (m_makes 3 (nI u) ((S13.2 14 j14) ||| (S13.2 14 j16)) (S13.2 15 j18) ((S13.2 16 j20) ||| (S13.2 16 j22)) S13) fun (z24 : Int32) (S25 : St) => some (z24, S25)) else (some (0, S8))) = some (0, w1 (w1 M 0 0) 0 x) := by
    intro x hx
    rw [lt_d, w1_eq, if_neg hx]
  by_cases hq' : ¬ ((G u 3) &&& (G w 3)) = 0
  · rw [if_neg hq'] at hcd hmd
    rw [if_pos z00, hb2 2 z2l] at hmd
    exact ⟨1, 0, 2, 0, S, _, G, nt, nv, hcd, hmd, thr_w, Or.inr (Or.inr (Or.inl ⟨rfl, rfl⟩)), (fun z => by cases z), h.x0.x0⟩
  have hq := Decidable.not_not.mp hq'
  rw [if_pos hq] at hcd hmd
  by_cases hp' : ¬ ((G w 2) &&& ((G u 1) ^^^ (-1))) = 0
  · rw [if_neg hp'] at hcd hmd
    rw [if_pos z00, hb2 2 z2l] at hmd
    exact ⟨1, 0, 2, 0, S, _, G, nt, nv, hcd, hmd, thr_w, Or.inr (Or.inr (Or.inl ⟨rfl, rfl⟩)), (fun z => by cases z), h.x0.x0⟩
  have hp := Decidable.not_not.mp hp'
  rw [if_pos hp] at hcd hmd
  rw [if_neg z10] at hmd
  by_cases h10 : nv = 10
  · subst h10
    rw [if_neg h10f.1] at hcd
    rw [if_pos h10f.2, hb2 3 z3l] at hmd
    exact ⟨2, 0, 3, 0, S, _, G, nt, 10, hcd, hmd, thr_w, Or.inr (Or.inr (Or.inr ⟨rfl, rfl⟩)), (fun z => by cases z), h.x0.x0⟩
  have hnv : nv < 10 := by omega
  have e7' : (w1 (w1 M 0 0) 0 0).1 7 = nI nv := (w1_ne (by decide)).trans e7
  obtain ⟨M', e1, e2, e3, e4, e5, e6, e8, e9, e10⟩ := makes_n (M := w2 (w1 (w1 M 0 0) 0 0) 10 nv (nI w)) (a := 3) (b := nI u) (c := G u 1 ||| G w 1) (d := G u 2) (e := G u 3 ||| G w 3) e7' hnv
  have q14 : (w2 (w1 (w1 M 0 0) 0 0) 10 nv (nI w)).2 14 u = G u 1 := by rw [w2_ne (by decide)]; exact g14
  have q15 : (w2 (w1 (w1 M 0 0) 0 0) 10 nv (nI w)).2 15 u = G u 2 := by rw [w2_ne (by decide)]; exact g15
  have q16 : (w2 (w1 (w1 M 0 0) 0 0) 10 nv (nI w)).2 16 u = G u 3 := by rw [w2_ne (by decide)]; exact g16
  have r14 : (w2 (w1 (w1 M 0 0) 0 0) 10 nv (nI w)).2 14 w = G w 1 := by rw [w2_ne (by decide)]; exact w14
  have r16 : (w2 (w1 (w1 M 0 0) 0 0) 10 nv (nI w)).2 16 w = G w 3 := by rw [w2_ne (by decide)]; exact w16
  rw [if_neg (h10n hnv).2, lt_d, w1_eq, if_pos z0l, e7', rd_n hnv (by decide), lt_d, rd_n (show u < 10 by omega) (by decide), rd_n (show w < 10 by omega) (by decide), rd_n (show u < 10 by omega) (by decide), rd_n (show u < 10 by omega) (by decide), rd_n (show w < 10 by omega) (by decide), q14, q15, q16, r14, r16, e1, cb2_s] at hmd
  rw [if_pos (h10n hnv).1, gd_t hnv] at hcd
  generalize hg : gL [nI nv, (G u 1 ||| G w 1), (G u 2), (G u 3 ||| G w 3), nI u, nI w, 2, 0, 0, 0, (G u 1 &&& G w 1)] = g at hcd
  have hgs : nVG G nv g nv = g := nVG_s
  have a0 : g 0 = nI nv := by rw [← hg]; rfl
  have a1 : g 1 = (G u 1 ||| G w 1) := by rw [← hg]; rfl
  have a2 : g 2 = G u 2 := by rw [← hg]; rfl
  have a3 : g 3 = (G u 3 ||| G w 3) := by rw [← hg]; rfl
  have a4 : g 4 = nI u := by rw [← hg]; rfl
  have a5 : g 5 = nI w := by rw [← hg]; rfl
  have a6 : g 6 = 2 := by rw [← hg]; rfl
  have a10 : g 10 = (G u 1 &&& G w 1) := by rw [← hg]; rfl
  have hvl : vl (nVG G nv g) nv = u := by
    unfold vl
    rw [hgs, a4]
    exact nI_clamp (by omega)
  have hvr : vr (nVG G nv g) nv = w := by
    unfold vr
    rw [hgs, a5]
    exact nI_clamp (by omega)
  have hu' : nVG G nv g u = G u := nVG_n (by omega)
  have hw' : nVG G nv g w = G w := nVG_n (by omega)
  obtain ⟨S', k1, k2⟩ := h.nv (M' := M') (g := g) hnv
    (by
      unfold WV
      rw [hgs]
      exact Or.inr (Or.inl ⟨a6, ⟨u, hu, a4⟩, w, hw, a5⟩))
    (by
      unfold GA
      rw [hvl, hvr, hgs, hu', hw', a6]
      exact ⟨fun z => absurd z (by decide), fun z => absurd z (by decide), fun z => absurd z (by decide), fun _ => ⟨a1, a2, a3, a10, hq, sub_and hp⟩⟩)
    (by
      rw [a1, a2]
      intro j hj hbj
      rw [bt_or (by omega), h.2.1.1.2.2 u hu j hj hbj]
      rfl) a0
    (by
      rw [a3]
      intro c hc hbc
      rw [bt_or hc] at hbc
      cases z : bt (G u 3) c
      · rw [z, Bool.false_or] at hbc
        exact wm c hc hbc
      · exact gm c hc z)
    (by
      unfold KM
      rw [hgs, a1, a2, a3, a4, a5, a6]
      refine ⟨e8, e9, e10, Or.inr (Or.inr (Or.inr ⟨rfl, e5, e6, ?_⟩))⟩
      rw [e4 10 nv (Or.inl (by decide)), w2_at])
    (fun k p q => by rw [e2 k q, w2_1, w1_ne p, w1_ne p]) e3 (fun k t p => by
      rw [e4 k t (p.imp (by omega) id), w2_k (p.imp (by omega) id)]
      rfl)
  rw [k1, cb2_s] at hcd
  exact ⟨0, _, 0, _, S', M', _, _, _, hcd, hmd, by rw [thr_n, e2 0 (by decide), w2_1, w1_eq], Or.inl ⟨rfl, rfl⟩, fun _ => rfl, k2⟩
