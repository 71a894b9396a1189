/-! ===== select, drop, join ===== -/
theorem w2_k {M : St} {q nv k t : Nat} {x : Int32} (h : k ≠ q ∨ t ≠ nv) : (w2 M q nv x).2 k t = M.2 k t := by
  rcases h with h | h
  · rw [w2_ne h]
  · by_cases hk : k = q
    · subst hk; exact w2_nj h
    · rw [w2_ne hk]
theorem sm_select : Sm_select RR := by
  intro S G nt nv M x1 x2 x3 x4 h hx4
  have hb := h.b
  rcases ix_n x1 (show nv < 2 ^ 31 by omega) with ho | ⟨u, hu, rfl⟩
  · have hc : d10_select G nt nv x1 x2 x3 x4 S = some (3, 0, S, G, nt, nv) := by
      unfold d10_select
      rw [viewAt_o h.s43 ho, cb_s, oc_o]
    have hm : m_select x1 x2 x3 x4 M = some (0, w1 M 0 1) := by
      unfold m_select
      rw [isView_o h.m7 (by omega) ho, cb_s, jn_d, if_pos z00]
      dsimp only
      rw [lt_d, w1_eq, if_neg z1l]
    exact ⟨3, 0, 1, 0, S, _, G, nt, nv, hc, hm, thr_w, Or.inr (Or.inl ⟨rfl, rfl⟩), (fun z => by cases z), h.x0⟩
  have hat : d10_viewAt (nI u) S = some (some u) := viewAt_i h.s43 h.s55 hb.2 hu
  have hit : m_isView (nI u) M = some 1 := isView_i h.m7 (by omega) hu
  obtain ⟨⟨g14, g15, g16, -⟩, g0, gm⟩ := h.2.1.2.2.2.2.1 u hu
  rcases isCol_n x2 (G u 1) with ⟨c1, m1⟩ | ⟨c, hc6, rfl, hbt, c1, m1⟩
  · have hc : d10_select G nt nv (nI u) x2 x3 x4 S = some (1, 0, S, G, nt, nv) := by
      unfold d10_select
      rw [hat, cb_s, oc_s, gd_t hu, c1, cb_s, if_pos z00]
    have hm : m_select (nI u) x2 x3 x4 M = some (0, w1 M 0 2) := by
      unfold m_select
      rw [hit, cb_s, jn_d, if_neg z10, rd_n (by omega) (by decide), g14, m1, cb_s, if_pos z00]
      dsimp only
      rw [lt_d, w1_eq, if_neg z2l]
    exact ⟨1, 0, 2, 0, S, _, G, nt, nv, hc, hm, thr_w, Or.inr (Or.inr (Or.inl ⟨rfl, rfl⟩)), (fun z => by cases z), h.x0⟩
  rcases isVal_n x3 with ⟨c2, m2⟩ | ⟨w, hw, rfl, c2, m2⟩
  · have hc : d10_select G nt nv (nI u) (nI c) x3 x4 S = some (1, 0, S, G, nt, nv) := by
      unfold d10_select
      rw [hat, cb_s, oc_s, gd_t hu, c1, cb_s, if_neg z10, c2, cb_s, if_pos z00]
    have hm : m_select (nI u) (nI c) x3 x4 M = some (0, w1 M 0 2) := by
      unfold m_select
      rw [hit, cb_s, jn_d, if_neg z10, rd_n (by omega) (by decide), g14, m1, cb_s, if_neg z10, m2, cb_s, if_pos z00]
      dsimp only
      rw [lt_d, w1_eq, if_neg z2l]
    exact ⟨1, 0, 2, 0, S, _, G, nt, nv, hc, hm, thr_w, Or.inr (Or.inr (Or.inl ⟨rfl, rfl⟩)), (fun z => by cases z), h.x0⟩
  by_cases h10 : nv = 10
  · subst h10
    have hc : d10_select G nt 10 (nI u) (nI c) (nI w) x4 S = some (2, 0, S, G, nt, 10) := by
      unfold d10_select
      rw [hat, cb_s, oc_s, gd_t hu, c1, cb_s, if_neg z10, c2, cb_s, if_neg z10, h.s43, if_neg h10f.1]
    have hm : m_select (nI u) (nI c) (nI w) x4 M = some (0, w1 M 0 3) := by
      unfold m_select
      rw [hit, cb_s, jn_d, if_neg z10, rd_n (by omega) (by decide), g14, m1, cb_s, if_neg z10, m2, cb_s, if_neg z10, h.m7, if_pos h10f.2]
      dsimp only
      rw [lt_d, w1_eq, if_neg z3l]
    exact ⟨2, 0, 3, 0, S, _, G, nt, 10, hc, hm, thr_w, Or.inr (Or.inr (Or.inr ⟨rfl, rfl⟩)), (fun z => by cases z), h.x0⟩
  have hnv : nv < 10 := by omega
  have e7 : (w1 M 0 0).1 7 = nI nv := (w1_ne (by decide)).trans h.m7
  obtain ⟨M', e1, e2, e3, e4, e5, e6, e8, e9, e10⟩ := makes_n (M := w2 (w2 (w2 (w1 M 0 0) 11 nv (nI c)) 12 nv (nI w)) 13 nv x4) (a := 1) (b := nI u) (c := G u 1) (d := G u 2) (e := G u 3) e7 hnv
  have q14 : (w2 (w2 (w2 (w1 M 0 0) 11 nv (nI c)) 12 nv (nI w)) 13 nv x4).2 14 u = G u 1 := by rw [w2_ne (by decide), w2_ne (by decide), w2_ne (by decide)]; exact g14
  have q15 : (w2 (w2 (w2 (w1 M 0 0) 11 nv (nI c)) 12 nv (nI w)) 13 nv x4).2 15 u = G u 2 := by rw [w2_ne (by decide), w2_ne (by decide), w2_ne (by decide)]; exact g15
  have q16 : (w2 (w2 (w2 (w1 M 0 0) 11 nv (nI c)) 12 nv (nI w)) 13 nv x4).2 16 u = G u 3 := by rw [w2_ne (by decide), w2_ne (by decide), w2_ne (by decide)]; exact g16
  have hm : m_select (nI u) (nI c) (nI w) x4 M = some (nI nv, M') := by
    unfold m_select
    rw [hit, cb_s, jn_d, if_neg z10, rd_n (by omega) (by decide), g14, m1, cb_s, if_neg z10, m2, cb_s, if_neg z10, h.m7, if_neg (h10n hnv).2]
    dsimp only
    rw [lt_d, w1_eq, if_pos z0l, e7, rd_n hnv (by decide), lt_d, w2_1, e7, rd_n hnv (by decide), lt_d, w2_1, w2_1, e7, rd_n hnv (by decide), gd_t hx4, lt_d, rd_n (by omega) (by decide), rd_n (by omega) (by decide), rd_n (by omega) (by decide), q14, q15, q16, e1, cb2_s]
  generalize hg : gL [nI nv, (G u 1), (G u 2), (G u 3), nI u, -1, 4, nI c, nI w, x4] = g
  have hgs : nVG G nv g nv = g := nVG_s
  have a0 : g 0 = nI nv := by rw [← hg]; rfl
  have a1 : g 1 = G u 1 := by rw [← hg]; rfl
  have a2 : g 2 = G u 2 := by rw [← hg]; rfl
  have a3 : g 3 = G u 3 := by rw [← hg]; rfl
  have a4 : g 4 = nI u := by rw [← hg]; rfl
  have a5 : g 5 = -1 := by rw [← hg]; rfl
  have a6 : g 6 = 4 := by rw [← hg]; rfl
  have a7 : g 7 = nI c := by rw [← hg]; rfl
  have a8 : g 8 = nI w := by rw [← hg]; rfl
  have a9 : g 9 = x4 := by rw [← hg]; rfl
  have hvl : vl (nVG G nv g) nv = u := by
    unfold vl
    rw [hgs, a4]
    exact nI_clamp (by omega)
  have hu' : nVG G nv g u = G u := nVG_n (by omega)
  obtain ⟨S', k1, k2⟩ := h.nv (M' := M') (g := g) hnv
    (by
      unfold WV
      rw [hgs]
      exact Or.inr (Or.inr (Or.inl ⟨a6, ⟨u, hu, a4⟩, a5⟩)))
    (by
      unfold GA
      rw [hvl, hgs, hu', a6]
      exact ⟨fun z => absurd z (by decide), fun _ => ⟨a1, a2, a3, ⟨c, hc6, a7, hbt⟩, ⟨w, hw, a8⟩, by rw [a9]; exact hx4⟩, fun z => absurd z (by decide), fun z => absurd z (by decide)⟩)
    (by rw [a1, a2]; exact h.2.1.1.2.2 u hu) a0
    (by rw [a3]; exact gm)
    (by
      unfold KM
      rw [hgs, a1, a2, a3, a4, a6, a7, a8, a9]
      refine ⟨e8, e9, e10, Or.inr (Or.inl ⟨rfl, e5, e6, ?_, ?_, ?_⟩)⟩
      · rw [e4 11 nv (Or.inl (by decide)), w2_ne (by decide), w2_ne (by decide), w2_at]
      · rw [e4 12 nv (Or.inl (by decide)), w2_ne (by decide), w2_at]
      · rw [e4 13 nv (Or.inl (by decide)), w2_at])
    (fun k p q => (e2 k q).trans (w1_ne p)) e3 (fun k t p => by
      rw [e4 k t (p.imp (by omega) id), w2_k (p.imp (by omega) id), w2_k (p.imp (by omega) id), w2_k (p.imp (by omega) id)]
      rfl)
  have hc : d10_select G nt nv (nI u) (nI c) (nI w) x4 S = some (0, nI nv, S', nVG G nv g, nt, nv + 1) := by
    unfold d10_select
    rw [hat, cb_s, oc_s, gd_t hu, c1, cb_s, if_neg z10, c2, cb_s, if_neg z10, h.s43, if_pos (h10n hnv).1, gd_t hnv, hg, k1, cb2_s]
  exact ⟨0, _, 0, _, S', M', _, _, _, hc, hm, by rw [thr_n, e2 0 (by decide), w2_1, w2_1, w2_1, w1_eq], Or.inl ⟨rfl, rfl⟩, fun _ => rfl, k2⟩
theorem sm_drop : Sm_drop RR := by
  intro S G nt nv M x1 x2 x3 h
  have hb := h.b
  rcases ix_n x1 (show nv < 2 ^ 31 by omega) with ho | ⟨u, hu, rfl⟩
  · have hc : d10_drop G nt nv x1 x2 x3 S = some (3, 0, S, G, nt, nv) := by
      unfold d10_drop
      rw [viewAt_o h.s43 ho, cb_s, oc_o]
    have hm : m_drop x1 x2 x3 M = some (0, w1 M 0 1) := by
      unfold m_drop
      rw [isView_o h.m7 (by omega) ho, cb_s, jn_d, if_pos z00]
      dsimp only
      rw [lt_d, w1_eq, if_neg z1l]
    exact ⟨3, 0, 1, 0, S, _, G, nt, nv, hc, hm, thr_w, Or.inr (Or.inl ⟨rfl, rfl⟩), (fun z => by cases z), h.x0⟩
  have hat : d10_viewAt (nI u) S = some (some u) := viewAt_i h.s43 h.s55 hb.2 hu
  have hit : m_isView (nI u) M = some 1 := isView_i h.m7 (by omega) hu
  obtain ⟨⟨g14, g15, g16, -⟩, g0, gm⟩ := h.2.1.2.2.2.2.1 u hu
  rcases isCol_n x2 (G u 1 &&& (G u 2 ^^^ (-1))) with ⟨c1, m1⟩ | ⟨c, hc6, rfl, hbt, c1, m1⟩
  · have hc : d10_drop G nt nv (nI u) x2 x3 S = some (1, 0, S, G, nt, nv) := by
      unfold d10_drop
      rw [hat, cb_s, oc_s, gd_t hu, c1, cb_s, if_pos z00]
    have hm : m_drop (nI u) x2 x3 M = some (0, w1 M 0 2) := by
      unfold m_drop
      rw [hit, cb_s, jn_d, if_neg z10, rd_n (by omega) (by decide), rd_n (by omega) (by decide), g14, g15, m1, cb_s, if_pos z00]
      dsimp only
      rw [lt_d, w1_eq, if_neg z2l]
    exact ⟨1, 0, 2, 0, S, _, G, nt, nv, hc, hm, thr_w, Or.inr (Or.inr (Or.inl ⟨rfl, rfl⟩)), (fun z => by cases z), h.x0⟩
  rcases isVal_n x3 with ⟨c2, m2⟩ | ⟨w, hw, rfl, c2, m2⟩
  · have hc : d10_drop G nt nv (nI u) (nI c) x3 S = some (1, 0, S, G, nt, nv) := by
      unfold d10_drop
      rw [hat, cb_s, oc_s, gd_t hu, c1, cb_s, if_neg z10, c2, cb_s, if_pos z00]
    have hm : m_drop (nI u) (nI c) x3 M = some (0, w1 M 0 2) := by
      unfold m_drop
      rw [hit, cb_s, jn_d, if_neg z10, rd_n (by omega) (by decide), rd_n (by omega) (by decide), g14, g15, m1, cb_s, if_neg z10, m2, cb_s, if_pos z00]
      dsimp only
      rw [lt_d, w1_eq, if_neg z2l]
    exact ⟨1, 0, 2, 0, S, _, G, nt, nv, hc, hm, thr_w, Or.inr (Or.inr (Or.inl ⟨rfl, rfl⟩)), (fun z => by cases z), h.x0⟩
  by_cases h10 : nv = 10
  · subst h10
    have hc : d10_drop G nt 10 (nI u) (nI c) (nI w) S = some (2, 0, S, G, nt, 10) := by
      unfold d10_drop
      rw [hat, cb_s, oc_s, gd_t hu, c1, cb_s, if_neg z10, c2, cb_s, if_neg z10, h.s43, if_neg h10f.1]
    have hm : m_drop (nI u) (nI c) (nI w) M = some (0, w1 M 0 3) := by
      unfold m_drop
      rw [hit, cb_s, jn_d, if_neg z10, rd_n (by omega) (by decide), rd_n (by omega) (by decide), g14, g15, m1, cb_s, if_neg z10, m2, cb_s, if_neg z10, h.m7, if_pos h10f.2]
      dsimp only
      rw [lt_d, w1_eq, if_neg z3l]
    exact ⟨2, 0, 3, 0, S, _, G, nt, 10, hc, hm, thr_w, Or.inr (Or.inr (Or.inr ⟨rfl, rfl⟩)), (fun z => by cases z), h.x0⟩
  have hnv : nv < 10 := by omega
  have e7 : (w1 M 0 0).1 7 = nI nv := (w1_ne (by decide)).trans h.m7
  obtain ⟨M', e1, e2, e3, e4, e5, e6, e8, e9, e10⟩ := makes_n (M := w2 (w2 (w1 M 0 0) 11 nv (nI c)) 12 nv (nI w)) (a := 2) (b := nI u) (c := G u 1 &&& ((1 <<< (nI c &&& 31)) ^^^ (-1))) (d := G u 2) (e := G u 3) e7 hnv
  have q14 : (w2 (w2 (w1 M 0 0) 11 nv (nI c)) 12 nv (nI w)).2 14 u = G u 1 := by rw [w2_ne (by decide), w2_ne (by decide)]; exact g14
  have q15 : (w2 (w2 (w1 M 0 0) 11 nv (nI c)) 12 nv (nI w)).2 15 u = G u 2 := by rw [w2_ne (by decide), w2_ne (by decide)]; exact g15
  have q16 : (w2 (w2 (w1 M 0 0) 11 nv (nI c)) 12 nv (nI w)).2 16 u = G u 3 := by rw [w2_ne (by decide), w2_ne (by decide)]; exact g16
  have hm : m_drop (nI u) (nI c) (nI w) M = some (nI nv, M') := by
    unfold m_drop
    rw [hit, cb_s, jn_d, if_neg z10, rd_n (by omega) (by decide), rd_n (by omega) (by decide), g14, g15, m1, cb_s, if_neg z10, m2, cb_s, if_neg z10, h.m7, if_neg (h10n hnv).2]
    dsimp only
    rw [lt_d, w1_eq, if_pos z0l, e7, rd_n hnv (by decide), lt_d, w2_1, e7, rd_n hnv (by decide), lt_d, rd_n (by omega) (by decide), rd_n (by omega) (by decide), rd_n (by omega) (by decide), q14, q15, q16, e1, cb2_s]
  generalize hg : gL [nI nv, (G u 1 &&& ((1 <<< (nI c &&& 31)) ^^^ (-1))), (G u 2), (G u 3), nI u, -1, 1, nI c, nI w] = g
  have hgs : nVG G nv g nv = g := nVG_s
  have a0 : g 0 = nI nv := by rw [← hg]; rfl
  have a1 : g 1 = (G u 1 &&& ((1 <<< (nI c &&& 31)) ^^^ (-1))) := by rw [← hg]; rfl
  have a2 : g 2 = G u 2 := by rw [← hg]; rfl
  have a3 : g 3 = G u 3 := by rw [← hg]; rfl
  have a4 : g 4 = nI u := by rw [← hg]; rfl
  have a5 : g 5 = -1 := by rw [← hg]; rfl
  have a6 : g 6 = 1 := by rw [← hg]; rfl
  have a7 : g 7 = nI c := by rw [← hg]; rfl
  have a8 : g 8 = nI w := by rw [← hg]; rfl
  have hvl : vl (nVG G nv g) nv = u := by
    unfold vl
    rw [hgs, a4]
    exact nI_clamp (by omega)
  have hu' : nVG G nv g u = G u := nVG_n (by omega)
  rw [bt_and (by omega), bt_not (by omega)] at hbt
  have hb1 : bt (G u 1) c = true := by
    cases z : bt (G u 1) c
    · rw [z] at hbt; simp at hbt
    · rfl
  have hb2 : bt (G u 2) c = false := by
    cases z : bt (G u 2) c
    · rfl
    · rw [z] at hbt; simp at hbt
  obtain ⟨S', k1, k2⟩ := h.nv (M' := M') (g := g) hnv
    (by
      unfold WV
      rw [hgs]
      exact Or.inl ⟨a6, ⟨u, hu, a4⟩, a5⟩)
    (by
      unfold GA
      rw [hvl, hgs, hu', a6]
      exact ⟨fun z => absurd z (by decide), fun z => absurd z (by decide), fun _ => ⟨by rw [a1, a7], a2, a3, ⟨c, hc6, a7, hb1, hb2⟩, w, hw, a8⟩, fun z => absurd z (by decide)⟩)
    (by
      rw [a1, a2]
      intro j hj hbj
      rw [bt_and (by omega), bt_not (by omega), bt_one (by omega) (by omega), h.2.1.1.2.2 u hu j hj hbj]
      by_cases hjc : j = c
      · rw [hjc, hb2] at hbj; cases hbj
      · rw [decide_eq_false hjc]; rfl) a0
    (by rw [a3]; exact gm)
    (by
      unfold KM
      rw [hgs, a1, a2, a3, a4, a6, a7, a8]
      refine ⟨e8, e9, e10, Or.inr (Or.inr (Or.inl ⟨rfl, e5, e6, ?_, ?_⟩))⟩
      · rw [e4 11 nv (Or.inl (by decide)), w2_ne (by decide), w2_at]
      · rw [e4 12 nv (Or.inl (by decide)), w2_at])
    (fun k p q => (e2 k q).trans (w1_ne p)) e3 (fun k t p => by
      rw [e4 k t (p.imp (by omega) id), w2_k (p.imp (by omega) id), w2_k (p.imp (by omega) id)]
      rfl)
  have hc : d10_drop G nt nv (nI u) (nI c) (nI w) S = some (0, nI nv, S', nVG G nv g, nt, nv + 1) := by
    unfold d10_drop
    rw [hat, cb_s, oc_s, gd_t hu, c1, cb_s, if_neg z10, c2, cb_s, if_neg z10, h.s43, if_pos (h10n hnv).1, gd_t hnv, hg, k1, cb2_s]
  exact ⟨0, _, 0, _, S', M', _, _, _, hc, hm, by rw [thr_n, e2 0 (by decide), w2_1, w2_1, w1_eq], Or.inl ⟨rfl, rfl⟩, fun _ => rfl, k2⟩
