/-! ===== select, drop, join: the class's side ===== -/
theorem ksel_o {S : St} {G : Gt} {nt nv : Nat} {M : Lt} {x y z s : Int32} (h : RQ (S, G, nt, nv) M) (hx : x < 0 ∨ nI nv ≤ x) (hs : s = 0 ∨ s = 1) : k_select x y z s (S, G, nt, nv) = some (-7100, (S, G, nt, nv)) := by
  unfold k_select d10_select
  dsimp only
  rw [gp_i (show SX S nt nv from h.1), gd_t hs, h.vo hx, cb_s, oc_o]
  rfl
theorem ksel_c {S : St} {G : Gt} {nt nv u : Nat} {M : Lt} {y z s : Int32} (h : RQ (S, G, nt, nv) M) (hu : u < nv) (hs : s = 0 ∨ s = 1) (hc : d1_isColumn y (G u 1) = some 0) : k_select (nI u) y z s (S, G, nt, nv) = some (-7200, (S, G, nt, nv)) := by
  unfold k_select d10_select
  dsimp only
  rw [gp_i (show SX S nt nv from h.1), gd_t hs, h.vw hu, cb_s, oc_s, gd_t hu, hc, cb_s, if_pos z00]
  rfl
theorem ksel_v {S : St} {G : Gt} {nt nv u c : Nat} {M : Lt} {z s : Int32} (h : RQ (S, G, nt, nv) M) (hu : u < nv) (hs : s = 0 ∨ s = 1) (hc6 : c < 6) (hz : d1_isValue z = some 0) : k_select (nI u) (nI c) z s (S, G, nt, nv) = some (-7200, (S, G, nt, nv)) := by
  by_cases hb : bt (G u 1) c = true
  · unfold k_select d10_select
    dsimp only
    rw [gp_i (show SX S nt nv from h.1), gd_t hs, h.vw hu, cb_s, oc_s, gd_t hu, cCol hc6, cb_s, if_pos hb, if_neg z10, hz, cb_s, if_pos z00]
    rfl
  · exact ksel_c h hu hs (by rw [cCol hc6, if_neg hb])
theorem ksel_x {S : St} {G : Gt} {nt u c w : Nat} {M : Lt} {s : Int32} (h : RQ (S, G, nt, 10) M) (hu : u < 10) (hs : s = 0 ∨ s = 1) (hc6 : c < 6) (hb : bt (G u 1) c = true) (hw : w < 10) : k_select (nI u) (nI c) (nI w) s (S, G, nt, 10) = some (-7300, (S, G, nt, 10)) := by
  unfold k_select d10_select
  dsimp only
  rw [gp_i (show SX S nt 10 from h.1), gd_t hs, h.vw hu, cb_s, oc_s, gd_t hu, cCol hc6, cb_s, if_pos hb, if_neg z10, cVal hw, cb_s, if_neg z10, h.s43.1, if_neg h10f.1]
  rfl
theorem bI01 {s : Nat} (hs : s < 2) : nI s = 0 ∨ nI s = 1 := by
  have : s = 0 ∨ s = 1 := by omega
  rcases this with rfl | rfl
  · exact Or.inl rfl
  · exact Or.inr rfl
theorem ksel_i {S : St} {G : Gt} {nt nv u c w s a b d : Nat} {M : Lt} (h : RQ (S, G, nt, nv) M) (hu : u < nv) (hnv : nv < 10) (hs : s < 2) (hc3 : c < 3) (hb : bt (G u 1) c = true) (hw : w < 3) (ha8 : a < 8) (hb8 : b < 8) (hd8 : d < 8) (ha : G u 1 = nI a) (hbk : G u 2 = nI b) (hd : G u 3 = nI d) : ∃ S' G', k_select (nI u) (nI c) (nI w) (nI s) (S, G, nt, nv) = some (nI nv, (S', G', nt, nv + 1)) ∧ RQ (S', G', nt, nv + 1) (w3 (w3 M 1 nv (nI (wv 1 u 0 c w s a b d))) 6 1 (nI (nv + 1))) := by
  have h1 := bI01 hs
  obtain ⟨f1, f2, f3, f4, f5, f6, f7, f8, f9⟩ := wv_f (k := 1) (l := u) (r := 0) (c := c) (v := w) (s := s) (a := a) (b := b) (d := d) (by decide) (by omega) (by decide) (by omega) (by omega) hs ha8 hb8 hd8
  have hsub : sub (G u 2) (G u 1) := h.2.1.1.2.2 u hu
  have gm : ∀ c, c < 32 → bt (G u 3) c = true → c < nt := (h.2.1.2.2.2.1 u hu).2.2.2
  generalize hg : gL [nI nv, (G u 1), (G u 2), (G u 3), nI u, -1, 4, nI c, nI w, nI s] = g
  have hgs : nVG G nv g nv = g := nVG_s
  have a0 : g 0 = nI nv := by rw [← hg]; rfl
  have a1 : g 1 = G u 1 := by rw [← hg]; rfl
  have a2 : g 2 = G u 2 := by rw [← hg]; rfl
  have a3 : g 3 = G u 3 := by rw [← hg]; rfl
  have a4 : g 4 = nI u := by rw [← hg]; rfl
  have a5 : g 5 = -1 := by rw [← hg]; rfl
  have a6 : g 6 = 4 := by rw [← hg]; rfl
  have a7 : g 7 = nI c := by rw [← hg]; rfl
  have a8 : g 8 = nI w := by rw [← hg]; rfl
  have a9 : g 9 = nI s := by rw [← hg]; rfl
  have hvl : vl (nVG G nv g) nv = u := by
    unfold vl
    rw [hgs, a4]
    exact nI_clamp (by omega)
  have hu' : nVG G nv g u = G u := nVG_n (by omega)
  obtain ⟨S', k1, k2⟩ := h.nv (g := g) (W := nI (wv 1 u 0 c w s a b d)) hnv
    (by
      unfold WV
      rw [hgs]
      exact Or.inr (Or.inr (Or.inl ⟨a6, ⟨u, hu, a4⟩, a5⟩)))
    (by
      unfold GA
      rw [hvl, hgs, hu', a6]
      exact ⟨fun z => absurd z (by decide), fun _ => ⟨a1, a2, a3, ⟨c, by omega, a7, hb⟩, ⟨w, by omega, a8⟩, by rw [a9]; exact h1⟩, fun z => absurd z (by decide), fun z => absurd z (by decide)⟩)
    (by rw [a1, a2]; exact hsub) a0
    (by rw [a3]; exact gm)
    (fun M' hM => by
      unfold KW
      rw [hgs, hM, f1, f2, f3, f4, f5, f7, f8, f9, a1, a2, a3, a4, a6, a7, a8, a9]
      exact ⟨ha.symm, hbk.symm, hd.symm, Or.inr (Or.inl ⟨rfl, rfl, rfl, rfl, rfl, rfl⟩)⟩)
    (by
      unfold SmV
      rw [hgs, a1, a2, a8]
      exact ⟨⟨a, ha8, ha⟩, ⟨b, hb8, hbk⟩, fun _ => ⟨w, hw, rfl⟩⟩)
  refine ⟨S', _, ?_, k2⟩
  unfold k_select d10_select
  dsimp only
  rw [gp_i (show SX S nt nv from h.1), gd_t h1, h.vw hu, cb_s, oc_s, gd_t hu, cCol (by omega), cb_s, if_pos hb, if_neg z10, cVal (by omega), cb_s, if_neg z10, h.s43.1, if_pos (h10n hnv).1, gd_t hnv, hg, k1, cb2_s]
  rfl
/-! drop -/
theorem kdrp_o {S : St} {G : Gt} {nt nv : Nat} {M : Lt} {x y z : Int32} (h : RQ (S, G, nt, nv) M) (hx : x < 0 ∨ nI nv ≤ x) : k_drop x y z (S, G, nt, nv) = some (-7100, (S, G, nt, nv)) := by
  unfold k_drop d10_drop
  dsimp only
  rw [gp_i (show SX S nt nv from h.1), h.vo hx, cb_s, oc_o]
  rfl
theorem kdrp_c {S : St} {G : Gt} {nt nv u : Nat} {M : Lt} {y z : Int32} (h : RQ (S, G, nt, nv) M) (hu : u < nv) (hc : d1_isColumn y (G u 1 &&& (G u 2 ^^^ (-1))) = some 0) : k_drop (nI u) y z (S, G, nt, nv) = some (-7200, (S, G, nt, nv)) := by
  unfold k_drop d10_drop
  dsimp only
  rw [gp_i (show SX S nt nv from h.1), h.vw hu, cb_s, oc_s, gd_t hu, hc, cb_s, if_pos z00]
  rfl
theorem kdrp_v {S : St} {G : Gt} {nt nv u c : Nat} {M : Lt} {z : Int32} (h : RQ (S, G, nt, nv) M) (hu : u < nv) (hc6 : c < 6) (hz : d1_isValue z = some 0) : k_drop (nI u) (nI c) z (S, G, nt, nv) = some (-7200, (S, G, nt, nv)) := by
  by_cases hb : bt (G u 1 &&& (G u 2 ^^^ (-1))) c = true
  · unfold k_drop d10_drop
    dsimp only
    rw [gp_i (show SX S nt nv from h.1), h.vw hu, cb_s, oc_s, gd_t hu, cCol hc6, cb_s, if_pos hb, if_neg z10, hz, cb_s, if_pos z00]
    rfl
  · exact kdrp_c h hu (by rw [cCol hc6, if_neg hb])
theorem kdrp_x {S : St} {G : Gt} {nt u c w : Nat} {M : Lt} (h : RQ (S, G, nt, 10) M) (hu : u < 10) (hc6 : c < 6) (hb : bt (G u 1 &&& (G u 2 ^^^ (-1))) c = true) (hw : w < 10) : k_drop (nI u) (nI c) (nI w) (S, G, nt, 10) = some (-7300, (S, G, nt, 10)) := by
  unfold k_drop d10_drop
  dsimp only
  rw [gp_i (show SX S nt 10 from h.1), h.vw hu, cb_s, oc_s, gd_t hu, cCol hc6, cb_s, if_pos hb, if_neg z10, cVal hw, cb_s, if_neg z10, h.s43.1, if_neg h10f.1]
  rfl
theorem kdrp_i {S : St} {G : Gt} {nt nv u c w a b d : Nat} {M : Lt} (h : RQ (S, G, nt, nv) M) (hu : u < nv) (hnv : nv < 10) (hc3 : c < 3) (hb : bt (G u 1 &&& (G u 2 ^^^ (-1))) c = true) (hw : w < 3) (ha8 : a < 8) (hb8 : b < 8) (hd8 : d < 8) (ha : (G u 1 &&& (((1 : Int32) <<< (nI c &&& 31)) ^^^ (-1))) = nI a) (hbk : G u 2 = nI b) (hd : G u 3 = nI d) : ∃ S' G', k_drop (nI u) (nI c) (nI w) (S, G, nt, nv) = some (nI nv, (S', G', nt, nv + 1)) ∧ RQ (S', G', nt, nv + 1) (w3 (w3 M 1 nv (nI (wv 2 u 0 c w 0 a b d))) 6 1 (nI (nv + 1))) := by
  obtain ⟨f1, f2, f3, f4, f5, f6, f7, f8, f9⟩ := wv_f (k := 2) (l := u) (r := 0) (c := c) (v := w) (s := 0) (a := a) (b := b) (d := d) (by decide) (by omega) (by decide) (by omega) (by omega) (by decide) ha8 hb8 hd8
  have hsub : sub (G u 2) (G u 1) := h.2.1.1.2.2 u hu
  have gm : ∀ c, c < 32 → bt (G u 3) c = true → c < nt := (h.2.1.2.2.2.1 u hu).2.2.2
  have hb' := hb
  generalize hg : gL [nI nv, (G u 1 &&& ((1 <<< (nI c &&& 31)) ^^^ (-1))), (G u 2), (G u 3), nI u, -1, 1, nI c, nI w] = g
  have hgs : nVG G nv g nv = g := nVG_s
  have a0 : g 0 = nI nv := by rw [← hg]; rfl
  have a1 : g 1 = (G u 1 &&& ((1 <<< (nI c &&& 31)) ^^^ (-1))) := by rw [← hg]; rfl
  have a2 : g 2 = G u 2 := by rw [← hg]; rfl
  have a3 : g 3 = G u 3 := by rw [← hg]; rfl
  have a4 : g 4 = nI u := by rw [← hg]; rfl
  have a5 : g 5 = -1 := by rw [← hg]; rfl
  have a6 : g 6 = 1 := by rw [← hg]; rfl
  have a7 : g 7 = nI c := by rw [← hg]; rfl
  have a8 : g 8 = nI w := by rw [← hg]; rfl
  have hvl : vl (nVG G nv g) nv = u := by
    unfold vl
    rw [hgs, a4]
    exact nI_clamp (by omega)
  have hu' : nVG G nv g u = G u := nVG_n (by omega)
  rw [bt_and (by omega), bt_not (by omega)] at hb
  have hb1 : bt (G u 1) c = true := by
    cases z : bt (G u 1) c
    · rw [z] at hb; simp at hb
    · rfl
  have hb2 : bt (G u 2) c = false := by
    cases z : bt (G u 2) c
    · rfl
    · rw [z] at hb; simp at hb
  obtain ⟨S', k1, k2⟩ := h.nv (g := g) (W := nI (wv 2 u 0 c w 0 a b d)) hnv
    (by
      unfold WV
      rw [hgs]
      exact Or.inl ⟨a6, ⟨u, hu, a4⟩, a5⟩)
    (by
      unfold GA
      rw [hvl, hgs, hu', a6]
      exact ⟨fun z => absurd z (by decide), fun z => absurd z (by decide), fun _ => ⟨by rw [a1, a7], a2, a3, ⟨c, by omega, a7, hb1, hb2⟩, w, by omega, a8⟩, fun z => absurd z (by decide)⟩)
    (by
      rw [a1, a2]
      intro j hj hbj
      rw [bt_and (by omega), bt_not (by omega), bt_one (by omega) (by omega), hsub j hj hbj]
      by_cases hjc : j = c
      · rw [hjc, hb2] at hbj; cases hbj
      · rw [decide_eq_false hjc]; rfl) a0
    (by rw [a3]; exact gm)
    (fun M' hM => by
      unfold KW
      rw [hgs, hM, f1, f2, f3, f4, f5, f7, f8, a1, a2, a3, a4, a6, a7, a8]
      exact ⟨ha.symm, hbk.symm, hd.symm, Or.inr (Or.inr (Or.inl ⟨rfl, rfl, rfl, rfl, rfl⟩))⟩)
    (by
      unfold SmV
      rw [hgs, a1, a2, a8]
      exact ⟨⟨a, ha8, ha⟩, ⟨b, hb8, hbk⟩, fun _ => ⟨w, hw, rfl⟩⟩)
  refine ⟨S', _, ?_, k2⟩
  unfold k_drop d10_drop
  dsimp only
  rw [gp_i (show SX S nt nv from h.1), h.vw hu, cb_s, oc_s, gd_t hu, cCol (by omega), cb_s, if_pos hb', if_neg z10, cVal (by omega), cb_s, if_neg z10, h.s43.1, if_pos (h10n hnv).1, gd_t hnv, hg, k1, cb2_s]
  rfl
/-! join -/
theorem kjn_o {S : St} {G : Gt} {nt nv u : Nat} {M : Lt} {x : Int32} (h : RQ (S, G, nt, nv) M) (hu : u < nv) (hx : x < 0 ∨ nI nv ≤ x) : k_join (nI u) x (S, G, nt, nv) = some (-7100, (S, G, nt, nv)) ∧ k_join x (nI u) (S, G, nt, nv) = some (-7100, (S, G, nt, nv)) := by
  constructor
  · unfold k_join d10_join
    dsimp only
    rw [gp_i (show SX S nt nv from h.1), h.vw hu, cb_s, h.vo hx, cb_s, oc_s, gd_t hu, oc_o]
    rfl
  · unfold k_join d10_join
    dsimp only
    rw [gp_i (show SX S nt nv from h.1), h.vo hx, cb_s, h.vw hu, cb_s, oc_o]
    rfl
theorem kjn_0 {S : St} {G : Gt} {nt : Nat} {M : Lt} (h : RQ (S, G, nt, 0) M) : k_join 0 0 (S, G, nt, 0) = some (-7100, (S, G, nt, 0)) := by
  unfold k_join d10_join
  dsimp only
  rw [gp_i (show SX S nt 0 from h.1), h.vo (Or.inr (by decide)), cb_s, cb_s, oc_o]
  rfl
theorem kjn_d {S : St} {G : Gt} {nt nv u w : Nat} {M : Lt} (h : RQ (S, G, nt, nv) M) (hu : u < nv) (hw : w < nv) : k_join (nI u) (nI w) (S, G, nt, nv) = (if ((G u 3) &&& (G w 3)) = 0 then (if ((G w 2) &&& ((G u 1) ^^^ (-1))) = 0 then (if nI nv < 10 then (gd (nv < 10) <| cb2 (d10_keepView (nVG G nv (gL [nI nv, (G u 1 ||| G w 1), (G u 2), (G u 3 ||| G w 3), nI u, nI w, 2, 0, 0, 0, (G u 1 &&& G w 1)])) nt (nv + 1) nv (nVS S nv)) fun (z9 : Int32) (S9 : St) => some (0, z9, S9, (nVG G nv (gL [nI nv, (G u 1 ||| G w 1), (G u 2), (G u 3 ||| G w 3), nI u, nI w, 2, 0, 0, 0, (G u 1 &&& G w 1)])), nt, nv + 1)) else (some (2, 0, S, G, nt, nv))) else (some (1, 0, S, G, nt, nv))) else (some (1, 0, S, G, nt, nv))).bind fun (q : Nat × Int32 × St × Gt × Nat × Nat) => gd (q.1 = 0 ∨ q.1 = 3 ∨ q.1 = 1 ∨ q.1 = 2) <| some (ex q.1 q.2.1, (q.2.2.1, q.2.2.2.1, q.2.2.2.2.1, q.2.2.2.2.2)) := by
  unfold k_join d10_join
  dsimp only
  rw [gp_i (show SX S nt nv from h.1), h.vw hu, cb_s, h.vw hw, cb_s, oc_s, gd_t hu, oc_s, gd_t hw, h.s43.1]
theorem kjn_r {S : St} {G : Gt} {nt nv u w : Nat} {M : Lt} (h : RQ (S, G, nt, nv) M) (hu : u < nv) (hw : w < nv) (hb : ¬ ((G u 3) &&& (G w 3)) = 0 ∨ ¬ ((G w 2) &&& ((G u 1) ^^^ (-1))) = 0) : k_join (nI u) (nI w) (S, G, nt, nv) = some (-7200, (S, G, nt, nv)) := by
  rw [kjn_d h hu hw]
  by_cases h1 : ((G u 3) &&& (G w 3)) = 0
  · rw [if_pos h1, if_neg (hb.resolve_left fun z => z h1)]
    rfl
  · rw [if_neg h1]
    rfl
theorem kjn_x {S : St} {G : Gt} {nt u w : Nat} {M : Lt} (h : RQ (S, G, nt, 10) M) (hu : u < 10) (hw : w < 10) (h1 : ((G u 3) &&& (G w 3)) = 0) (h2 : ((G w 2) &&& ((G u 1) ^^^ (-1))) = 0) : k_join (nI u) (nI w) (S, G, nt, 10) = some (-7300, (S, G, nt, 10)) := by
  rw [kjn_d h hu hw, if_pos h1, if_pos h2, if_neg h10f.1]
  rfl
theorem kjn_i {S : St} {G : Gt} {nt nv u w a b d : Nat} {M : Lt} (h : RQ (S, G, nt, nv) M) (hu : u < nv) (hw : w < nv) (hnv : nv < 10) (hq : ((G u 3) &&& (G w 3)) = 0) (hp : ((G w 2) &&& ((G u 1) ^^^ (-1))) = 0) (ha8 : a < 8) (hb8 : b < 8) (hd8 : d < 8) (ha : (G u 1 ||| G w 1) = nI a) (hbk : G u 2 = nI b) (hd : (G u 3 ||| G w 3) = nI d) : ∃ S' G', k_join (nI u) (nI w) (S, G, nt, nv) = some (nI nv, (S', G', nt, nv + 1)) ∧ RQ (S', G', nt, nv + 1) (w3 (w3 M 1 nv (nI (wv 3 u w 0 0 0 a b d))) 6 1 (nI (nv + 1))) := by
  obtain ⟨f1, f2, f3, f4, f5, f6, f7, f8, f9⟩ := wv_f (k := 3) (l := u) (r := w) (c := 0) (v := 0) (s := 0) (a := a) (b := b) (d := d) (by decide) (by omega) (by omega) (by decide) (by decide) (by decide) ha8 hb8 hd8
  have hsub : sub (G u 2) (G u 1) := h.2.1.1.2.2 u hu
  have gm : ∀ c, c < 32 → bt (G u 3) c = true → c < nt := (h.2.1.2.2.2.1 u hu).2.2.2
  have wm : ∀ c, c < 32 → bt (G w 3) c = true → c < nt := (h.2.1.2.2.2.1 w hw).2.2.2
  have hkd := kjn_d h hu hw
  rw [if_pos hq, if_pos hp, if_pos (h10n hnv).1, gd_t hnv] at hkd
  generalize hg : gL [nI nv, (G u 1 ||| G w 1), (G u 2), (G u 3 ||| G w 3), nI u, nI w, 2, 0, 0, 0, (G u 1 &&& G w 1)] = g at hkd
  have hgs : nVG G nv g nv = g := nVG_s
  have a0 : g 0 = nI nv := by rw [← hg]; rfl
  have a1 : g 1 = (G u 1 ||| G w 1) := by rw [← hg]; rfl
  have a2 : g 2 = G u 2 := by rw [← hg]; rfl
  have a3 : g 3 = (G u 3 ||| G w 3) := by rw [← hg]; rfl
  have a4 : g 4 = nI u := by rw [← hg]; rfl
  have a5 : g 5 = nI w := by rw [← hg]; rfl
  have a6 : g 6 = 2 := by rw [← hg]; rfl
  have a10 : g 10 = (G u 1 &&& G w 1) := by rw [← hg]; rfl
  have hvl : vl (nVG G nv g) nv = u := by
    unfold vl
    rw [hgs, a4]
    exact nI_clamp (by omega)
  have hvr : vr (nVG G nv g) nv = w := by
    unfold vr
    rw [hgs, a5]
    exact nI_clamp (by omega)
  have hu' : nVG G nv g u = G u := nVG_n (by omega)
  have hw' : nVG G nv g w = G w := nVG_n (by omega)
  obtain ⟨S', k1, k2⟩ := h.nv (g := g) (W := nI (wv 3 u w 0 0 0 a b d)) hnv
    (by
      unfold WV
      rw [hgs]
      exact Or.inr (Or.inl ⟨a6, ⟨u, hu, a4⟩, w, hw, a5⟩))
    (by
      unfold GA
      rw [hvl, hvr, hgs, hu', hw', a6]
      exact ⟨fun z => absurd z (by decide), fun z => absurd z (by decide), fun z => absurd z (by decide), fun _ => ⟨a1, a2, a3, a10, hq, sub_and hp⟩⟩)
    (by
      rw [a1, a2]
      intro j hj hbj
      rw [bt_or (by omega), hsub j hj hbj]
      rfl) a0
    (by
      rw [a3]
      intro c hc hbc
      rw [bt_or hc] at hbc
      cases z : bt (G u 3) c
      · rw [z, Bool.false_or] at hbc
        exact wm c hc hbc
      · exact gm c hc z)
    (fun M' hM => by
      unfold KW
      rw [hgs, hM, f1, f2, f3, f4, f5, f6, a1, a2, a3, a4, a5, a6]
      exact ⟨ha.symm, hbk.symm, hd.symm, Or.inr (Or.inr (Or.inr ⟨rfl, rfl, rfl, rfl⟩))⟩)
    (by
      unfold SmV
      rw [hgs, a1, a2, a6]
      exact ⟨⟨a, ha8, ha⟩, ⟨b, hb8, hbk⟩, fun z => z.elim (fun z => absurd z (by decide)) (fun z => absurd z (by decide))⟩)
  refine ⟨S', _, ?_, k2⟩
  rw [hkd, k1, cb2_s]
  rfl
