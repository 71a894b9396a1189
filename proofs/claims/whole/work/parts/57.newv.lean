/-! ===== a new view ===== -/
theorem makes_n {M : St} {nv : Nat} {a b c d e : Int32} (h7 : M.1 7 = nI nv) (hnv : nv < 10) : ∃ M', m_makes a b c d e M = some (nI nv, M') ∧ (∀ k, k ≠ 7 → M'.1 k = M.1 k) ∧ M'.1 7 = nI (nv + 1) ∧ (∀ k t, (k ≠ 8 ∧ k ≠ 9 ∧ k ≠ 14 ∧ k ≠ 15 ∧ k ≠ 16) ∨ t ≠ nv → M'.2 k t = M.2 k t) ∧ M'.2 8 nv = a ∧ M'.2 9 nv = b ∧ M'.2 14 nv = c ∧ M'.2 15 nv = d ∧ M'.2 16 nv = e := by
  unfold m_makes
  rw [h7, rd_n hnv (by decide), lt_d, w2_1, h7, rd_n hnv (by decide), lt_d, w2_1, w2_1, h7, rd_n hnv (by decide), lt_d, w2_1, w2_1, w2_1, h7, rd_n hnv (by decide), lt_d, w2_1, w2_1, w2_1, w2_1, h7, rd_n hnv (by decide), lt_d, w2_1, w2_1, w2_1, w2_1, w2_1, h7, nI_1, lt_d, w1_eq, nI_pred]
  refine ⟨_, rfl, fun k p => ?_, w1_eq, fun k t p => ?_, ?_, ?_, ?_, ?_, ?_⟩
  · rw [w1_ne p, w2_1, w2_1, w2_1, w2_1, w2_1]
  · rw [w1_2]
    rcases p with ⟨p1, p2, p3, p4, p5⟩ | p
    · rw [w2_ne p5, w2_ne p4, w2_ne p3, w2_ne p2, w2_ne p1]
    · have g : ∀ {T : St} {q : Nat} {x : Int32}, (w2 T q nv x).2 k t = T.2 k t := fun {T q x} => by
        by_cases hk : k = q
        · subst hk; exact w2_nj p
        · rw [w2_ne hk]
      rw [g, g, g, g, g]
  · rw [w1_2, w2_ne (by decide), w2_ne (by decide), w2_ne (by decide), w2_ne (by decide), w2_at]
  · rw [w1_2, w2_ne (by decide), w2_ne (by decide), w2_ne (by decide), w2_at]
  · rw [w1_2, w2_ne (by decide), w2_ne (by decide), w2_at]
  · rw [w1_2, w2_ne (by decide), w2_at]
  · rw [w1_2, w2_at]
theorem RR.nv {S M M' : St} {G : Gt} {nt nv : Nat} {g : Nat → Int32} (h : RR S G nt nv M) (hnv : nv < 10) (hW : WV (nVG G nv g) nt nv) (hA : GA (nVG G nv g) nv) (hS : sub (g 2) (g 1)) (h0 : g 0 = nI nv) (hk : ∀ c, c < 32 → bt (g 3) c = true → c < nt) (hKM : KM (nVG G nv g) M' nv) (m1 : ∀ k, k ≠ 0 → k ≠ 7 → M'.1 k = M.1 k) (m2 : M'.1 7 = nI (nv + 1)) (m3 : ∀ k t, (k < 8 ∨ 16 < k) ∨ t ≠ nv → M'.2 k t = M.2 k t) : ∃ S', d10_keepView (nVG G nv g) nt (nv + 1) nv (nVS S nv) = some (nI nv, S') ∧ RR S' (nVG G nv g) nt (nv + 1) M' := by
  have hb := h.b
  obtain ⟨⟨a1, a2, a3, a4, a5⟩, ⟨⟨hG, hA0, hS0⟩, hP, g2, g7, gv, gt⟩, ⟨Tb, hB, hV⟩, hD, nu, Un, u1, u2, u3, u4⟩ := h
  have s1 : ∀ k, (k < 22 + 2 * nv ∨ 24 + 2 * nv ≤ k) → (nVS S nv).1 k = S.1 k := fun k r => if_neg (by omega)
  have s2 : ∀ k, (k < 22 + 2 * nv ∨ 24 + 2 * nv ≤ k) → (nVS S nv).2 k = S.2 k := fun k r => if_neg (by omega)
  have m3' : ∀ k, (k < 8 ∨ 16 < k) → M'.2 k = M.2 k := fun k p => funext fun t => m3 k t (Or.inl p)
  have hGv : ∀ v, v < nv → nVG G nv g v = G v := fun v hv => nVG_n (by omega)
  have hGt : ∀ t, nVG G nv g (20 + t) = G (20 + t) := fun t => nVG_n (by omega)
  have hcg : ∀ v, v < nv → VV (nVG G nv g) Tb v = VV G Tb v := fun v hv => VV_cg hG hGv (fun t ht => rfl) (v + 1) v (Nat.lt_succ_self v) hv (v + 1) (Nat.lt_succ_self v)
  have hO : OKG (nVG G nv g) nt (nv + 1) := by
    refine ⟨⟨⟨hb.1, by omega⟩, fun v hv => ?_⟩, fun v hv => ?_, fun v hv => ?_⟩
    · by_cases hvn : v = nv
      · subst hvn; exact hW
      · exact WV_cg (hG.2 v (by omega)) (hGv v (by omega)) (Nat.le_refl _)
    · by_cases hvn : v = nv
      · subst hvn; exact hA
      · have hv2 : v < nv := by omega
        refine GA_cg (hA0 v hv2) (hGv v hv2) (fun h6 => ?_) (fun h6 => ?_) (fun h6 => hGt _)
        · have := (hG.L' hv2 h6).2
          exact hGv _ (by omega)
        · have := (hG.R' hv2 h6).2
          exact hGv _ (by omega)
    · by_cases hvn : v = nv
      · subst hvn; rw [nVG_s]; exact hS
      · rw [hGv v (by omega)]; exact hS0 v (by omega)
  have hF : ∀ t, t < nt → FT (nVG G nv g) t (Tb t) := fun t ht => FT_cg (hB t ht).2.2 (hGt t)
  obtain ⟨S', e1, f1, f2, f3, f4, f5⟩ := keepView_n (S := nVS S nv) (Tb := Tb) hO hF (fun t ht => (hB t ht).1.fr (s1 _ (by omega)) (s2 _ (by omega))) (fun u hu => by rw [hcg u hu]; exact (hV u hu).fr (s1 _ (by omega)) (s2 _ (by omega))) ((s1 43 (by omega)).trans a4) ((s1 55 (by omega)).trans a2)
  rw [nVG_s, h0] at e1
  have n1 : ∀ k, k ≠ 43 → k ≠ 55 → (k < 22 + 2 * nv ∨ 24 + 2 * nv ≤ k) → S'.1 k = S.1 k := fun k p q r => (f4 k (by omega) p q).trans (s1 k r)
  have n2 : ∀ k, (k < 22 + 2 * nv ∨ 24 + 2 * nv ≤ k) → S'.2 k = S.2 k := fun k r => (f5 k (by omega)).trans (s2 k r)
  refine ⟨S', e1, ⟨?_, f3, ?_, f2, ?_⟩, ⟨hO, fun q hq => by rw [m3' 1 (by omega)]; exact hP q hq, (m1 2 (by decide) (by decide)).trans g2, m2, fun v hv => ?_, fun t ht => ?_⟩, ⟨Tb, fun t ht => ?_, fun v hv => ?_⟩, ?_, nu, Un, u1, ?_, (m1 32 (by decide) (by decide)).trans u3, fun j hj t ht => ?_⟩
  · rw [n1 56 (by decide) (by decide) (by omega)]; exact a1
  · rw [n1 42 (by decide) (by decide) (by omega)]; exact a3
  · rw [n1 44 (by decide) (by decide) (by omega)]
    rcases a5 with z | ⟨u, p, q⟩
    · exact Or.inl z
    · exact Or.inr ⟨u, by omega, q⟩
  · by_cases hvn : v = nv
    · subst hvn
      exact ⟨hKM, by rw [nVG_s]; exact h0, by rw [nVG_s]; exact hk⟩
    · obtain ⟨b1, b2, b3⟩ := gv v (by omega)
      refine ⟨?_, by rw [hGv v (by omega)]; exact b2, by rw [hGv v (by omega)]; exact b3⟩
      refine KM_cg ?_ (hGv v (by omega))
      have q : ∀ k, M'.2 k v = M.2 k v := fun k => m3 k v (Or.inr hvn)
      unfold KM at b1 ⊢
      rw [q, q, q, q, q, q, q, q, q]
      exact b1
  · rw [hGt t, m3' 3 (by omega), m3' 4 (by omega)]
    exact gt t ht
  · obtain ⟨b1, ⟨b2, b3⟩, b4⟩ := hB t ht
    refine ⟨b1.fr (n1 _ (by omega) (by omega) (by omega)) (n2 _ (by omega)), ⟨?_, ?_⟩, hF t ht⟩
    · rw [m3' 5 (by omega)]; exact b2
    · rw [m3' 6 (by omega)]; exact b3
  · by_cases hvn : v = nv
    · subst hvn; exact f1
    · rw [hcg v (by omega)]
      exact (hV v (by omega)).fr (n1 _ (by omega) (by omega) (by omega)) (n2 _ (by omega))
  · rcases hD with ⟨d1, d2⟩ | ⟨u, l, d1, d2, d3, d4, d5, d6, d7, d8, d9⟩
    · exact Or.inl ⟨(n1 44 (by decide) (by decide) (by omega)).trans d1, (m1 21 (by decide) (by decide)).trans d2⟩
    · refine Or.inr ⟨u, l, by omega, (n1 44 (by decide) (by decide) (by omega)).trans d2, (m1 21 (by decide) (by decide)).trans d3, (m1 22 (by decide) (by decide)).trans d4, d5.fr (n1 0 (by decide) (by decide) (by omega)) (n2 0 (by omega)), (m1 23 (by decide) (by decide)).trans d6, by rw [m3' 24 (by omega)]; exact d7, d8, by rw [hGv u d1]; exact d9⟩
  · exact (n1 45 (by decide) (by decide) (by omega)).trans u2
  · obtain ⟨e1, e2, e3, e4⟩ := u4 j hj t ht
    rw [m3' 33 (by omega), m3' 34 (by omega)]
    refine ⟨e1, e2, fun htn => ?_, e4⟩
    obtain ⟨e5, e6⟩ := e3 htn
    exact ⟨e5.fr (n1 _ (by omega) (by omega) (by omega)) (n2 _ (by omega)), FT_cg e6 (hGt t)⟩
theorem h10n {nv : Nat} (h : nv < 10) : nI nv < (10 : Int32) ∧ ¬ nI nv = (10 : Int32) := ⟨nI_lt (b := 10) h (by decide), fun z => by
  have := (nI_eq (b := 10) (by omega) (by decide)).mp z
  omega⟩
theorem h10f : ¬ nI 10 < (10 : Int32) ∧ nI 10 = (10 : Int32) := ⟨by decide, rfl⟩
theorem sm_of : Sm_of RR := by
  intro S G nt nv M x1 h
  have hb := h.b
  rcases ix_n x1 (show nt < 2 ^ 31 by omega) with ho | ⟨u, hu, rfl⟩
  · have hc : d10_of G nt nv x1 S = some (3, 0, S, G, nt, nv) := by
      unfold d10_of
      rw [tableAt_o h.s42 ho, cb_s, oc_o]
    have hm : m_of x1 M = some (0, w1 M 0 1) := by
      unfold m_of
      rw [isTable_o h.m2 (by omega) ho, cb_s, jn_d, if_pos z00]
      dsimp only
      rw [lt_d, w1_eq, if_neg z1l]
    exact ⟨3, 0, 1, 0, S, _, G, nt, nv, hc, hm, thr_w, Or.inr (Or.inl ⟨rfl, rfl⟩), (fun z => by cases z), h.x0⟩
  · have hat : d10_tableAt (nI u) S = some (some u) := tableAt_i h.s42 h.s56 hb.1 hu
    have hit : m_isTable (nI u) M = some 1 := isTable_i h.m2 (by omega) hu
    by_cases h10 : nv = 10
    · subst h10
      have hc : d10_of G nt 10 (nI u) S = some (2, 0, S, G, nt, 10) := by
        unfold d10_of
        rw [hat, cb_s, oc_s, gd_t hu, h.s43, if_neg h10f.1]
      have hm : m_of (nI u) M = some (0, w1 M 0 2) := by
        unfold m_of
        rw [hit, cb_s, jn_d, if_neg z10, h.m7, if_pos h10f.2]
        dsimp only
        rw [lt_d, w1_eq, if_neg z2l]
      exact ⟨2, 0, 2, 0, S, _, G, nt, 10, hc, hm, thr_w, Or.inr (Or.inr ⟨rfl, rfl⟩), (fun z => by cases z), h.x0⟩
    · have hnv : nv < 10 := by omega
      obtain ⟨c3, c4, hks, -⟩ := h.2.1.2.2.2.2.2 u hu
      obtain ⟨M', e1, e2, e3, e4, e5, e6, e7, e8, e9⟩ := makes_n (M := w1 M 0 0) (a := 0) (b := nI u) (c := G (20 + u) 0) (d := G (20 + u) 1) (e := 1 <<< (nI u &&& 31)) ((w1_ne (by decide)).trans h.m7) hnv
      have hm : m_of (nI u) M = some (nI nv, M') := by
        unfold m_of
        rw [hit, cb_s, jn_d, if_neg z10, h.m7, if_neg (h10n hnv).2]
        dsimp only
        rw [lt_d, w1_eq, if_pos z0l, rd_n (by omega) (by decide), rd_n (by omega) (by decide), show (w1 M 0 0).2 3 u = G (20 + u) 0 from c3, show (w1 M 0 0).2 4 u = G (20 + u) 1 from c4, e1, cb2_s]
      have hgs : nVG G nv (gL [nI nv, (G (20 + u) 0), (G (20 + u) 1), (1 <<< (nI u &&& 31)), -1, -1, 6, 0, 0, 0, 0, nI u]) nv = gL [nI nv, (G (20 + u) 0), (G (20 + u) 1), (1 <<< (nI u &&& 31)), -1, -1, 6, 0, 0, 0, 0, nI u] := nVG_s
      have hvt : vt (nVG G nv (gL [nI nv, (G (20 + u) 0), (G (20 + u) 1), (1 <<< (nI u &&& 31)), -1, -1, 6, 0, 0, 0, 0, nI u])) nv = u := by
        unfold vt
        rw [hgs]
        exact nI_clamp (by omega)
      obtain ⟨S', k1, k2⟩ := h.nv (M' := M') (g := gL [nI nv, (G (20 + u) 0), (G (20 + u) 1), (1 <<< (nI u &&& 31)), -1, -1, 6, 0, 0, 0, 0, nI u]) hnv
        (by
          unfold WV
          rw [hgs]
          exact Or.inr (Or.inr (Or.inr ⟨rfl, rfl, rfl, u, hu, rfl⟩)))
        (by
          unfold GA
          rw [hvt, hgs, nVG_n (show 20 + u ≠ nv by omega)]
          refine ⟨fun _ => ⟨rfl, rfl, rfl⟩, fun z => absurd (show (6 : Int32) = 4 from z) (by decide), fun z => absurd (show (6 : Int32) = 1 from z) (by decide), fun z => absurd (show (6 : Int32) = 2 from z) (by decide)⟩)
        hks rfl
        (fun c hc hbt => by
          have z : bt (1 <<< (nI u &&& 31)) c = true := hbt
          rw [bt_one (by omega) hc] at z
          have := of_decide_eq_true z
          omega)
        (by
          unfold KM
          rw [hgs]
          exact ⟨e7, e8, e9, Or.inl ⟨rfl, e5, e6⟩⟩)
        (fun k p q => (e2 k q).trans (w1_ne p)) e3 (fun k t p => e4 k t (p.imp (by omega) id))
      have hc : d10_of G nt nv (nI u) S = some (0, nI nv, S', nVG G nv (gL [nI nv, (G (20 + u) 0), (G (20 + u) 1), (1 <<< (nI u &&& 31)), -1, -1, 6, 0, 0, 0, 0, nI u]), nt, nv + 1) := by
        unfold d10_of
        rw [hat, cb_s, oc_s, gd_t hu, h.s43, if_pos (h10n hnv).1, gd_t hnv, k1, cb2_s]
      exact ⟨0, _, 0, _, S', M', _, _, _, hc, hm, by rw [thr_n, e2 0 (by decide), w1_eq], Or.inl ⟨rfl, rfl⟩, fun _ => rfl, k2⟩
