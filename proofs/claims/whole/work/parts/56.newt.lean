/-! ===== a new table ===== -/
theorem nTG_s {G : Gt} {nt : Nat} {g : Nat → Int32} : nTG G nt g (20 + nt) = g := if_pos rfl
theorem nTG_n {G : Gt} {nt v : Nat} {g : Nat → Int32} (h : v ≠ 20 + nt) : nTG G nt g v = G v := if_neg h
theorem nVG_s {G : Gt} {nv : Nat} {g : Nat → Int32} : nVG G nv g nv = g := if_pos rfl
theorem nVG_n {G : Gt} {nv v : Nat} {g : Nat → Int32} (h : v ≠ nv) : nVG G nv g v = G v := if_neg h
theorem WV_cg {G G' : Gt} {nt nt' v : Nat} (h : WV G nt v) (hv : G' v = G v) (hn : nt ≤ nt') : WV G' nt' v := by
  unfold WV at h ⊢
  rw [hv]
  rcases h with h | h | h | ⟨a, b, c, t, d, e⟩
  · exact Or.inl h
  · exact Or.inr (Or.inl h)
  · exact Or.inr (Or.inr (Or.inl h))
  · exact Or.inr (Or.inr (Or.inr ⟨a, b, c, t, by omega, e⟩))
theorem GA_cg {G G' : Gt} {v : Nat} (h : GA G v) (hv : G' v = G v) (hl : G v 6 ≠ 6 → G' (vl G v) = G (vl G v)) (hr : G v 6 = 2 → G' (vr G v) = G (vr G v)) (ht : G v 6 = 6 → G' (20 + vt G v) = G (20 + vt G v)) : GA G' v := by
  have gl1 : vl G' v = vl G v := by unfold vl; rw [hv]
  have gr1 : vr G' v = vr G v := by unfold vr; rw [hv]
  have gt1 : vt G' v = vt G v := by unfold vt; rw [hv]
  unfold GA at h ⊢
  rw [gl1, gr1, gt1, hv]
  refine ⟨fun k => ?_, fun k => ?_, fun k => ?_, fun k => ?_⟩
  · rw [ht k]; exact h.1 k
  · rw [hl (ne6_4 k)]; exact h.2.1 k
  · rw [hl (ne6_1 k)]; exact h.2.2.1 k
  · rw [hl (ne6_2 k), hr k]; exact h.2.2.2 k
theorem KM_cg {G G' : Gt} {M : St} {v : Nat} (h : KM G M v) (hv : G' v = G v) : KM G' M v := by
  unfold KM at h ⊢
  rw [hv]
  exact h
theorem FT_cg {G G' : Gt} {t : Nat} {l : List Nat} (h : FT G t l) (hv : G' (20 + t) = G (20 + t)) : FT G' t l := by
  unfold FT at h ⊢
  rw [hv]
  exact h
theorem FT_nil {G : Gt} {t : Nat} : FT G t [] := ⟨Nat.zero_le _, Srt_nil, fun r hr => (by cases hr), fun r hr => (by cases hr)⟩
theorem sub_and {x y : Int32} (h : (x &&& (y ^^^ (-1))) = 0) : sub x y := by
  intro j hj hb
  have h1 : bt (x &&& (y ^^^ (-1))) j = false := by rw [h, bt_0 (by omega)]
  rw [bt_and (by omega), bt_not (by omega), hb] at h1
  cases hy : bt y j
  · rw [hy] at h1; simp at h1
  · rfl
theorem bq_63 : ∀ c : Fin 64, ∀ i : Fin 32, bq (nI c.1) i.1 = true → bq 63 i.1 = true := by decide +kernel
theorem in63 {x : Int32} {c : Nat} (hc : c < 64) (h : (x &&& (nI c ^^^ (-1))) = 0) : ∃ j, j < 64 ∧ x = nI j := by
  obtain ⟨j, hj, he⟩ := pk_andE x (m := 63) 6 (by decide)
  refine ⟨j, hj, he ▸ (bq_ext fun i hi => ?_).symm⟩
  rw [bq_and]
  have h1 : bq (x &&& (nI c ^^^ (-1))) i = false := by rw [h, bq_0]
  rw [bq_and, bq_xor, bq_m1 i hi, Bool.xor_true] at h1
  cases hx : bq x i
  · rfl
  · rw [hx] at h1
    have hcb : bq (nI c) i = true := by
      cases hq : bq (nI c) i
      · rw [hq] at h1; simp at h1
      · rfl
    rw [bq_63 ⟨c, hc⟩ ⟨i, hi⟩ hcb]
    rfl
theorem RR.nt {S M M' : St} {G : Gt} {nt nv c : Nat} {x1 x2 : Int32} (h : RR S G nt nv M) (hnt : nt < 3) (hc0 : 0 < c) (hc : c < 64) (hx1 : x1 = nI c) (hsub : sub x2 x1) (m1 : ∀ k, k ≠ 0 → k ≠ 2 → M'.1 k = M.1 k) (m2 : M'.1 2 = nI (nt + 1)) (m3 : ∀ k t, (k ≠ 3 ∧ k ≠ 4 ∧ k ≠ 5) ∨ t ≠ nt → M'.2 k t = M.2 k t) (m4 : M'.2 3 nt = x1 ∧ M'.2 4 nt = x2 ∧ M'.2 5 nt = 0) : RR (w1 (w1 (nTS S nt) 56 (nI (nt + 1))) 42 (nI (nt + 1))) (nTG G nt (gL [x1, x2])) (nt + 1) nv M' := by
  have hb := h.b
  obtain ⟨⟨a1, a2, a3, a4, a5⟩, ⟨⟨hG, hA, hS⟩, hP, g2, g7, gv, gt⟩, ⟨Tb, hB, hV⟩, hD, nu, Un, u1, u2, u3, u4⟩ := h
  have s1 : ∀ k, k ≠ 42 → k ≠ 56 → (k < 1 + 7 * nt ∨ 8 + 7 * nt ≤ k) → (w1 (w1 (nTS S nt) 56 (nI (nt + 1))) 42 (nI (nt + 1))).1 k = S.1 k := fun k p q r => by
    rw [w1_ne p, w1_ne q]
    exact if_neg (by omega)
  have s2 : ∀ k, (k < 1 + 7 * nt ∨ 8 + 7 * nt ≤ k) → (w1 (w1 (nTS S nt) 56 (nI (nt + 1))) 42 (nI (nt + 1))).2 k = S.2 k := fun k r => if_neg (by omega)
  have s3 : ∀ k, 1 + 7 * nt ≤ k → k < 8 + 7 * nt → Rw (w1 (w1 (nTS S nt) 56 (nI (nt + 1))) 42 (nI (nt + 1))) k [] := fun k p q => by
    refine ⟨?_, Nat.zero_le _, Sg_nil, okL_nil⟩
    rw [w1_ne (by omega), w1_ne (by omega)]
    exact if_pos ⟨p, q⟩
  have m3' : ∀ k, k ≠ 3 → k ≠ 4 → k ≠ 5 → M'.2 k = M.2 k := fun k p q r => funext fun t => m3 k t (Or.inl ⟨p, q, r⟩)
  have hGv : ∀ v, v < nv → nTG G nt (gL [x1, x2]) v = G v := fun v hv => nTG_n (by omega)
  have hGt : ∀ t, t < nt → nTG G nt (gL [x1, x2]) (20 + t) = G (20 + t) := fun t ht => nTG_n (by omega)
  have hcg : ∀ v, v < nv → VV (nTG G nt (gL [x1, x2])) (up Tb nt []) v = VV G Tb v := fun v hv => VV_cg hG hGv (fun t ht => up_n (by omega)) (v + 1) v (Nat.lt_succ_self v) hv (v + 1) (Nat.lt_succ_self v)
  refine ⟨⟨?_, ?_, ?_, ?_, ?_⟩, ⟨⟨⟨⟨by omega, hb.2⟩, fun v hv => WV_cg (hG.2 v hv) (hGv v hv) (by omega)⟩, fun v hv => ?_, fun v hv => by rw [hGv v hv]; exact hS v hv⟩, fun q hq => by rw [m3' 1 (by decide) (by decide) (by decide)]; exact hP q hq, m2, (m1 7 (by decide) (by decide)).trans g7, fun v hv => ?_, fun t ht => ?_⟩, ⟨up Tb nt [], fun t ht => ?_, fun v hv => ?_⟩, ?_, nu, Un, u1, ?_, (m1 32 (by decide) (by decide)).trans u3, fun j hj t ht => ?_⟩
  · rw [w1_ne (by decide), w1_eq]
  · rw [s1 55 (by decide) (by decide) (by omega)]; exact a2
  · rw [w1_eq]
  · rw [s1 43 (by decide) (by decide) (by omega)]; exact a4
  · rw [s1 44 (by decide) (by decide) (by omega)]; exact a5
  · refine GA_cg (hA v hv) (hGv v hv) (fun h6 => ?_) (fun h6 => ?_) (fun h6 => ?_)
    · have := (hG.L' hv h6).2
      exact hGv _ (by omega)
    · have := (hG.R' hv h6).2
      exact hGv _ (by omega)
    · exact hGt _ (hG.T' hv h6).2
  · obtain ⟨b1, b2, b3⟩ := gv v hv
    refine ⟨KM_cg (KM_fr b1 fun k p q => m3' k (by omega) (by omega) (by omega)) (hGv v hv), by rw [hGv v hv]; exact b2, fun q hq hbq => ?_⟩
    rw [hGv v hv] at hbq
    have := b3 q hq hbq
    omega
  · by_cases htn : t = nt
    · subst htn
      rw [nTG_s]
      exact ⟨m4.1, m4.2.1, hsub, c, hc0, hc, hx1⟩
    · rw [hGt t (by omega), m3 3 t (Or.inr htn), m3 4 t (Or.inr htn)]
      exact gt t (by omega)
  · by_cases htn : t = nt
    · subst htn
      rw [up_s]
      exact ⟨s3 _ (by omega) (by omega), ⟨m4.2.2, Sg_nil⟩, FT_nil⟩
    · rw [up_n htn]
      obtain ⟨b1, ⟨b2, b3⟩, b4⟩ := hB t (by omega)
      refine ⟨b1.fr (s1 _ (by omega) (by omega) (by omega)) (s2 _ (by omega)), ⟨(m3 5 t (Or.inr htn)).trans b2, ?_⟩, FT_cg b4 (hGt t (by omega))⟩
      rw [m3' 6 (by decide) (by decide) (by decide)]
      exact b3
  · rw [hcg v hv]
    exact (hV v hv).fr (s1 _ (by omega) (by omega) (by omega)) (s2 _ (by omega))
  · rcases hD with ⟨d1, d2⟩ | ⟨u, l, d1, d2, d3, d4, d5, d6, d7, d8, d9⟩
    · exact Or.inl ⟨(s1 44 (by decide) (by decide) (by omega)).trans d1, (m1 21 (by decide) (by decide)).trans d2⟩
    · refine Or.inr ⟨u, l, d1, (s1 44 (by decide) (by decide) (by omega)).trans d2, (m1 21 (by decide) (by decide)).trans d3, (m1 22 (by decide) (by decide)).trans d4, d5.fr (s1 0 (by decide) (by decide) (by omega)) (s2 0 (by omega)), (m1 23 (by decide) (by decide)).trans d6, by rw [m3' 24 (by decide) (by decide) (by decide)]; exact d7, d8, by rw [hGv u d1]; exact d9⟩
  · exact (s1 45 (by decide) (by decide) (by omega)).trans u2
  · obtain ⟨e1, e2, e3, e4⟩ := u4 j hj t ht
    rw [m3' 33 (by decide) (by decide) (by decide), m3' 34 (by decide) (by decide) (by decide)]
    refine ⟨e1, e2, fun htn => ?_, fun htn => e4 (by omega)⟩
    by_cases hte : t = nt
    · subst hte
      rw [e4 (Nat.le_refl _)]
      exact ⟨s3 _ (by omega) (by omega), FT_nil⟩
    · obtain ⟨e5, e6⟩ := e3 (by omega)
      exact ⟨e5.fr (s1 _ (by omega) (by omega) (by omega)) (s2 _ (by omega)), FT_cg e6 (hGt t (by omega))⟩
theorem sm_table : Sm_table RR := by
  intro S G nt nv M x1 x2 h
  have hb := h.b
  have hbad : (x1 < 1 ∨ 63 < x1 ∨ x2 = 0 ∨ (x2 &&& (x1 ^^^ (-1))) ≠ 0) → d10_table G nt nv x1 x2 S = some (1, 0, S, G, nt, nv) := by
    intro hx
    unfold d10_table
    by_cases h1 : x1 < 1
    · rw [if_pos h1]
    rw [if_neg h1]
    by_cases h2 : 63 < x1
    · rw [if_pos h2]
    rw [if_neg h2]
    by_cases h3 : x2 = 0
    · rw [if_pos h3]
    rw [if_neg h3]
    rw [if_neg (((hx.resolve_left h1).resolve_left h2).resolve_left h3)]
  have mbad : (x1 < 1 ∨ 63 < x1 ∨ x2 ≤ 0 ∨ (x2 &&& (x1 ^^^ (-1))) ≠ 0) → m_table x1 x2 M = some (0, w1 M 0 1) := by
    intro hx
    have hk : (lt (w1 M 0 1) fun (S9 : St) => if (S9.1 0) ≤ 0 then (rd (S9.1 2) 3 fun (j11 : Nat) => lt (w2 S9 3 j11 x1) fun (S13 : St) => rd (S13.1 2) 3 fun (j14 : Nat) => lt (w2 S13 4 j14 x2) fun (S16 : St) => rd (S16.1 2) 3 fun (j17 : Nat) => lt (w2 S16 5 j17 0) fun (S19 : St) => lt (w1 S19 2 ((S19.1 2) + 1)) fun (S20 : St) => some (((S20.1 2) - 1), S20)) else (some (0, S9))) = some (0, w1 M 0 1) := by
      rw [lt_d, w1_eq, if_neg z1l]
    unfold m_table m_in
    by_cases h1 : x1 < 1
    · rw [if_pos h1, cb_s, jn_d, if_pos z00]
      dsimp only
      rw [jn_d, if_pos z00]
      exact hk
    rw [if_neg h1]
    by_cases h2 : 63 < x1
    · rw [if_pos h2, cb_s, jn_d, if_pos z00]
      dsimp only
      rw [jn_d, if_pos z00]
      exact hk
    rw [if_neg h2, cb_s, jn_d, if_neg z10]
    by_cases h3 : x2 ≤ 0
    · rw [if_pos h3]
      dsimp only
      rw [jn_d, if_pos z00]
      exact hk
    rw [if_neg h3, if_neg (((hx.resolve_left h1).resolve_left h2).resolve_left h3)]
    dsimp only
    rw [jn_d, if_pos z00]
    exact hk
  have e0 : ∀ (hx : d10_table G nt nv x1 x2 S = some (1, 0, S, G, nt, nv)) (hy : m_table x1 x2 M = some (0, w1 M 0 1)), ∃ (e0 : Nat) (r k r2 : Int32) (S' M' : St) (G' : Gt) (nt' nv' : Nat), d10_table G nt nv x1 x2 S = some (e0, r, S', G', nt', nv') ∧ m_table x1 x2 M = some (r2, M') ∧ m_thrown M' = some k ∧ ((e0 = 0 ∧ k = 0) ∨ (e0 = 1 ∧ k = 1) ∨ (e0 = 2 ∧ k = 2)) ∧ (e0 = 0 → r = r2) ∧ RR S' G' nt' nv' M' := fun hx hy => ⟨1, 0, 1, 0, S, _, G, nt, nv, hx, hy, thr_w, Or.inr (Or.inl ⟨rfl, rfl⟩), (fun z => by cases z), h.x0⟩
  by_cases h1 : x1 < 1
  · exact e0 (hbad (Or.inl h1)) (mbad (Or.inl h1))
  by_cases h2 : 63 < x1
  · exact e0 (hbad (Or.inr (Or.inl h2))) (mbad (Or.inr (Or.inl h2)))
  by_cases h4' : ¬ (x2 &&& (x1 ^^^ (-1))) = 0
  · exact e0 (hbad (Or.inr (Or.inr (Or.inr h4')))) (mbad (Or.inr (Or.inr (Or.inr h4'))))
  have h4 := Decidable.not_not.mp h4'
  have h00 : ¬ x1 < 0 := fun z => h1 (by
    rw [Int32.lt_iff_toInt_lt] at z ⊢
    have e1 : (1 : Int32).toInt = 1 := rfl
    have e2 : (0 : Int32).toInt = 0 := rfl
    omega)
  obtain ⟨c, hc31, rfl⟩ := nI_of h00
  have hc0 : 0 < c := by
    rcases Nat.eq_zero_or_pos c with z | z
    · subst z; exact absurd (show nI 0 < (1 : Int32) by decide) h1
    · exact z
  have hc : c < 64 := by
    rcases Nat.lt_or_ge c 64 with z | z
    · exact z
    · exact absurd (nI_lt (a := 63) (by omega) hc31) h2
  obtain ⟨j, hj, rfl⟩ := in63 hc h4
  by_cases hj0 : j = 0
  · subst hj0
    exact e0 (hbad (Or.inr (Or.inr (Or.inl rfl)))) (mbad (Or.inr (Or.inr (Or.inl (by decide)))))
  have hj1 : ¬ nI j = 0 := nI_ne0 (by omega) (by omega)
  have hj2 : ¬ nI j ≤ 0 := nI_nle (by omega) (by omega)
  by_cases hn3 : nt = 3
  · subst hn3
    have hcl : d10_table G 3 nv (nI c) (nI j) S = some (2, 0, S, G, 3, nv) := by
      unfold d10_table
      rw [if_neg h1, if_neg h2, if_neg hj1, if_pos h4, h.s42, if_neg (show ¬ nI 3 < (3 : Int32) by decide)]
    have hm : m_table (nI c) (nI j) M = some (0, w1 M 0 2) := by
      unfold m_table m_in
      rw [if_neg h1, if_neg h2, cb_s, jn_d, if_neg z10, if_neg hj2, if_pos h4]
      dsimp only
      rw [jn_d, if_neg z10, h.m2, if_pos (show nI 3 = (3 : Int32) from rfl)]
      dsimp only
      rw [lt_d, w1_eq, if_neg z2l]
    exact ⟨2, 0, 2, 0, S, _, G, 3, nv, hcl, hm, thr_w, Or.inr (Or.inr ⟨rfl, rfl⟩), (fun z => by cases z), h.x0⟩
  · have hnt : nt < 3 := by omega
    have hs42 : (w1 (nTS S nt) 56 (nI (nt + 1))).1 42 = nI nt := by
      rw [w1_ne (by decide)]
      exact (if_neg (by omega)).trans h.s42
    have hcl : d10_table G nt nv (nI c) (nI j) S = some (0, nI nt, w1 (w1 (nTS S nt) 56 (nI (nt + 1))) 42 (nI (nt + 1)), nTG G nt (gL [nI c, nI j]), nt + 1, nv) := by
      unfold d10_table d10_tableT
      rw [if_neg h1, if_neg h2, if_neg hj1, if_pos h4, h.s42, if_pos (show nI nt < (3 : Int32) from nI_lt (b := 3) hnt (by decide)), gd_t hnt, hs42, nI_1, lt_d, w1_eq, nI_pred]
    have e2 : (w1 M 0 0).1 2 = nI nt := (w1_ne (by decide)).trans h.m2
    have hm : m_table (nI c) (nI j) M = some (nI nt, w1 (w2 (w2 (w2 (w1 M 0 0) 3 nt (nI c)) 4 nt (nI j)) 5 nt 0) 2 (nI (nt + 1))) := by
      unfold m_table m_in
      rw [if_neg h1, if_neg h2, cb_s, jn_d, if_neg z10, if_neg hj2, if_pos h4]
      dsimp only
      rw [jn_d, if_neg z10, h.m2, if_neg (show ¬ nI nt = (3 : Int32) from fun z => hn3 ((nI_eq (b := 3) (by omega) (by decide)).mp z))]
      dsimp only
      rw [lt_d, w1_eq, if_pos z0l, e2, rd_n hnt (by decide), lt_d, w2_1, e2, rd_n hnt (by decide), lt_d, w2_1, w2_1, e2, rd_n hnt (by decide), lt_d, w2_1, w2_1, w2_1, e2, nI_1, lt_d, w1_eq, nI_pred]
    refine ⟨0, _, 0, _, _, _, _, _, _, hcl, hm, ?_, Or.inl ⟨rfl, rfl⟩, fun _ => rfl, h.nt hnt hc0 hc rfl (sub_and h4) (fun k p q => ?_) w1_eq (fun k t p => ?_) ⟨?_, ?_, ?_⟩⟩
    · rw [thr_n, w1_ne (by decide), w2_1, w2_1, w2_1, w1_eq]
    · rw [w1_ne q, w2_1, w2_1, w2_1, w1_ne p]
    · rw [w1_2]
      rcases p with ⟨p1, p2, p3⟩ | p
      · rw [w2_ne p3, w2_ne p2, w2_ne p1]
        rfl
      · have g : ∀ {T : St} {q : Nat} {x : Int32}, (w2 T q nt x).2 k t = T.2 k t := fun {T q x} => by
          by_cases hk : k = q
          · subst hk; exact w2_nj p
          · rw [w2_ne hk]
        rw [g, g, g]
        rfl
    · rw [w1_2, w2_ne (by decide), w2_ne (by decide), w2_at]
    · rw [w1_2, w2_ne (by decide), w2_at]
    · rw [w1_2, w2_at]
