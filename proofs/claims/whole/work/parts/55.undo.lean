/-! ===== undo ===== -/
theorem n3 {v : Nat} : (3 : Int32) * nI v = nI (3 * v) := pk_mul 3 v
theorem n36 {v : Nat} : (36 : Int32) * nI v = nI (36 * v) := pk_mul 36 v
theorem recall_n {S : St} {t j : Nat} {l : List Nat} (h : Rw S (3 + 7 * t + j) l) (hj : j < 5) (ht : t < 3) : ∃ S', d6_recall t (nI j) S = some S' ∧ Rw S' (1 + 7 * t) l ∧ Fr (1 + 7 * t) S S' := by
  unfold d6_recall
  have hl := h.2.1
  rw [dcap_t (by omega)] at hl
  obtain ⟨S1, e1, s1, f1⟩ := takeOver_n (i := 1 + 7 * t) h (by rw [dcap_t (by omega)]; exact hl) (by omega)
  rw [if_neg (nI_pos (by omega)), if_neg (show ¬ (5 : Int32) ≤ nI j from nI_ge (b := 5) hj (by decide)), rd_n hj (by decide), rd_n hj (by decide), e1, cb_s]
  exact ⟨S1, rfl, s1, f1⟩
theorem mundo_n {M : St} {j nt : Nat} (h32 : M.1 32 = nI (j + 1)) (h2 : M.1 2 = nI nt) (hj : j < 5) (hnt : nt ≤ 3) : ∃ M', m_undo M = some (nI j, M') ∧ M'.1 = (w1 (w1 M 0 0) 32 (nI j)).1 ∧ (∀ k, k ≠ 5 → k ≠ 6 → M'.2 k = M.2 k) ∧ (∀ t, t < nt → M'.2 5 t = M.2 33 (3 * j + t)) ∧ ∀ i, i < 36 → M'.2 6 i = M.2 34 (36 * j + i) := by
  unfold m_undo
  have e32 : (w1 M 0 0).1 32 = nI (j + 1) := (w1_ne (by decide)).trans h32
  rw [jn_d, h32, if_neg (nI_ne0 (by omega) (by omega))]
  dsimp only
  rw [lt_d, w1_eq, if_pos z0l, e32, nI_pred, lt_d]
  refine lq2 (Q := fun x => ∃ M' : St, x = some (nI j, M') ∧ M'.1 = (w1 (w1 M 0 0) 32 (nI j)).1 ∧ (∀ k, k ≠ 5 → k ≠ 6 → M'.2 k = M.2 k) ∧ (∀ t, t < nt → M'.2 5 t = M.2 33 (3 * j + t)) ∧ ∀ i, i < 36 → M'.2 6 i = M.2 34 (36 * j + i)) (fun d (a : Int32) (T : St) => ∃ k, k + d = nt ∧ a = nI k ∧ T.1 = (w1 (w1 M 0 0) 32 (nI j)).1 ∧ (∀ k, k ≠ 5 → T.2 k = M.2 k) ∧ ∀ t, t < k → T.2 5 t = M.2 33 (3 * j + t)) ?_ _ nt _ _ (FU_lt (by omega)) ⟨0, by omega, rfl, rfl, fun _ _ => rfl, fun t ht => by omega⟩
  rintro d a T g ⟨k, hk, rfl, hT1, hT2, hT5⟩ ih
  have t2 : T.1 2 = nI nt := by rw [hT1, w1_ne (by decide), w1_ne (by decide), h2]
  have t32 : T.1 32 = nI j := by rw [hT1, w1_eq]
  rw [t2]
  by_cases h0 : d = 0
  · rw [if_pos (nI_le (by omega) (by omega))]
    refine lq2 (Q := fun x => ∃ M' : St, x = some (nI j, M') ∧ M'.1 = (w1 (w1 M 0 0) 32 (nI j)).1 ∧ (∀ k, k ≠ 5 → k ≠ 6 → M'.2 k = M.2 k) ∧ (∀ t, t < nt → M'.2 5 t = M.2 33 (3 * j + t)) ∧ ∀ i, i < 36 → M'.2 6 i = M.2 34 (36 * j + i)) (fun d (a : Int32) (U : St) => ∃ k, k + d = 36 ∧ a = nI k ∧ U.1 = T.1 ∧ (∀ k, k ≠ 6 → U.2 k = T.2 k) ∧ ∀ i, i < k → U.2 6 i = M.2 34 (36 * j + i)) ?_ _ 36 _ _ (FU_lt (by omega)) ⟨0, by omega, rfl, rfl, fun _ _ => rfl, fun t ht => by omega⟩
    rintro d2 a U g2 ⟨i, hi, rfl, hU1, hU2, hU6⟩ ih2
    have u32 : U.1 32 = nI j := by rw [hU1, t32]
    by_cases h1 : d2 = 0
    · rw [if_pos (show (36 : Int32) ≤ nI i from nI_le (a := 36) (by omega) (by omega)), u32]
      refine ⟨U, rfl, hU1.trans hT1, fun q a b => (hU2 q b).trans (hT2 q a), fun t ht => ?_, fun q hq => hU6 q (by omega)⟩
      rw [hU2 5 (by decide)]
      exact hT5 t (by omega)
    · rw [if_neg (show ¬ (36 : Int32) ≤ nI i from nI_ge (b := 36) (by omega) (by decide)), u32, n36, nI_add, rd_n (by omega) (by decide), rd_n (by omega) (by decide), lt_d, nI_1]
      refine ih2 (d2 - 1) _ _ (by omega) ⟨i + 1, by omega, rfl, hU1, fun q hq => (w2_ne hq).trans (hU2 q hq), fun q hq => ?_⟩
      by_cases hqi : q = i
      · rw [hqi, w2_at, hU2 34 (by decide), hT2 34 (by decide)]
      · rw [w2_nj hqi]
        exact hU6 q (by omega)
  · rw [if_neg (nI_ge (by omega) (by omega)), t32, n3, nI_add, rd_n (by omega) (by decide), rd_n (by omega) (by decide), lt_d, nI_1]
    refine ih (d - 1) _ _ (by omega) ⟨k + 1, by omega, rfl, hT1, fun q hq => (w2_ne hq).trans (hT2 q hq), fun q hq => ?_⟩
    by_cases hqk : q = k
    · rw [hqk, w2_at, hT2 33 (by decide)]
    · rw [w2_nj hqk]
      exact hT5 q (by omega)
theorem sm_undo : Sm_undo RR := by
  intro S G nt nv M h
  have hb := h.b
  obtain ⟨nu, Un, hnu, h45, h32, hUn⟩ := h.2.2.2.2
  by_cases hn0 : nu = 0
  · subst hn0
    have hc : d10_undo G nt nv S = some (2, 0, S) := by
      unfold d10_undo
      rw [h45, if_neg (show ¬ (0 : Int32) < nI 0 by decide)]
    have hm : m_undo M = some (0, w1 M 0 1) := by
      unfold m_undo
      rw [jn_d, h32, if_pos (show nI 0 = (0 : Int32) from rfl)]
      dsimp only
      rw [lt_d, w1_eq, if_neg z1l]
    exact ⟨2, 0, 1, 0, S, _, hc, hm, thr_w, Or.inr ⟨rfl, rfl⟩, (fun z => by cases z), h.x0⟩
  · obtain ⟨j, rfl⟩ : ∃ j, nu = j + 1 := ⟨nu - 1, by omega⟩
    obtain ⟨M', e1, m1, m2, m5, m6⟩ := mundo_n h32 h.m2 (by omega) hb.1
    have hUj := hUn j (Nat.lt_succ_self j)
    have hcl : ∃ T : St, d10_undo G nt nv S = (cb (d10_showViews G nt nv T) fun (S19 : St) => some (0, (S19.1 45), S19)) ∧ (∀ t, t < nt → Rw T (1 + 7 * t) (Un j t)) ∧ ∀ k, (∀ t, t < nt → k ≠ 1 + 7 * t) → T.1 k = (w1 S 45 (nI j)).1 k ∧ T.2 k = S.2 k := by
      unfold d10_undo
      rw [h45, if_pos (show (0 : Int32) < nI (j + 1) from nI_lt (a := 0) (by omega) (by omega)), nI_pred, lt_d]
      refine lq2 (Q := fun x => ∃ T : St, x = (cb (d10_showViews G nt nv T) fun (S19 : St) => some (0, (S19.1 45), S19)) ∧ (∀ t, t < nt → Rw T (1 + 7 * t) (Un j t)) ∧ ∀ k, (∀ t, t < nt → k ≠ 1 + 7 * t) → T.1 k = (w1 S 45 (nI j)).1 k ∧ T.2 k = S.2 k) (fun d (a : Int32) (T : St) => ∃ k, k + d = nt ∧ a = nI k ∧ (∀ t, t < k → Rw T (1 + 7 * t) (Un j t)) ∧ ∀ k, (∀ t, t < nt → k ≠ 1 + 7 * t) → T.1 k = (w1 S 45 (nI j)).1 k ∧ T.2 k = S.2 k) ?_ _ nt _ _ (FU_lt (by omega)) ⟨0, by omega, rfl, fun t ht => by omega, fun k hk => ⟨rfl, rfl⟩⟩
      rintro d a T g ⟨k, hk, rfl, hR, hF⟩ ih
      have t42 : T.1 42 = nI nt := by rw [(hF 42 (fun t ht => by omega)).1, w1_ne (by decide), h.s42]
      have t56 : T.1 56 = nI nt := by rw [(hF 56 (fun t ht => by omega)).1, w1_ne (by decide), h.s56]
      have t45 : T.1 45 = nI j := by rw [(hF 45 (fun t ht => by omega)).1, w1_eq]
      rw [t42]
      by_cases h0 : d = 0
      · rw [if_pos (nI_le (by omega) (by omega))]
        exact ⟨T, rfl, fun t ht => hR t (by omega), hF⟩
      · have hkn : k < nt := by omega
        obtain ⟨-, -, u3, -⟩ := hUj k (by omega)
        obtain ⟨u3, -⟩ := u3 hkn
        have u3' : Rw T (3 + 7 * k + j) (Un j k) := u3.fr (by rw [(hF _ (fun t ht => by omega)).1, w1_ne (by omega)]) (hF _ (fun t ht => by omega)).2
        obtain ⟨T1, p1, p2, p3⟩ := recall_n u3' (by omega) (by omega)
        rw [if_neg (nI_ge hkn (by omega)), tableAt_i t42 t56 hb.1 hkn, cb_s, oc_s, gd_t hkn, t45, p1, cb_s, nI_1]
        refine ih (d - 1) _ _ (by omega) ⟨k + 1, by omega, rfl, fun t ht => ?_, fun q hq => ⟨(p3.1 q (hq k hkn)).trans (hF q hq).1, (p3.2 q (hq k hkn)).trans (hF q hq).2⟩⟩
        by_cases htk : t = k
        · rw [htk]; exact p2
        · exact Rw_fr (hR t (by omega)) p3 (by omega)
    obtain ⟨T, e2, hR, hF⟩ := hcl
    have n : ∀ k, k ≠ 45 → (∀ t, t < nt → k ≠ 1 + 7 * t) → T.1 k = S.1 k ∧ T.2 k = S.2 k := fun k a b => ⟨(hF k b).1.trans (w1_ne a), (hF k b).2⟩
    have hm1 : ∀ k, k ≠ 0 → k ≠ 32 → M'.1 k = M.1 k := fun k a b => by rw [m1, w1_ne b, w1_ne a]
    have t45 : T.1 45 = nI j := by rw [(hF 45 (fun t ht => by omega)).1, w1_eq]
    have hB' : RB G nt T M' (Un j) := by
      intro t ht
      obtain ⟨u1, u2, u3, -⟩ := hUj t (by omega)
      obtain ⟨-, u4⟩ := u3 ht
      refine ⟨hR t ht, ⟨(m5 t ht).trans u1, fun i hi => ?_⟩, u4⟩
      have hl12 := u4.1
      rw [m6 _ (by omega)]
      have := u2 i hi
      rwa [Nat.add_assoc] at this
    have hU' : RU G nt T M' := by
      refine ⟨j, Un, by omega, t45, by rw [m1, w1_eq], fun i hi t ht => ?_⟩
      obtain ⟨u1, u2, u3, u4⟩ := hUn i (by omega) t ht
      rw [m2 33 (by decide) (by decide), m2 34 (by decide) (by decide)]
      exact ⟨u1, u2, fun htn => ⟨(u3 htn).1.fr (n _ (by omega) (fun q hq => by omega)).1 (n _ (by omega) (fun q hq => by omega)).2, (u3 htn).2⟩, u4⟩
    obtain ⟨S', v1, v2, v3⟩ := RR.tab (h.1.fr fun k hk => (n k (by omega) (fun t ht => by omega)).1) (h.2.1.fr (hm1 2 (by decide) (by decide)) (hm1 7 (by decide) (by decide)) (fun k _ a b => m2 k a b)) hB' (h.2.2.2.1.fr (n 44 (by omega) (fun t ht => by omega)).1 (n 0 (by omega) (fun t ht => by omega)).1 (n 0 (by omega) (fun t ht => by omega)).2 (hm1 21 (by decide) (by decide)) (hm1 22 (by decide) (by decide)) (hm1 23 (by decide) (by decide)) (m2 24 (by decide) (by decide))) hU'
    rw [v1, cb_s, v2.1 45 (fun v hv => by omega), t45] at e2
    exact ⟨0, _, 0, _, S', M', e2, e1, by rw [thr_n, m1, w1_ne (by decide), w1_eq], Or.inl ⟨rfl, rfl⟩, fun _ => rfl, v3⟩
