/-! ===== putBack ===== -/
theorem RR.clr {S M : St} {G : Gt} {nt nv : Nat} (h : RR S G nt nv M) : RR (w1 S 44 (-1)) G nt nv (w1 M 21 0) := by
  obtain ⟨⟨a1, a2, a3, a4, a5⟩, b, ⟨Tb, c, d⟩, e, f⟩ := h
  have hb := b.1.1.1
  exact ⟨⟨(w1_ne (by decide)).trans a1, (w1_ne (by decide)).trans a2, (w1_ne (by decide)).trans a3, (w1_ne (by decide)).trans a4, Or.inl w1_eq⟩, b.fr (w1_ne (by decide)) (w1_ne (by decide)) (fun _ _ _ _ => rfl), ⟨Tb, c.fr (fun t ht => ⟨w1_ne (by omega), rfl⟩) rfl rfl, d.fr (fun v hv => ⟨w1_ne (by omega), rfl⟩)⟩, Or.inl ⟨w1_eq, w1_eq⟩, f.fr (w1_ne (by decide)) (fun t ht j hj => ⟨w1_ne (by omega), rfl⟩) (w1_ne (by decide)) rfl rfl⟩
theorem mnew_n {M : St} {nt : Nat} {N : Nat → List Nat} {z8 : Int32} (h2 : M.1 2 = nI nt) (hnt : nt ≤ 3) (hN : ∀ t, t < nt → Tn M t (N t) ∧ (N t).length ≤ 12) : ∃ T, lp (fun _ _ => none) (fun (g13 : Int32 → St → Option (Int32 × St)) (x11 : Int32) (S12 : St) => if (S12.1 2) ≤ x11 then (lt (w1 S12 21 0) fun (S15 : St) => some (z8, S15)) else (rd x11 3 fun (j16 : Nat) => rd x11 3 fun (j18 : Nat) => lt (w2 S12 5 j18 (S12.2 28 j16)) fun (S20 : St) => lp (fun _ _ => none) (fun (g23 : Int32 → St → Option (Int32 × St)) (x21 : Int32) (S22 : St) => rd x11 3 fun (j24 : Nat) => if (S22.2 5 j24) ≤ x21 then (g13 (x11 + 1) S22) else (rd ((12 * x11) + x21) 36 fun (j27 : Nat) => rd ((12 * x11) + x21) 36 fun (j29 : Nat) => lt (w2 S22 6 j29 (S22.2 29 j27)) fun (S31 : St) => g23 (x21 + 1) S31)) FU 0 S20)) FU 0 M = some (z8, w1 T 21 0) ∧ T.1 = M.1 ∧ (∀ k, k ≠ 5 → k ≠ 6 → T.2 k = M.2 k) ∧ ∀ t, t < nt → Tm T t (N t) := by
  refine lq2 (Q := fun x => ∃ T : St, x = some (z8, w1 T 21 0) ∧ T.1 = M.1 ∧ (∀ k, k ≠ 5 → k ≠ 6 → T.2 k = M.2 k) ∧ ∀ t, t < nt → Tm T t (N t)) (fun d (a : Int32) (T : St) => ∃ k, k + d = nt ∧ a = nI k ∧ T.1 = M.1 ∧ (∀ k, k ≠ 5 → k ≠ 6 → T.2 k = M.2 k) ∧ ∀ t, t < k → Tm T t (N t)) ?_ _ nt _ _ (FU_lt (by omega)) ⟨0, by omega, rfl, rfl, fun _ _ _ => rfl, fun t ht => by omega⟩
  rintro d a T g ⟨k, hk, rfl, hT1, hT2, hTt⟩ ih
  rw [show T.1 2 = nI nt by rw [hT1, h2]]
  by_cases h0 : d = 0
  · rw [if_pos (nI_le (by omega) (by omega)), lt_d]
    exact ⟨T, rfl, hT1, hT2, fun t ht => hTt t (by omega)⟩
  · have hkn : k < nt := by omega
    obtain ⟨⟨t5, t6⟩, hl12⟩ := hN k hkn
    generalize hL : N k = l at *
    have e28 : T.2 28 k = nI l.length := by rw [hT2 28 (by decide) (by decide)]; exact t5
    rw [if_neg (nI_ge hkn (by omega)), rd_n (by omega) (by decide), rd_n (by omega) (by decide), lt_d, e28]
    refine lq2 (Q := fun x => ∃ T : St, x = some (z8, w1 T 21 0) ∧ T.1 = M.1 ∧ (∀ k, k ≠ 5 → k ≠ 6 → T.2 k = M.2 k) ∧ ∀ t, t < nt → Tm T t (N t)) (fun d (a : Int32) (U : St) => ∃ i, i + d = l.length ∧ a = nI i ∧ U.1 = M.1 ∧ (∀ k, k ≠ 5 → k ≠ 6 → U.2 k = M.2 k) ∧ (∀ t, t < k → Tm U t (N t)) ∧ U.2 5 k = nI l.length ∧ ∀ j, j < i → U.2 6 (12 * k + j) = nI (gl l j)) ?_ _ l.length _ _ (FU_lt (by omega)) ⟨0, by omega, rfl, hT1, fun q a b => (w2_ne a).trans (hT2 q a b), fun t ht => ⟨by rw [w2_nj (by omega)]; exact (hTt t ht).1, by rw [w2_ne (by decide)]; exact (hTt t ht).2⟩, w2_at, fun j hj => by omega⟩
    rintro d2 a U g2 ⟨i, hi, rfl, hU1, hU2, hUt, hU28, hU29⟩ ih2
    rw [rd_n (by omega) (by decide), hU28]
    by_cases h1 : d2 = 0
    · rw [if_pos (nI_le (by omega) (by omega)), nI_1]
      refine ih (d - 1) _ _ (by omega) ⟨k + 1, by omega, rfl, hU1, hU2, fun t ht => ?_⟩
      by_cases htk : t = k
      · subst htk
        rw [hL]
        exact ⟨hU28, fun j hj => hU29 j (by omega)⟩
      · exact hUt t (by omega)
    · have hil : i < l.length := by omega
      have u6 : U.2 29 (12 * k + i) = nI (gl l i) := by rw [hU2 29 (by decide) (by decide)]; exact t6 i hil
      rw [if_neg (nI_ge hil (by omega)), n12, nI_add, rd_n (by omega) (by decide), rd_n (by omega) (by decide), lt_d, u6, nI_1]
      refine ih2 (d2 - 1) _ _ (by omega) ⟨i + 1, by omega, rfl, hU1, fun q a b => (w2_ne b).trans (hU2 q a b), fun t ht => ⟨by rw [w2_ne (by decide)]; exact (hUt t ht).1, fun j hj => ?_⟩, by rw [w2_ne (by decide)]; exact hU28, fun j hj => ?_⟩
      · have h1 := (hN t (by omega)).2
        rw [w2_nj (by omega)]
        exact (hUt t ht).2 j hj
      · by_cases hji : j = i
        · rw [hji, w2_at]
        · rw [w2_nj (by omega)]
          exact hU29 j (by omega)
theorem sm_putBack : Sm_putBack RR := by
  intro S G nt nv M h
  have hb := h.b
  rcases h.2.2.2.1 with ⟨h44, h21⟩ | ⟨u, l, hD⟩
  · have hc : d10_putBack G nt nv S = some (2, 0, S) := by
      unfold d10_putBack
      rw [lt_d, h44, oid_m1, oc_o]
    have hm : m_putBack M = some (0, w1 M 0 1) := by
      unfold m_putBack
      rw [jn_d, if_pos h21]
      dsimp only
      rw [lt_d, jn_d, w1_eq, if_neg z10]
      dsimp only
      rw [w1_eq, if_neg z1l]
    exact ⟨2, 0, 1, 0, S, _, hc, hm, thr_w, Or.inr ⟨rfl, rfl⟩, (fun z => by cases z), h.x0⟩
  · obtain ⟨S1, M1, Tb, e1, e2, hB, hR, h0, hFC, hFX, h46, h47, h48, hpos, hN⟩ := plan_n (h.x0 (x := 0)) hD.x0
    have hu := hD.1
    have hn21 : ¬ M.1 21 = 0 := by rw [hD.2.2.1]; exact z10
    obtain ⟨N, hN⟩ := pick_n hN
    have hcd : d10_putBack G nt nv S = cb (d0_isTold S1) fun (z17 : Int32) => if z17 = 0 then (cb (d10_countPlanned G nt nv S1) fun (z20 : Int32) => cb (d10_carryOut G nt nv S1) fun (S24 : St) => lt (w1 S24 44 (-1)) fun (S25 : St) => some (0, z20, S25)) else (some (2, 0, S1)) := by
      unfold d10_putBack
      rw [lt_d, hD.2.1, oid_nI (by omega), oc_s, gd_t hu, e1, cb_s]
    have hthr : M1.1 0 = 0 := by rw [h0, w1_eq]
    have hB1 : RB G nt S1 M1 Tb := hB.fr (fun t ht => ⟨hFC.1 _ (by unfold scr; omega), hFC.2 _ (by omega) (by unfold scr; omega)⟩) (hFX.2 5 (by omega)) (hFX.2 6 (by omega))
    rcases hpos with hz | hz
    · rw [told0 (h46.trans hz), cb_s, if_pos z00, planned_n hR.s42 hR.s56 hb.1 (fun t ht => (hB1 t ht).1) (fun t ht => (hN t ht).1), cb_s] at hcd
      -- the reference
      have hP0 : RR S1 G nt nv (w1 M1 0 0) := hR.x0
      have hm2 : (w1 M1 0 0).1 2 = nI nt := (w1_ne (by decide)).trans hR.m2
      have hmany : m_manyChanges (w1 M1 0 0) = some (nI (sumN (chg Tb N) nt)) := many_n hm2 hb.1 (fun t ht => ⟨(hB1 t ht).2.1, (hB1 t ht).2.2.1, (hB1 t ht).2.2.ok⟩) (fun t ht => ⟨(hN t ht).2.1, (hN t ht).2.2.1, (hN t ht).2.2.ok⟩)
      obtain ⟨nu, Un, hnu, hs45, hm32, hUn⟩ := hP0.2.2.2.2
      have hUl : ∀ j, j < nu → ∀ t, t < 3 → (Un j t).length ≤ 12 := fun j hj t ht => by
        obtain ⟨-, -, q3, q4⟩ := hUn j hj t ht
        by_cases htn : t < nt
        · exact (q3 htn).2.1
        · rw [q4 (by omega)]; exact Nat.zero_le _
      obtain ⟨M2, k1, k2, k3, k4, k5⟩ := keeps_n (M := w1 M1 0 0) hm32 hnu hm2 hb.1 (fun t ht => ⟨(hB1 t ht).2.1, (hB1 t ht).2.2.1⟩) (fun j hj t ht => ⟨(hUn j hj t ht).1, (hUn j hj t ht).2.1, hUl j hj t ht⟩)
      obtain ⟨T, t1, t2, t3, t4⟩ := mnew_n (M := M2) (N := N) (z8 := nI (sumN (chg Tb N) nt)) ((k3 2 (by decide)).trans hm2) hb.1 (fun t ht => ⟨(hN t ht).2.1.fr (k4 28 (by decide) (by decide)) (k4 29 (by decide) (by decide)), (hN t ht).2.2.1⟩)
      have hm : m_putBack M = some (nI (sumN (chg Tb N) nt), w1 T 21 0) := by
        unfold m_putBack
        rw [jn_d, if_neg hn21]
        dsimp only
        rw [lt_d, jn_d, w1_eq, if_pos z00, e2, cb_s, if_pos (show M1.1 25 ≤ 0 by rw [hz]; decide), lt_d]
        dsimp only
        rw [w1_eq, if_pos z0l, hmany, cb_s, k1, cb_s]
        exact t1
      -- the class
      obtain ⟨X, c1, c2, c3⟩ := carry_n (G := G) (nv := nv) hR.s42 hR.s56 hb.1 hs45 hnu (fun t ht => (hB1 t ht).1) (fun t ht => (hN t ht).1) (fun t ht j hj => ((hUn j hj t (by omega)).2.2.1 ht).1)
      have hT1 : ∀ k, k ≠ 0 → k ≠ 32 → T.1 k = M1.1 k := fun k a b => by rw [t2, k3 k b, w1_ne a]
      have hT2 : ∀ k, k ≠ 5 → k ≠ 6 → k ≠ 33 → k ≠ 34 → T.2 k = M1.2 k := fun k a b c d => by rw [t3 k a b, k4 k c d]; rfl
      have hX : ∀ k, k ≠ 45 → (k = 0 ∨ 22 ≤ k) → (w1 X 45 (nI (min (nu + 1) 5))).1 k = S1.1 k ∧ (w1 X 45 (nI (min (nu + 1) 5))).2 k = S1.2 k := fun k a b => ⟨(w1_ne a).trans (c3 k b).1, (c3 k b).2⟩
      have hB2 : RB G nt (w1 X 45 (nI (min (nu + 1) 5))) T N := fun t ht => ⟨(c2 t ht).1.fr (w1_ne (by omega)) rfl, t4 t ht, (hN t ht).2.2⟩
      have hU2 : RU G nt (w1 X 45 (nI (min (nu + 1) 5))) T := by
        refine ⟨min (nu + 1) 5, fun j t => shf nu (fun j => Un j t) (if t < nt then Tb t else []) j, Nat.min_le_right _ _, w1_eq, by rw [t2, k2], fun j hj t ht => ?_⟩
        obtain ⟨w1', w2'⟩ := k5 j hj t ht
        rw [t3 33 (by decide) (by decide), t3 34 (by decide) (by decide)]
        refine ⟨w1', w2', fun htn => ?_, fun htn => ?_⟩
        · have q := (c2 t htn).2 j hj
          dsimp only
          rw [if_pos htn]
          refine ⟨q.fr (w1_ne (by omega)) rfl, ?_⟩
          unfold shf
          by_cases h5 : nu < 5
          · rw [if_pos h5]
            by_cases hjn : j = nu
            · rw [if_pos hjn]; exact (hB1 t htn).2.2
            · rw [if_neg hjn]
              have hj2 : j < nu := by
                have := Nat.min_le_left (nu + 1) 5
                omega
              exact ((hUn j hj2 t ht).2.2.1 htn).2
          · rw [if_neg h5]
            have h55 : nu = 5 := by omega
            subst h55
            have hj5 : j < 5 := hj
            by_cases hjn : j = 4
            · rw [if_pos hjn]; exact (hB1 t htn).2.2
            · rw [if_neg hjn]
              exact ((hUn (j + 1) (by omega) t ht).2.2.1 htn).2
        · dsimp only
          rw [if_neg (show ¬ t < nt by omega)]
          unfold shf
          by_cases h5 : nu < 5
          · rw [if_pos h5]
            by_cases hjn : j = nu
            · rw [if_pos hjn]
            · rw [if_neg hjn]
              have hj2 : j < nu := by
                have := Nat.min_le_left (nu + 1) 5
                omega
              exact (hUn j hj2 t ht).2.2.2 htn
          · rw [if_neg h5]
            have h55 : nu = 5 := by omega
            subst h55
            have hj5 : j < 5 := hj
            by_cases hjn : j = 4
            · rw [if_pos hjn]
            · rw [if_neg hjn]
              exact (hUn (j + 1) (by omega) t ht).2.2.2 htn
      obtain ⟨S', v1, v2, v3⟩ := RR.tab (hR.1.fr fun k hk => (hX k (by omega) (by omega)).1) (hR.2.1.fr (hT1 2 (by decide) (by decide)) (hT1 7 (by decide) (by decide)) (fun k q a b => hT2 k a b (by omega) (by omega))) hB2 (hR.2.2.2.1.fr (hX 44 (by omega) (by omega)).1 (hX 0 (by omega) (by omega)).1 (hX 0 (by omega) (by omega)).2 (hT1 21 (by decide) (by decide)) (hT1 22 (by decide) (by decide)) (hT1 23 (by decide) (by decide)) (hT2 24 (by decide) (by decide) (by decide) (by decide))) hU2
      rw [c1, v1, cb_s, cb_s, lt_d] at hcd
      exact ⟨0, _, 0, _, _, _, hcd, hm, by rw [thr_n, w1_ne (by decide), t2, k3 0 (by decide), w1_eq], Or.inl ⟨rfl, rfl⟩, fun _ => rfl, v3.clr⟩
    · rw [told1 (fun z => hz (by rw [← h46, z]; decide)), cb_s, if_neg z10] at hcd
      have hm : m_putBack M = some (0, w1 M1 0 1) := by
        unfold m_putBack
        rw [jn_d, if_neg hn21]
        dsimp only
        rw [lt_d, jn_d, w1_eq, if_pos z00, e2, cb_s, if_neg hz, lt_d]
        dsimp only
        rw [w1_eq, if_neg z1l]
      exact ⟨2, 0, 1, 0, S1, _, hcd, hm, thr_w, Or.inr ⟨rfl, rfl⟩, (fun z => by cases z), hR.x0⟩
