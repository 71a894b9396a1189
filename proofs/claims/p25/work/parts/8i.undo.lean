/-! ===== undo, putBack: the class's side ===== -/
theorem RLd.fs {S S' : St} {G : Gt} {nv : Nat} {M : Lt} (h : RLd G nv S M) (h44 : S'.1 44 = S.1 44) (h1 : S'.1 0 = S.1 0) (h2 : S'.2 0 = S.2 0) : RLd G nv S' M := by
  rcases h with ⟨a, b⟩ | ⟨u, q1, q2, q3, q4, q5, q6⟩
  · exact Or.inl ⟨h44.trans a, b⟩
  · exact Or.inr ⟨u, q1, h44.trans q2, q3, q4, q5.fr h1 h2, q6⟩
theorem RLd.fm {S : St} {G : Gt} {nv : Nat} {M M' : Lt} (h : RLd G nv S M) (h2 : M' 6 2 = M 6 2) (h3 : M' 6 3 = M 6 3) : RLd G nv S M' := by
  rcases h with ⟨a, b⟩ | ⟨u, q1, q2, q3, q4, q5, q6⟩
  · exact Or.inl ⟨a, h2.trans b⟩
  · exact Or.inr ⟨u, q1, q2, h2.trans q3, by rw [h3]; exact q4, by rw [h3]; exact q5, by rw [h3]; exact q6⟩
theorem RLu.fs {S S' : St} {G : Gt} {nt : Nat} {M : Lt} (h : RLu G nt S M) (h45 : S'.1 45 = S.1 45) (hs : ∀ t, t < nt → ∀ j, j < 5 → S'.1 (3 + 7 * t + j) = S.1 (3 + 7 * t + j) ∧ S'.2 (3 + 7 * t + j) = S.2 (3 + 7 * t + j)) : RLu G nt S' M := by
  obtain ⟨nu, c1, c2, c3, c4⟩ := h
  refine ⟨nu, c1, h45.trans c2, c3, fun j hj t ht => ?_⟩
  obtain ⟨p1, p2, p3⟩ := c4 j hj t ht
  exact ⟨p1, fun z => ⟨(p2 z).1.fr (hs t z j (by omega)).1 (hs t z j (by omega)).2, (p2 z).2⟩, p3⟩
theorem RQ.tab {S1 : St} {G : Gt} {nt nv : Nat} {M : Lt} (hX : SX S1 nt nv) (hG : RLt G nt nv M) (hB : ∀ t, t < nt → okS (M 0 (3 + t)) ∧ Rw S1 (1 + 7 * t) (TbM M t) ∧ FT G t (TbM M t)) (hz : ∀ t, nt ≤ t → t < 3 → M 0 (3 + t) = 0) (hD : RLd G nv S1 M) (hU : RLu G nt S1 M) : ∃ S', d10_showViews G nt nv S1 = some S' ∧ FrS S1 S' ∧ RQ (S', G, nt, nv) M := by
  have hb := hG.1.1.1
  obtain ⟨S', e1, f1, v1⟩ := showViews_n hG.1 (fun t ht => (hB t ht).2.2) (fun t ht => (hB t ht).2.1) hX.2.2.2.1 hX.2.1
  have n : ∀ k, (k < 22 ∨ 42 ≤ k) → S'.1 k = S1.1 k ∧ S'.2 k = S1.2 k := fun k hk => ⟨f1.1 k (fun v hv => by omega), f1.2 k (fun v hv => by omega)⟩
  exact ⟨S', e1, f1, hX.fr (fun k hk => (n k (by omega)).1), hG, ⟨fun t ht => ⟨(hB t ht).1, (hB t ht).2.1.fr (n _ (by have : t < nt := ht; omega)).1 (n _ (by have : t < nt := ht; omega)).2, (hB t ht).2.2⟩, hz, v1⟩, hD.fs (n 44 (by omega)).1 (n 0 (by omega)).1 (n 0 (by omega)).2, hU.fs (n 45 (by omega)).1 (fun t ht j hj => n _ (by omega))⟩
/-- the law's tables move (t's words, the views' words stay) -/
theorem RLt.mv {G : Gt} {nt nv : Nat} {M M' : Lt} (h : RLt G nt nv M) (h0 : ∀ t, t < 3 → M' 0 t = M 0 t) (h1 : M' 1 = M 1) (h60 : M' 6 0 = M 6 0) (h61 : M' 6 1 = M 6 1) : RLt G nt nv M' := by
  obtain ⟨a1, a2, a3, a4, a5⟩ := h
  have hb := a1.1.1
  exact ⟨a1, h60.trans a2, h61.trans a3, fun v hv => ⟨(a4 v hv).1.fr (by rw [h1]), (a4 v hv).2⟩, fun t ht => by rw [h0 t (by omega)]; exact a5 t ht⟩
theorem kundo_0 {S : St} {G : Gt} {nt nv : Nat} {M : Lt} (h : RQ (S, G, nt, nv) M) (h6 : M 6 6 = 0) : k_undo (S, G, nt, nv) = some (-7300, (S, G, nt, nv)) := by
  obtain ⟨nu, c1, c2, c3, -⟩ : RLu G nt S M := h.2.2.2.2
  have hn : nu = 0 := (nI_eq (a := nu) (b := 0) (by omega) (by decide)).mp (c3.symm.trans h6)
  subst hn
  unfold k_undo d10_undo
  dsimp only
  rw [c2, if_neg (show ¬ (0 : Int32) < nI 0 by decide)]
  rfl
theorem kundo_i {S : St} {G : Gt} {nt nv j : Nat} {M M' : Lt} (h : RQ (S, G, nt, nv) M) (h6 : M 6 6 = nI (j + 1)) (hj : j < 5) (m0 : ∀ t, t < 3 → M' 0 t = M 0 t) (m3 : ∀ t, t < 3 → M' 0 (3 + t) = M 5 (3 * j + t)) (m1 : M' 1 = M 1) (m5 : M' 5 = M 5) (m6 : ∀ q, q ≠ 6 → M' 6 q = M 6 q) (m66 : M' 6 6 = nI j) : ∃ S', k_undo (S, G, nt, nv) = some (nI j, (S', G, nt, nv)) ∧ RQ (S', G, nt, nv) M' := by
  obtain ⟨hb3, hb10⟩ := h.b
  obtain ⟨nu, c1, c2, c3, c4⟩ : RLu G nt S M := h.2.2.2.2
  have hn : nu = j + 1 := (nI_eq (a := nu) (b := j + 1) (by omega) (by omega)).mp (c3.symm.trans h6)
  subst hn
  have hUj := c4 j (Nat.lt_succ_self j)
  have hcl : ∃ T : St, d10_undo G nt nv S = (cb (d10_showViews G nt nv T) fun (S19 : St) => some (0, (S19.1 45), S19)) ∧ (∀ t, t < nt → Rw T (1 + 7 * t) (ms (M 5 (3 * j + t)))) ∧ ∀ k, (∀ t, t < nt → k ≠ 1 + 7 * t) → T.1 k = (w1 S 45 (nI j)).1 k ∧ T.2 k = S.2 k := by
    unfold d10_undo
    rw [c2, if_pos (show (0 : Int32) < nI (j + 1) from nI_lt (a := 0) (by omega) (by omega)), nI_pred, lt_d]
    refine lq2 (Q := fun x => ∃ T : St, x = (cb (d10_showViews G nt nv T) fun (S19 : St) => some (0, (S19.1 45), S19)) ∧ (∀ t, t < nt → Rw T (1 + 7 * t) (ms (M 5 (3 * j + t)))) ∧ ∀ k, (∀ t, t < nt → k ≠ 1 + 7 * t) → T.1 k = (w1 S 45 (nI j)).1 k ∧ T.2 k = S.2 k) (fun d (a : Int32) (T : St) => ∃ k, k + d = nt ∧ a = nI k ∧ (∀ t, t < k → Rw T (1 + 7 * t) (ms (M 5 (3 * j + t)))) ∧ ∀ k, (∀ t, t < nt → k ≠ 1 + 7 * t) → T.1 k = (w1 S 45 (nI j)).1 k ∧ T.2 k = S.2 k) ?_ _ nt _ _ (FU_lt (by omega)) ⟨0, by omega, rfl, fun t ht => by omega, fun k hk => ⟨rfl, rfl⟩⟩
    rintro d a T g ⟨k, hk, rfl, hR, hF⟩ ih
    have t42 : T.1 42 = nI nt := by rw [(hF 42 (fun t ht => by omega)).1, w1_ne (by decide), h.s43.2.2.1]
    have t56 : T.1 56 = nI nt := by rw [(hF 56 (fun t ht => by omega)).1, w1_ne (by decide), h.s43.2.2.2]
    have t45 : T.1 45 = nI j := by rw [(hF 45 (fun t ht => by omega)).1, w1_eq]
    rw [t42]
    by_cases h0 : d = 0
    · rw [if_pos (nI_le (by omega) (by omega))]
      exact ⟨T, rfl, fun t ht => hR t (by omega), hF⟩
    · have hkn : k < nt := by omega
      obtain ⟨-, u3, -⟩ := hUj k (by omega)
      have u3 := (u3 hkn).1
      have u3' : Rw T (3 + 7 * k + j) (ms (M 5 (3 * j + k))) := u3.fr (by rw [(hF _ (fun t ht => by omega)).1, w1_ne (by omega)]) (hF _ (fun t ht => by omega)).2
      obtain ⟨T1, p1, p2, p3⟩ := recall_n u3' (by omega) (by omega)
      rw [if_neg (nI_ge hkn (by omega)), tableAt_i t42 t56 hb3 hkn, cb_s, oc_s, gd_t hkn, t45, p1, cb_s, nI_1]
      refine ih (d - 1) _ _ (by omega) ⟨k + 1, by omega, rfl, fun t ht => ?_, fun q hq => ⟨(p3.1 q (hq k hkn)).trans (hF q hq).1, (p3.2 q (hq k hkn)).trans (hF q hq).2⟩⟩
      by_cases htk : t = k
      · rw [htk]; exact p2
      · exact Rw_fr (hR t (by omega)) p3 (by omega)
  obtain ⟨T, e2, hR, hF⟩ := hcl
  have n : ∀ k, k ≠ 45 → (∀ t, t < nt → k ≠ 1 + 7 * t) → T.1 k = S.1 k ∧ T.2 k = S.2 k := fun k a b => ⟨(hF k b).1.trans (w1_ne a), (hF k b).2⟩
  have t45 : T.1 45 = nI j := by rw [(hF 45 (fun t ht => by omega)).1, w1_eq]
  have hX : SX S nt nv := h.1
  have hD : RLd G nv S M := h.2.2.2.1
  obtain ⟨S', v1, v2, v3⟩ := RQ.tab (M := M') (hX.fr fun k hk => (n k (by omega) (fun t ht => by omega)).1) (h.2.1.mv m0 m1 (m6 0 (by decide)) (m6 1 (by decide))) (fun t ht => by
    obtain ⟨p1, p2, -⟩ := hUj t (by omega)
    have e : TbM M' t = ms (M 5 (3 * j + t)) := by unfold TbM; rw [m3 t (by omega)]
    rw [e, m3 t (by omega)]
    exact ⟨p1, hR t ht, (p2 ht).2⟩) (fun t a b => by rw [m3 t b]; exact (hUj t b).2.2 a) ((hD.fm (m6 2 (by decide)) (m6 3 (by decide))).fs (n 44 (by omega) (fun t ht => by omega)).1 (n 0 (by omega) (fun t ht => by omega)).1 (n 0 (by omega) (fun t ht => by omega)).2) ⟨j, by omega, t45, m66, fun i hi t ht => by
    obtain ⟨p1, p2, p3⟩ := c4 i (by omega) t ht
    rw [m5]
    exact ⟨p1, fun z => ⟨(p2 z).1.fr (n _ (by omega) (fun q hq => by omega)).1 (n _ (by omega) (fun q hq => by omega)).2, (p2 z).2⟩, p3⟩⟩
  rw [v1, cb_s, v2.1 45 (fun v hv => by omega), t45] at e2
  refine ⟨S', ?_, v3⟩
  unfold k_undo
  dsimp only
  rw [e2]
  rfl
/-! putBack -/
theorem kput_x {S : St} {G : Gt} {nt nv u : Nat} {M M1 : Lt} (h : RQ (S, G, nt, nv) M) (hD : DL G nv S M u) (hP : l_put M = some M1) (hc : ¬ M1 6 4 ≤ 0) : ∃ S1, k_putBack (S, G, nt, nv) = some (-7300, (S1, G, nt, nv)) ∧ RQ (S1, G, nt, nv) M := by
  obtain ⟨S1, e1, hR, hD1, -, q1, q2, q3, -⟩ := plan3 h hD hP
  refine ⟨S1, ?_, hR⟩
  have hz : ¬ S1.1 46 = 0 := fun z => hc (by rw [← q1.1, z]; decide)
  unfold k_putBack d10_putBack
  dsimp only
  rw [lt_d, hD.oid h, oc_s, gd_t hD.1, e1, cb_s, told1 hz, cb_s, if_neg z10]
  rfl
def kept (M : Lt) (nu j t : Nat) : Int32 := if nu < 5 then (if j = nu then M 0 (3 + t) else M 5 (3 * j + t)) else if j = 4 then M 0 (3 + t) else M 5 (3 * (j + 1) + t)
theorem kput_i {S : St} {G : Gt} {nt nv u nu : Nat} {M M1 M' : Lt} (h : RQ (S, G, nt, nv) M) (hD : DL G nv S M u) (hP : l_put M = some M1) (hc : M1 6 4 = 0) (h66 : M 6 6 = nI nu) (hnu5 : nu ≤ 5) (m0 : ∀ t, t < 3 → M' 0 t = M 0 t) (m3 : ∀ t, t < 3 → M' 0 (3 + t) = M1 4 t) (m1 : M' 1 = M 1) (m60 : M' 6 0 = M 6 0) (m61 : M' 6 1 = M 6 1) (m62 : M' 6 2 = 0) (m66 : M' 6 6 = nI (min (nu + 1) 5)) (m5 : ∀ j, j < min (nu + 1) 5 → ∀ t, t < 3 → M' 5 (3 * j + t) = kept M nu j t) : ∃ S', k_putBack (S, G, nt, nv) = some (nI (sumN (mch M M1) 3), (S', G, nt, nv)) ∧ RQ (S', G, nt, nv) M' := by
  obtain ⟨hb3, hb10⟩ := h.b
  obtain ⟨S1, e1, hR, hD1, fC, q1, q2, q3, -⟩ := plan3 h hD hP
  obtain ⟨nu', c1, c2, c3, c4⟩ : RLu G nt S1 M := hR.2.2.2.2
  have hn : nu' = nu := (nI_eq (by omega) (by omega)).mp (c3.symm.trans h66)
  subst hn
  have hX : SX S1 nt nv := hR.1
  have hz : S1.1 46 = 0 := q1.1.trans hc
  have hTb : ∀ t, t < nt → Rw S1 (1 + 7 * t) (TbM M t) := fun t ht => (hR.2.2.1.1 t ht).2.1
  obtain ⟨T, t1, t2, t3⟩ := carry_n (G := G) (nv := nv) (nu := nu') (Tb := TbM M) (N := fun t => ms (M1 4 t)) (Un := fun j t => ms (M 5 (3 * j + t))) hX.2.2.1 hX.1 hb3 c2 c1 hTb (fun t ht => (q2 t ht).2.1) (fun t ht j hj => ((c4 j hj t (by omega)).2.1 ht).1)
  have n : ∀ k, k ≠ 45 → k ≠ 44 → (k = 0 ∨ 22 ≤ k) → (w1 T 45 (nI (min (nu' + 1) 5))).1 k = S1.1 k ∧ (w1 T 45 (nI (min (nu' + 1) 5))).2 k = S1.2 k := fun k a b c => ⟨(w1_ne a).trans (t3 k c).1, (t3 k c).2⟩
  have hshf : ∀ j t, shf nu' (fun j => ms (M 5 (3 * j + t))) (TbM M t) j = ms (kept M nu' j t) := fun j t => by
    unfold shf kept TbM
    split
    · split <;> rfl
    · split <;> rfl
  have hFk : ∀ j, j < min (nu' + 1) 5 → ∀ t, t < 3 → okS (kept M nu' j t) ∧ (t < nt → FT G t (ms (kept M nu' j t))) ∧ (nt ≤ t → kept M nu' j t = 0) := by
    intro j hj t ht
    have hT : okS (M 0 (3 + t)) ∧ (t < nt → FT G t (ms (M 0 (3 + t)))) ∧ (nt ≤ t → M 0 (3 + t) = 0) := by
      by_cases htn : t < nt
      · exact ⟨(hR.2.2.1.1 t htn).1, fun _ => (hR.2.2.1.1 t htn).2.2, fun z => by omega⟩
      · have h0 : M 0 (3 + t) = 0 := hR.2.2.1.2.1 t (by show nt ≤ t; omega) ht
        exact ⟨by rw [h0]; exact okS_0, fun z => absurd z htn, fun _ => h0⟩
    have hU : ∀ i, i < nu' → okS (M 5 (3 * i + t)) ∧ (t < nt → FT G t (ms (M 5 (3 * i + t)))) ∧ (nt ≤ t → M 5 (3 * i + t) = 0) := fun i hi => by
      obtain ⟨p1, p2, p3⟩ := c4 i hi t ht
      exact ⟨p1, fun z => (p2 z).2, p3⟩
    unfold kept
    split
    · split
      · exact hT
      · exact hU j (by omega)
    · split
      · exact hT
      · exact hU (j + 1) (by omega)
  -- without a draft, before the views are shown
  obtain ⟨M2, eM2⟩ : ∃ M2, M2 = w3 (w3 M' 6 2 (M 6 2)) 6 3 (M 6 3) := ⟨_, rfl⟩
  have k2 : ∀ k, k ≠ 6 → M2 k = M' k := fun k hk => by rw [eM2, w3_n hk, w3_n hk]
  have k26 : ∀ j, j ≠ 2 → j ≠ 3 → M2 6 j = M' 6 j := fun j a b => by rw [eM2, w3_o b, w3_o a]
  have hB' : ∀ t, t < nt → okS (M2 0 (3 + t)) ∧ Rw (w1 T 45 (nI (min (nu' + 1) 5))) (1 + 7 * t) (TbM M2 t) ∧ FT G t (TbM M2 t) := fun t ht => by
    have e : TbM M2 t = ms (M1 4 t) := by unfold TbM; rw [k2 0 (by decide), m3 t (by omega)]
    rw [e, k2 0 (by decide), m3 t (by omega)]
    exact ⟨(q2 t ht).1, (t2 t ht).1.fr (w1_ne (by omega)) rfl, (q2 t ht).2.2⟩
  have hD2 : RLd G nv S1 M := hR.2.2.2.1
  obtain ⟨S2, v1, v2, v3⟩ := RQ.tab (M := M2) (S1 := w1 T 45 (nI (min (nu' + 1) 5))) (hX.fr fun k hk => (by
      by_cases h44 : k = 44
      · subst h44
        exact (w1_ne (by decide)).trans (t3 44 (by omega)).1
      · exact (n k (by omega) h44 (by omega)).1)) (hR.2.1.mv (fun t ht => by rw [k2 0 (by decide)]; exact m0 t ht) (by rw [k2 1 (by decide)]; exact m1) (by rw [k26 0 (by decide) (by decide)]; exact m60) (by rw [k26 1 (by decide) (by decide)]; exact m61)) hB' (fun t a b => by rw [k2 0 (by decide), m3 t b]; exact q3 t a b) ((hD2.fm (by rw [eM2, w3_o (by decide), w3_e]) (by rw [eM2, w3_e])).fs ((w1_ne (by decide)).trans (t3 44 (by omega)).1) ((w1_ne (by decide)).trans (t3 0 (by omega)).1) (t3 0 (by omega)).2) ⟨min (nu' + 1) 5, by omega, w1_eq, by rw [k26 6 (by decide) (by decide)]; exact m66, fun j hj t ht => by
      obtain ⟨p1, p2, p3⟩ := hFk j hj t ht
      rw [k2 5 (by decide), m5 j hj t ht]
      refine ⟨p1, fun z => ⟨?_, p2 z⟩, p3⟩
      rw [← hshf]
      exact ((t2 t z).2 j hj).fr (w1_ne (by omega)) rfl⟩
  refine ⟨w1 S2 44 (-1), ?_, ?_⟩
  · unfold k_putBack d10_putBack
    dsimp only
    rw [lt_d, hD.oid h, oc_s, gd_t hD.1, e1, cb_s, told0 hz, cb_s, if_pos z00, planned_n hX.2.2.1 hX.1 hb3 hTb (fun t ht => (q2 t ht).2.1), cb_s, mch_n h q3, t1, v1, cb_s, cb_s, lt_d]
    rfl
  · refine v3.dr (M' := M') (fun k _ b => w1_ne b) (fun k _ => rfl) (fun k hk => (k2 k (by omega)).symm) (fun j a b _ _ => (k26 j a b).symm) (Or.inl ⟨w1_eq, m62⟩)
