/-! ===== insert, delete ===== -/
theorem RR.tab {S1 M' : St} {G : Gt} {nt nv : Nat} {Tb : Nat → List Nat} (hX : SX S1 nt nv) (hG : RG G nt nv M') (hB : RB G nt S1 M' Tb) (hD : RD G nv S1 M') (hU : RU G nt S1 M') : ∃ S', d10_showViews G nt nv S1 = some S' ∧ FrS S1 S' ∧ RR S' G nt nv M' := by
  have hb := hG.1.1.1
  obtain ⟨S', e1, f1, v1⟩ := showViews_n hG.1 (fun t ht => (hB t ht).2.2) (fun t ht => (hB t ht).1) hX.2.2.2.1 hX.2.1
  have n : ∀ k, (k < 22 ∨ 42 ≤ k) → S'.1 k = S1.1 k ∧ S'.2 k = S1.2 k := fun k hk => ⟨f1.1 k (fun v hv => by omega), f1.2 k (fun v hv => by omega)⟩
  exact ⟨S', e1, f1, hX.fr (fun k hk => (n k (by omega)).1), hG, ⟨Tb, hB.fr (fun t ht => n _ (by omega)) rfl rfl, v1⟩, hD.fr (n 44 (by omega)).1 (n 0 (by omega)).1 (n 0 (by omega)).2 rfl rfl rfl rfl, hU.fr (n 45 (by omega)).1 (fun t ht j hj => n _ (by omega)) rfl rfl rfl⟩
def up (Tb : Nat → List Nat) (u : Nat) (l : List Nat) : Nat → List Nat := fun t => if t = u then l else Tb t
theorem up_s {Tb : Nat → List Nat} {u : Nat} {l : List Nat} : up Tb u l u = l := if_pos rfl
theorem up_n {Tb : Nat → List Nat} {u t : Nat} {l : List Nat} (h : t ≠ u) : up Tb u l t = Tb t := if_neg h
theorem FT_ins {G : Gt} {t r : Nat} {l : List Nat} (h : FT G t l) (hl : l.length < 12) (hv : pt (G (20 + t) 0) r = r) (hf : fnd (G (20 + t) 1) (pt (G (20 + t) 1) r) l = none) : FT G t (insR r l) := by
  have hno := fun q (hq : q ∈ l) => fnd_none hf hq
  refine ⟨Nat.le_trans insR_le hl, insR_srt h.2.1, fun q hq => ?_, fun q hq q2 hq2 he => ?_⟩
  · rcases insR_mem.mp hq with rfl | z
    · exact hv
    · exact h.2.2.1 q z
  · rcases insR_mem.mp hq with rfl | z
    · rcases insR_mem.mp hq2 with rfl | z2
      · rfl
      · exact absurd he.symm (hno q2 z2)
    · rcases insR_mem.mp hq2 with rfl | z2
      · exact absurd he (hno q z)
      · exact h.2.2.2 q z q2 z2 he
theorem FT_rem {G : Gt} {t r : Nat} {l : List Nat} (h : FT G t l) : FT G t (rem r l) := ⟨Nat.le_trans (List.length_filter_le _ _) h.1, rem_srt h.2.1, fun q hq => h.2.2.1 q (rem_mem.mp hq).1, fun q hq q2 hq2 he => h.2.2.2 q (rem_mem.mp hq).1 q2 (rem_mem.mp hq2).1 he⟩
theorem Tm_upd {M M1 : St} {u nt n : Nat} {l : List Nat} {Tb : Nat → List Nat} (hT : ∀ t, t < nt → Tm M t (Tb t) ∧ (Tb t).length ≤ 12) (hF : FrM 6 (12 * u) n M M1) (hn : n ≤ 12) (hS : Sg (M1.2 6) (12 * u) l) : ∀ t, t < nt → Tm (w2 M1 5 u (nI l.length)) t (up Tb u l t) := by
  intro t ht
  by_cases h : t = u
  · subst h
    rw [up_s]
    exact ⟨w2_at, by rw [w2_ne (by decide)]; exact hS⟩
  · rw [up_n h]
    obtain ⟨⟨a, b⟩, c⟩ := hT t ht
    refine ⟨by rw [w2_nj h, hF.2.1 5 (by decide)]; exact a, ?_⟩
    rw [w2_ne (by decide)]
    intro j hj
    rw [hF.2.2 _ (by omega)]
    exact b j hj
theorem sm_insert : Sm_insert RR := by
  intro S G nt nv M x1 x2 h
  have hb := h.b
  rcases ix_n x1 (show nt < 2 ^ 31 by omega) with ho | ⟨u, hu, rfl⟩
  · have hc : d10_insert G nt nv x1 x2 S = some (3, 0, S) := by
      unfold d10_insert
      rw [tableAt_o h.s42 ho, cb_s, oc_o]
    have hm : m_insert x1 x2 M = some (0, w1 M 0 1) := by
      unfold m_insert
      rw [isTable_o h.m2 (by omega) ho, cb_s, jn_d, if_pos z00]
      dsimp only
      rw [lt_d, jn_d, w1_eq, if_neg z10]
      dsimp only
      rw [w1_eq, if_neg z1l]
    exact ⟨3, 0, 1, 0, S, _, hc, hm, thr_w, Or.inr (Or.inl ⟨rfl, rfl⟩), (fun z => by cases z), h.x0⟩
  · obtain ⟨Tb, hB, hV⟩ := h.tb
    obtain ⟨hR, ⟨t5, t6⟩, hF⟩ := hB u hu
    obtain ⟨c3, c4, hks, -⟩ := h.2.1.2.2.2.2.2 u hu
    have hat : d10_tableAt (nI u) S = some (some u) := tableAt_i h.s42 h.s56 hb.1 hu
    have hit : m_isTable (nI u) M = some 1 := isTable_i h.m2 (by omega) hu
    have hl12 := hF.1
    have hP : PW M := h.2.1.2.1
    rcases isRow_n hP x2 (G (20 + u) 0) with ⟨c1, m1⟩ | ⟨r, hr, rfl, hvr, c1, m1⟩
    · have hc : d10_insert G nt nv (nI u) x2 S = some (1, 0, S) := by
        unfold d10_insert
        rw [hat, cb_s, oc_s, gd_t hu, c1, cb_s, if_pos z00]
      have hm : m_insert (nI u) x2 M = some (0, w1 M 0 2) := by
        unfold m_insert
        rw [hit, cb_s, jn_d, if_neg z10, rd_n (by omega) (by decide), c3, m1, cb_s, if_pos z00]
        dsimp only
        rw [lt_d, jn_d, w1_eq, if_neg z20]
        dsimp only
        rw [w1_eq, if_neg z2l]
      exact ⟨1, 0, 2, 0, S, _, hc, hm, thr_w, Or.inr (Or.inr (Or.inl ⟨rfl, rfl⟩)), (fun z => by cases z), h.x0⟩
    have hr31 : r < 2 ^ 31 := by omega
    generalize hL : Tb u = l at *
    have hrw := rowWith_n (M := w1 M 0 0) (p := pt (G (20 + u) 1) r) (s := G (20 + u) 1) (N := 36) hP t6 hF.ok rfl (by decide) (by omega) (Nat.lt_of_lt_of_le (pt_lt _ _) (by decide))
    have e4 : (w1 M 0 0).2 4 u = G (20 + u) 1 := c4
    have e5 : (w1 M 0 0).2 5 u = nI l.length := t5
    have hmd : m_insert (nI u) (nI r) M = (fun (k9 : St → Option (Int32 × St)) => (fun (x29 : Int32) => if x29 = 0 then (if nI l.length = 12 then (lt (w1 (w1 M 0 0) 0 3) fun (S37 : St) => k9 S37) else (lt (w1 (w1 M 0 0) 0 0) fun (S36 : St) => k9 S36)) else (lt (w1 (w1 M 0 0) 0 3) fun (S32 : St) => k9 S32)) (if oN (fnd (G (20 + u) 1) (pt (G (20 + u) 1) r) l) = (-1) then 0 else 1)) (fun (S8 : St) => if (S8.1 0) ≤ 0 then (rd (nI u) 3 fun (j11 : Nat) => cb2 (m_lays 6 (12 * nI u) (S8.2 5 j11) (nI r) S8) fun (z13 : Int32) (S14 : St) => rd (nI u) 3 fun (j15 : Nat) => lt (w2 S14 5 j15 z13) fun (S17 : St) => rd (nI u) 3 fun (j18 : Nat) => some ((S17.2 5 j18), S17)) else (some (0, S8))) := by
      unfold m_insert
      rw [hit, cb_s, jn_d, if_neg z10, rd_n (by omega) (by decide), c3, m1, cb_s, if_neg z10]
      dsimp only
      rw [lt_d, jn_d, w1_eq, if_pos z00, rd_n (by omega) (by decide), rd_n (by omega) (by decide), rd_n (by omega) (by decide), e4, mpart_n (M := w1 M 0 0) hP hr31, cb_s, e5, n12, hrw, cb_s, jn_d]
      by_cases hq : oN (fnd (G (20 + u) 1) (pt (G (20 + u) 1) r) l) = (-1)
      · rw [if_pos hq, if_pos hq]
        dsimp only
        rw [if_pos z00, if_pos z00, rd_n (by omega) (by decide), e5]
      · rw [if_neg hq, if_neg hq]
        dsimp only
        rw [if_neg z10, if_neg z10]
    dsimp only at hmd
    have hfull : ∀ z : Bool, (if z then m_insert (nI u) (nI r) M else m_insert (nI u) (nI r) M) = m_insert (nI u) (nI r) M := fun z => by cases z <;> rfl
    have hbad : (lt (w1 (w1 M 0 0) 0 3) fun (S8 : St) => if (S8.1 0) ≤ 0 then (rd (nI u) 3 fun (j11 : Nat) => cb2 (m_lays 6 (12 * nI u) (S8.2 5 j11) (nI r) S8) fun (z13 : Int32) (S14 : St) => rd (nI u) 3 fun (j15 : Nat) => lt (w2 S14 5 j15 z13) fun (S17 : St) => rd (nI u) 3 fun (j18 : Nat) => some ((S17.2 5 j18), S17)) else (some (0, S8))) = some (0, w1 (w1 M 0 0) 0 3) := by
      rw [lt_d, w1_eq, if_neg z3l]
    have hcd : d10_insert G nt nv (nI u) (nI r) S = if 12 ≤ nI l.length then (some (2, 0, S)) else (if oN (fnd (G (20 + u) 1) (pt (G (20 + u) 1) r) l) = (-1) then (cb (d4_put (1 + 7 * u) (nI r) S) fun (S26 : St) => cb (d10_showViews G nt nv S26) fun (S29 : St) => cb (d4_size (1 + 7 * u) S29) fun (z30 : Int32) => some (0, z30, S29)) else (some (2, 0, S))) := by
      unfold d10_insert
      rw [hat, cb_s, oc_s, gd_t hu, c1, cb_s, if_neg z10, size_n hR, cb_s, firstLike_n hR hr31, cb_s]
    by_cases h12 : l.length = 12
    · rw [if_pos (show (12 : Int32) ≤ nI l.length by rw [h12]; decide)] at hcd
      have hm : m_insert (nI u) (nI r) M = some (0, w1 (w1 M 0 0) 0 3) := by
        rw [hmd]
        by_cases hq : oN (fnd (G (20 + u) 1) (pt (G (20 + u) 1) r) l) = (-1)
        · rw [if_pos hq, if_pos z00, if_pos (show nI l.length = (12 : Int32) by rw [h12]; rfl)]
          exact hbad
        · rw [if_neg hq, if_neg z10]
          exact hbad
      exact ⟨2, 0, 3, 0, S, _, hcd, hm, thr_w, Or.inr (Or.inr (Or.inr ⟨rfl, rfl⟩)), (fun z => by cases z), h.x0.x0⟩
    · rw [if_neg (show ¬ (12 : Int32) ≤ nI l.length from nI_ge (b := 12) (by omega) (by decide))] at hcd
      cases hf : fnd (G (20 + u) 1) (pt (G (20 + u) 1) r) l with
      | some q =>
        have hq : ¬ oN (some q) = (-1) := nm1 (Nat.lt_of_lt_of_le (hF.ok q (fnd_mem hf).1) (by decide))
        rw [hf, if_neg hq] at hcd
        rw [hf, if_neg hq, if_neg z10] at hmd
        exact ⟨2, 0, 3, 0, S, _, hcd, hmd.trans hbad, thr_w, Or.inr (Or.inr (Or.inr ⟨rfl, rfl⟩)), (fun z => by cases z), h.x0.x0⟩
      | none =>
        rw [hf, if_pos (show oN none = -1 from rfl)] at hcd
        rw [hf, if_pos (show oN none = -1 from rfl), if_pos z00, if_neg (show ¬ nI l.length = (12 : Int32) from fun z => h12 ((nI_eq (b := 12) (by omega) (by decide)).mp z)), lt_d, w1_eq, if_pos z0l, rd_n (by omega) (by decide)] at hmd
        obtain ⟨S1, p1, p2, p3⟩ := put_n hR hr (Or.inr (by rw [dcap_t (by omega)]; omega))
        obtain ⟨M1, q1, q2, q3⟩ := lays_n (M := w1 (w1 M 0 0) 0 0) (N := 36) (r := r) t6 hF.ok rfl (by decide) hr (by omega) (Or.inr (by omega))
        have e5' : (w1 (w1 M 0 0) 0 0).2 5 u = nI l.length := t5
        rw [e5', n12, q1, cb2_s, rd_n (by omega) (by decide), lt_d, rd_n (by omega) (by decide), w2_at] at hmd
        have hFi := FT_ins hF (by omega) hvr hf
        have hTm := Tm_upd (Tb := Tb) (nt := nt) (M := w1 (w1 M 0 0) 0 0) (fun t ht => ⟨(hB t ht).2.1, (hB t ht).2.2.1⟩) q3 hFi.1 q2
        have hB' : RB G nt S1 (w2 M1 5 u (nI (insR r l).length)) (up Tb u (insR r l)) := by
          intro t ht
          refine ⟨?_, hTm t ht, ?_⟩
          · by_cases htu : t = u
            · subst htu; rw [up_s]; exact p2
            · rw [up_n htu]; exact Rw_fr (hB t ht).1 p3 (by omega)
          · by_cases htu : t = u
            · subst htu; rw [up_s]; exact hFi
            · rw [up_n htu]; exact (hB t ht).2.2
        have hm1 : ∀ k, k ≠ 0 → (w2 M1 5 u (nI (insR r l).length)).1 k = M.1 k := fun k a => by rw [w2_1, q3.1, w1_ne a, w1_ne a]
        have hm2 : ∀ k, k ≠ 5 → k ≠ 6 → (w2 M1 5 u (nI (insR r l).length)).2 k = M.2 k := fun k a b => by rw [w2_ne a, q3.2.1 k b]; rfl
        obtain ⟨S', v1, v2, v3⟩ := RR.tab (h.1.fr fun k hk => p3.1 k (by omega)) (h.2.1.fr (hm1 2 (by decide)) (hm1 7 (by decide)) (fun k _ a b => hm2 k a b)) hB' (h.2.2.2.1.fr (p3.1 44 (by omega)) (p3.1 0 (by omega)) (p3.2 0 (by omega)) (hm1 21 (by decide)) (hm1 22 (by decide)) (hm1 23 (by decide)) (hm2 24 (by decide) (by decide))) (h.2.2.2.2.fr (p3.1 45 (by omega)) (fun t ht j hj => ⟨p3.1 _ (by omega), p3.2 _ (by omega)⟩) (hm1 32 (by decide)) (hm2 33 (by decide) (by decide)) (hm2 34 (by decide) (by decide)))
        rw [p1, cb_s, v1, cb_s, size_n (Rw_frS p2 v2 (fun v hv => by omega)), cb_s] at hcd
        exact ⟨0, _, 0, _, S', _, hcd, hmd, by rw [thr_n, w2_1, q3.1, w1_eq], Or.inl ⟨rfl, rfl⟩, fun _ => rfl, v3⟩
theorem sm_delete : Sm_delete RR := by
  intro S G nt nv M x1 x2 h
  have hb := h.b
  rcases ix_n x1 (show nt < 2 ^ 31 by omega) with ho | ⟨u, hu, rfl⟩
  · have hc : d10_delete G nt nv x1 x2 S = some (3, 0, S) := by
      unfold d10_delete
      rw [tableAt_o h.s42 ho, cb_s, oc_o]
    have hm : m_delete x1 x2 M = some (0, w1 M 0 1) := by
      unfold m_delete
      rw [isTable_o h.m2 (by omega) ho, cb_s, jn_d, if_pos z00]
      dsimp only
      rw [lt_d, w1_eq, if_neg z1l]
    exact ⟨3, 0, 1, 0, S, _, hc, hm, thr_w, Or.inr (Or.inl ⟨rfl, rfl⟩), (fun z => by cases z), h.x0⟩
  · obtain ⟨Tb, hB, hV⟩ := h.tb
    obtain ⟨hR, ⟨t5, t6⟩, hF⟩ := hB u hu
    have hat : d10_tableAt (nI u) S = some (some u) := tableAt_i h.s42 h.s56 hb.1 hu
    have hit : m_isTable (nI u) M = some 1 := isTable_i h.m2 (by omega) hu
    have hl12 := hF.1
    have hok := hF.ok
    generalize hL : Tb u = l at *
    rcases seek_n (N := 36) t6 rfl (by decide) (by omega) x2 with ⟨hany, hp⟩ | ⟨p, hpl, hx, hany, hp⟩
    · have hh : d4_has (1 + 7 * u) x2 S = some 0 := by rw [has_n hR, hany]; rfl
      have hc : d10_delete G nt nv (nI u) x2 S = some (4, 0, S) := by
        unfold d10_delete
        rw [hat, cb_s, oc_s, gd_t hu, hh, cb_s, if_pos z00]
      have hm : m_delete (nI u) x2 M = some (0, w1 M 0 2) := by
        unfold m_delete
        rw [hit, cb_s, jn_d, if_neg z10, rd_n (by omega) (by decide), t5, n12, hp, cb_s, if_pos rfl]
        dsimp only
        rw [lt_d, w1_eq, if_neg z2l]
      exact ⟨4, 0, 2, 0, S, _, hc, hm, thr_w, Or.inr (Or.inr ⟨rfl, rfl⟩), (fun z => by cases z), h.x0⟩
    · have hh : d4_has (1 + 7 * u) x2 S = some 1 := by rw [has_n hR, hany]; rfl
      have hpm : ¬ nI p = -1 := nm1 (by omega)
      have hr := hok _ (gl_mem hpl)
      have hnd := Srt_nodup hF.2.1
      generalize hrr : gl l p = r at *
      subst hx
      have hln := rem_len hnd hpl hrr
      obtain ⟨S1, p1, p2, p3⟩ := remove_n hR hr
      obtain ⟨M1, q1, q2, q3⟩ := takes_n (M := w1 M 0 0) (N := 36) (p := p) t6 rfl (by decide) (by omega) hpl
      rw [erase_rem hnd hpl hrr] at q2
      rw [← hln] at q1
      have e5 : (w1 M 0 0).2 5 u = nI l.length := t5
      have hp2 : m_placeOf 6 (nI (12 * u)) (nI l.length) (nI r) (w1 M 0 0) = some (nI p) := hp
      have hm : m_delete (nI u) (nI r) M = some (nI (rem r l).length, w2 M1 5 u (nI (rem r l).length)) := by
        unfold m_delete
        rw [hit, cb_s, jn_d, if_neg z10, rd_n (by omega) (by decide), t5, n12, hp, cb_s, if_neg hpm]
        dsimp only
        rw [lt_d, w1_eq, if_pos z0l, rd_n (by omega) (by decide), rd_n (by omega) (by decide), e5, hp2, cb_s, q1, cb2_s, rd_n (by omega) (by decide), lt_d, rd_n (by omega) (by decide), w2_at]
      have hFi := FT_rem (r := r) hF
      have hTm := Tm_upd (Tb := Tb) (nt := nt) (M := w1 M 0 0) (fun t ht => ⟨(hB t ht).2.1, (hB t ht).2.2.1⟩) q3 hl12 q2
      have hB' : RB G nt S1 (w2 M1 5 u (nI (rem r l).length)) (up Tb u (rem r l)) := by
        intro t ht
        refine ⟨?_, hTm t ht, ?_⟩
        · by_cases htu : t = u
          · subst htu; rw [up_s]; exact p2
          · rw [up_n htu]; exact Rw_fr (hB t ht).1 p3 (by omega)
        · by_cases htu : t = u
          · subst htu; rw [up_s]; exact hFi
          · rw [up_n htu]; exact (hB t ht).2.2
      have hm1 : ∀ k, k ≠ 0 → (w2 M1 5 u (nI (rem r l).length)).1 k = M.1 k := fun k a => by rw [w2_1, q3.1, w1_ne a]
      have hm2 : ∀ k, k ≠ 5 → k ≠ 6 → (w2 M1 5 u (nI (rem r l).length)).2 k = M.2 k := fun k a b => by rw [w2_ne a, q3.2.1 k b]; rfl
      obtain ⟨S', v1, v2, v3⟩ := RR.tab (h.1.fr fun k hk => p3.1 k (by omega)) (h.2.1.fr (hm1 2 (by decide)) (hm1 7 (by decide)) (fun k _ a b => hm2 k a b)) hB' (h.2.2.2.1.fr (p3.1 44 (by omega)) (p3.1 0 (by omega)) (p3.2 0 (by omega)) (hm1 21 (by decide)) (hm1 22 (by decide)) (hm1 23 (by decide)) (hm2 24 (by decide) (by decide))) (h.2.2.2.2.fr (p3.1 45 (by omega)) (fun t ht j hj => ⟨p3.1 _ (by omega), p3.2 _ (by omega)⟩) (hm1 32 (by decide)) (hm2 33 (by decide) (by decide)) (hm2 34 (by decide) (by decide)))
      have hc : d10_delete G nt nv (nI u) (nI r) S = some (0, nI (rem r l).length, S') := by
        unfold d10_delete
        rw [hat, cb_s, oc_s, gd_t hu, hh, cb_s, if_neg z10, p1, cb_s, v1, cb_s, size_n (Rw_frS p2 v2 (fun v hv => by omega)), cb_s]
      exact ⟨0, _, 0, _, S', _, hc, hm, by rw [thr_n, w2_1, q3.1, w1_eq], Or.inl ⟨rfl, rfl⟩, fun _ => rfl, v3⟩
