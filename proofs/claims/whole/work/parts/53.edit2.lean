/-! ===== add, takeOut, change ===== -/
theorem nm1 {n : Nat} (h : n < 2 ^ 31) : ¬ nI n = -1 := fun z => nI_pos h (by rw [z]; decide)
theorem sm_add : Sm_add RR := by
  intro S G nt nv M x1 h
  have hb := h.b
  rcases h.2.2.2.1 with ⟨h44, h21⟩ | ⟨u, l, hD⟩
  · have hc : d10_add G nt nv x1 S = some (2, 0, S) := by
      unfold d10_add
      rw [lt_d, h44, oid_m1, oc_o]
    have hm : m_add x1 M = some (0, w1 M 0 1) := by
      unfold m_add
      rw [jn_d, if_pos h21]
      dsimp only
      rw [lt_d, w1_eq, if_neg z1l]
    exact ⟨2, 0, 1, 0, S, _, hc, hm, thr_w, Or.inr (Or.inl ⟨rfl, rfl⟩), (fun z => by cases z), h.x0⟩
  · obtain ⟨hu, h44, h21, h22, hR, h23, h24, hs, hv⟩ := id hD
    have hn21 : ¬ M.1 21 = 0 := by rw [h21]; exact z10
    have hl := hR.2.1
    rw [dcap_0] at hl
    have hok := hR.2.2.2
    have hoid : oid (S.1 44) = some u := by rw [h44, oid_nI (by omega)]
    rcases seek0 h24 hl x1 with ⟨hany, hp⟩ | ⟨p, hpl, hx, hany, hp⟩
    · have hh : d4_has 0 x1 S = some 0 := by rw [has_n hR, hany]; rfl
      by_cases h20 : l.length = 20
      · have hc : d10_add G nt nv x1 S = some (2, 0, S) := by
          unfold d10_add
          rw [lt_d, hoid, oc_s, gd_t hu, hh, cb_s, if_pos z00, size_n hR, cb_s, h20, if_neg (show ¬ nI 20 < (20 : Int32) by decide)]
        have hm : m_add x1 M = some (0, w1 M 0 1) := by
          unfold m_add
          rw [jn_d, if_neg hn21, h23, hp, cb_s, if_pos rfl, h20, if_pos (show nI 20 = (20 : Int32) from rfl)]
          dsimp only
          rw [lt_d, w1_eq, if_neg z1l]
        exact ⟨2, 0, 1, 0, S, _, hc, hm, thr_w, Or.inr (Or.inl ⟨rfl, rfl⟩), (fun z => by cases z), h.x0⟩
      · have hlt : nI l.length < (20 : Int32) := nI_lt (b := 20) (by omega) (by decide)
        have hne : ¬ nI l.length = (20 : Int32) := fun z => h20 ((nI_eq (b := 20) (by omega) (by decide)).mp z)
        have e14 : M.2 14 u = G u 1 := (h.km hu).1
        rcases isRow_n h.2.1.2.1 x1 (G u 1) with ⟨c1, m1⟩ | ⟨r, hr, rfl, hvr, c1, m1⟩
        · have hc : d10_add G nt nv x1 S = some (1, 0, S) := by
            unfold d10_add
            rw [lt_d, hoid, oc_s, gd_t hu, hh, cb_s, if_pos z00, size_n hR, cb_s, if_pos hlt, lt_d, oc_s, gd_t hu, c1, cb_s, if_pos z00]
          have hm : m_add x1 M = some (0, w1 M 0 2) := by
            unfold m_add
            rw [jn_d, if_neg hn21, h23, hp, cb_s, if_pos rfl, if_neg hne, h22, rd_n (by omega) (by decide), e14, m1, cb_s, if_pos z00]
            dsimp only
            rw [lt_d, w1_eq, if_neg z2l]
          exact ⟨1, 0, 2, 0, S, _, hc, hm, thr_w, Or.inr (Or.inr ⟨rfl, rfl⟩), (fun z => by cases z), h.x0⟩
        · obtain ⟨S1, p1, p2, p3⟩ := put_n hR hr (Or.inr (by rw [dcap_0]; omega))
          obtain ⟨M1, q1, q2, q3⟩ := lays0 (M := w1 M 0 0) h24 hok hr hl (Or.inr (by omega))
          have hc : d10_add G nt nv (nI r) S = some (0, nI (insR r l).length, S1) := by
            unfold d10_add
            rw [lt_d, hoid, oc_s, gd_t hu, hh, cb_s, if_pos z00, size_n hR, cb_s, if_pos hlt, lt_d, oc_s, gd_t hu, c1, cb_s, if_neg z10, p1, cb_s, size_n p2, cb_s]
          have hm : m_add (nI r) M = some (nI (insR r l).length, w1 M1 23 (nI (insR r l).length)) := by
            unfold m_add
            rw [jn_d, if_neg hn21, h23, hp, cb_s, if_pos rfl, if_neg hne, h22, rd_n (by omega) (by decide), e14, m1, cb_s, if_neg z10]
            dsimp only
            rw [lt_d, w1_eq, if_pos z0l, show (w1 M 0 0).1 23 = nI l.length from (w1_ne (by decide)).trans h23, q1, cb2_s, lt_d, w1_eq]
          refine ⟨0, _, 0, _, S1, _, hc, hm, ?_, Or.inl ⟨rfl, rfl⟩, fun _ => rfl, h.dr (u := u) (l := insR r l) (fun k a b => p3.1 k a) (fun k a => p3.2 k a) (fun k a b c d => by rw [w1_ne d, q3.1, w1_ne a]) (fun k a b c => q3.2.1 k c) ⟨hu, (p3.1 44 (by decide)).trans h44, ?_, ?_, p2, w1_eq, q2, insR_srt hs, fun q hq => ?_⟩⟩
          · rw [thr_n, w1_ne (by decide), q3.1, w1_eq]
          · rw [w1_ne (by decide), q3.1, w1_ne (by decide), h21]
          · rw [w1_ne (by decide), q3.1, w1_ne (by decide), h22]
          · rcases insR_mem.mp hq with rfl | z
            · exact hvr
            · exact hv q z
    · have hh : d4_has 0 x1 S = some 1 := by rw [has_n hR, hany]; rfl
      have hc : d10_add G nt nv x1 S = some (2, 0, S) := by
        unfold d10_add
        rw [lt_d, hoid, oc_s, gd_t hu, hh, cb_s, if_neg z10]
      have hpm : ¬ nI p = -1 := nm1 (by omega)
      have hm : m_add x1 M = some (0, w1 M 0 1) := by
        unfold m_add
        rw [jn_d, if_neg hn21, h23, hp, cb_s, if_neg hpm]
        dsimp only
        rw [lt_d, w1_eq, if_neg z1l]
      exact ⟨2, 0, 1, 0, S, _, hc, hm, thr_w, Or.inr (Or.inl ⟨rfl, rfl⟩), (fun z => by cases z), h.x0⟩
theorem rem_len {l : List Nat} {p r : Nat} (hn : l.Nodup) (hp : p < l.length) (he : gl l p = r) : (rem r l).length = l.length - 1 := by
  rw [← erase_rem hn hp he, List.length_eraseIdx, if_pos hp]
theorem sm_takeOut : Sm_takeOut RR := by
  intro S G nt nv M x1 h
  have hb := h.b
  rcases h.2.2.2.1 with ⟨h44, h21⟩ | ⟨u, l, hD⟩
  · have hc : d10_takeOut G nt nv x1 S = some (2, 0, S) := by
      unfold d10_takeOut
      rw [lt_d, h44, oid_m1, oc_o]
    have hm : m_takeOut x1 M = some (0, w1 M 0 1) := by
      unfold m_takeOut
      rw [jn_d, if_pos h21]
      dsimp only
      rw [lt_d, w1_eq, if_neg z1l]
    exact ⟨2, 0, 1, 0, S, _, hc, hm, thr_w, Or.inr (Or.inl ⟨rfl, rfl⟩), (fun z => by cases z), h.x0⟩
  · obtain ⟨hu, h44, h21, h22, hR, h23, h24, hs, hv⟩ := id hD
    have hn21 : ¬ M.1 21 = 0 := by rw [h21]; exact z10
    have hl := hR.2.1
    rw [dcap_0] at hl
    have hok := hR.2.2.2
    have hoid : oid (S.1 44) = some u := by rw [h44, oid_nI (by omega)]
    rcases seek0 h24 hl x1 with ⟨hany, hp⟩ | ⟨p, hpl, hx, hany, hp⟩
    · have hh : d4_has 0 x1 S = some 0 := by rw [has_n hR, hany]; rfl
      have hc : d10_takeOut G nt nv x1 S = some (4, 0, S) := by
        unfold d10_takeOut
        rw [lt_d, hoid, oc_s, gd_t hu, hh, cb_s, if_pos z00]
      have hm : m_takeOut x1 M = some (0, w1 M 0 2) := by
        unfold m_takeOut
        rw [jn_d, if_neg hn21, h23, hp, cb_s, if_pos rfl]
        dsimp only
        rw [lt_d, w1_eq, if_neg z2l]
      exact ⟨4, 0, 2, 0, S, _, hc, hm, thr_w, Or.inr (Or.inr ⟨rfl, rfl⟩), (fun z => by cases z), h.x0⟩
    · have hh : d4_has 0 x1 S = some 1 := by rw [has_n hR, hany]; rfl
      have hpm : ¬ nI p = -1 := nm1 (by omega)
      have hr := hok _ (gl_mem hpl)
      have hnd := Srt_nodup hs
      generalize hrr : gl l p = r at *
      subst hx
      have hln := rem_len hnd hpl hrr
      obtain ⟨S1, p1, p2, p3⟩ := remove_n hR hr
      obtain ⟨M1, q1, q2, q3⟩ := takes0 (M := w1 M 0 0) h24 hl hpl
      rw [erase_rem hnd hpl hrr] at q2
      rw [← hln] at q1
      have hc : d10_takeOut G nt nv (nI r) S = some (0, nI (rem r l).length, S1) := by
        unfold d10_takeOut
        rw [lt_d, hoid, oc_s, gd_t hu, hh, cb_s, if_neg z10, p1, cb_s, size_n p2, cb_s]
      have e23 : (w1 M 0 0).1 23 = nI l.length := (w1_ne (by decide)).trans h23
      have hp2 : m_placeOf 24 0 (nI l.length) (nI r) (w1 M 0 0) = some (nI p) := hp
      have hm : m_takeOut (nI r) M = some (nI (rem r l).length, w1 M1 23 (nI (rem r l).length)) := by
        unfold m_takeOut
        rw [jn_d, if_neg hn21, h23, hp, cb_s, if_neg hpm]
        dsimp only
        rw [lt_d, w1_eq, if_pos z0l, e23, hp2, cb_s, q1, cb2_s, lt_d, w1_eq]
      refine ⟨0, _, 0, _, S1, _, hc, hm, ?_, Or.inl ⟨rfl, rfl⟩, fun _ => rfl, h.dr (u := u) (l := rem r l) (fun k a b => p3.1 k a) (fun k a => p3.2 k a) (fun k a b c d => by rw [w1_ne d, q3.1, w1_ne a]) (fun k a b c => q3.2.1 k c) ⟨hu, (p3.1 44 (by decide)).trans h44, ?_, ?_, p2, w1_eq, q2, rem_srt hs, fun q hq => hv q (rem_mem.mp hq).1⟩⟩
      · rw [thr_n, w1_ne (by decide), q3.1, w1_eq]
      · rw [w1_ne (by decide), q3.1, w1_ne (by decide), h21]
      · rw [w1_ne (by decide), q3.1, w1_ne (by decide), h22]
theorem sm_change : Sm_change RR := by
  intro S G nt nv M x1 x2 x3 h
  have hb := h.b
  rcases h.2.2.2.1 with ⟨h44, h21⟩ | ⟨u, l, hD⟩
  · have hc : d10_change G nt nv x1 x2 x3 S = some (2, 0, S) := by
      unfold d10_change
      rw [lt_d, h44, oid_m1, oc_o]
    have hm : m_change x1 x2 x3 M = some (0, w1 M 0 1) := by
      unfold m_change
      rw [jn_d, if_pos h21]
      dsimp only
      rw [lt_d, w1_eq, if_neg z1l]
    exact ⟨2, 0, 1, 0, S, _, hc, hm, thr_w, Or.inr (Or.inl ⟨rfl, rfl⟩), (fun z => by cases z), h.x0⟩
  · obtain ⟨hu, h44, h21, h22, hR, h23, h24, hs, hv⟩ := id hD
    have hn21 : ¬ M.1 21 = 0 := by rw [h21]; exact z10
    have hl := hR.2.1
    rw [dcap_0] at hl
    have hok := hR.2.2.2
    have hoid : oid (S.1 44) = some u := by rw [h44, oid_nI (by omega)]
    have e14 : M.2 14 u = G u 1 := (h.km hu).1
    rcases isCol_n x2 (G u 1) with ⟨c1, m1⟩ | ⟨c, hc6, rfl, hbt, c1, m1⟩
    · have hc : d10_change G nt nv x1 x2 x3 S = some (1, 0, S) := by
        unfold d10_change
        rw [lt_d, hoid, oc_s, gd_t hu, lt_d, oc_s, gd_t hu, c1, cb_s, if_pos z00]
      have hm : m_change x1 x2 x3 M = some (0, w1 M 0 2) := by
        unfold m_change
        rw [jn_d, if_neg hn21, h22, rd_n (by omega) (by decide), e14, m1, cb_s, if_pos z00]
        dsimp only
        rw [lt_d, w1_eq, if_neg z2l]
      exact ⟨1, 0, 2, 0, S, _, hc, hm, thr_w, Or.inr (Or.inr (Or.inl ⟨rfl, rfl⟩)), (fun z => by cases z), h.x0⟩
    rcases isVal_n x3 with ⟨c2, m2⟩ | ⟨w, hw, rfl, c2, m2⟩
    · have hc : d10_change G nt nv x1 (nI c) x3 S = some (1, 0, S) := by
        unfold d10_change
        rw [lt_d, hoid, oc_s, gd_t hu, lt_d, oc_s, gd_t hu, c1, cb_s, if_neg z10, c2, cb_s, if_pos z00]
      have hm : m_change x1 (nI c) x3 M = some (0, w1 M 0 2) := by
        unfold m_change
        rw [jn_d, if_neg hn21, h22, rd_n (by omega) (by decide), e14, m1, cb_s, if_neg z10, m2, cb_s, if_pos z00]
        dsimp only
        rw [lt_d, w1_eq, if_neg z2l]
      exact ⟨1, 0, 2, 0, S, _, hc, hm, thr_w, Or.inr (Or.inr (Or.inl ⟨rfl, rfl⟩)), (fun z => by cases z), h.x0⟩
    rcases seek0 h24 hl x1 with ⟨hany, hp⟩ | ⟨p, hpl, hx, hany, hp⟩
    · have hh : d4_has 0 x1 S = some 0 := by rw [has_n hR, hany]; rfl
      have hc : d10_change G nt nv x1 (nI c) (nI w) S = some (4, 0, S) := by
        unfold d10_change
        rw [lt_d, hoid, oc_s, gd_t hu, lt_d, oc_s, gd_t hu, c1, cb_s, if_neg z10, c2, cb_s, if_neg z10, hh, cb_s, if_pos z00]
      have hm : m_change x1 (nI c) (nI w) M = some (0, w1 M 0 3) := by
        unfold m_change
        rw [jn_d, if_neg hn21, h22, rd_n (by omega) (by decide), e14, m1, cb_s, if_neg z10, m2, cb_s, if_neg z10, h23, hp, cb_s, if_pos rfl]
        dsimp only
        rw [lt_d, w1_eq, if_neg z3l]
      exact ⟨4, 0, 3, 0, S, _, hc, hm, thr_w, Or.inr (Or.inr (Or.inr ⟨rfl, rfl⟩)), (fun z => by cases z), h.x0⟩
    have hh : d4_has 0 x1 S = some 1 := by rw [has_n hR, hany]; rfl
    have hpm : ¬ nI p = -1 := nm1 (by omega)
    have hr := hok _ (gl_mem hpl)
    have hrv := hv _ (gl_mem hpl)
    have hrm := gl_mem hpl
    have hnd := Srt_nodup hs
    generalize hrr : gl l p = r at *
    subst hx
    have hr31 : r < 2 ^ 31 := by omega
    have hln := rem_len hnd hpl hrr
    have hs2 := sd_lt (c := c) (w := w) hr hc6 hw
    have hs2v := sd_val (c := c) (w := w) hrv hbt hc6 hw
    have hs31 : sd r c w < 2 ^ 31 := by omega
    have hP : PW M := h.2.1.2.1
    have hP0 : PW (w1 M 0 0) := hP
    have e23 : (w1 M 0 0).1 23 = nI l.length := (w1_ne (by decide)).trans h23
    have ep : (w1 M 0 0).2 1 c = nI (10 ^ c) := hP c hc6
    have hcd : d10_change G nt nv (nI r) (nI c) (nI w) S = (fun (k28 : Option (Nat × Int32 × St)) => if nI (sd r c w) = nI r then (k28) else (cb (d4_has 0 (nI (sd r c w)) S) fun (z36 : Int32) => if z36 = 0 then (k28) else (some (4, 0, S)))) (cb (d4_remove 0 (nI r) S) fun (S31 : St) => cb (d4_put 0 (nI (sd r c w)) S31) fun (S34 : St) => some (0, nI (sd r c w), S34)) := by
      unfold d10_change
      rw [lt_d, hoid, oc_s, gd_t hu, lt_d, oc_s, gd_t hu, c1, cb_s, if_neg z10, c2, cb_s, if_neg z10, hh, cb_s, if_neg z10, with_n hr31 hc6 hw, cb_s]
      rfl
    have hmd : m_change (nI r) (nI c) (nI w) M = (fun (k13 : Int32 → Option (Int32 × St)) => if nI (sd r c w) = nI r then (k13 0) else (cb (m_placeOf 24 0 (nI l.length) (nI (sd r c w)) (w1 M 0 0)) fun (z24 : Int32) => if z24 = (-1) then (k13 0) else (k13 3))) (fun (x12 : Int32) => lt (w1 (w1 M 0 0) 0 x12) fun (S14 : St) => if (S14.1 0) ≤ 0 then (cb (m_placeOf 24 0 (S14.1 23) (nI r) S14) fun (z16 : Int32) => cb2 (m_takes 24 0 (S14.1 23) z16 S14) fun (z17 : Int32) (S18 : St) => lt (w1 S18 23 z17) fun (S19 : St) => cb2 (m_lays 24 0 (S19.1 23) (nI (sd r c w)) S19) fun (z20 : Int32) (S21 : St) => lt (w1 S21 23 z20) fun (S22 : St) => some ((nI (sd r c w)), S22)) else (some (0, S14))) := by
      unfold m_change
      rw [jn_d, if_neg hn21, h22, rd_n (by omega) (by decide), e14, m1, cb_s, if_neg z10, m2, cb_s, if_neg z10, h23, hp, cb_s, if_neg hpm]
      dsimp only
      rw [lt_d, w1_eq, if_pos z0l, mdigit_n hP0 hr31 hc6, cb_s, rd_n (by omega) (by decide), ep, sdI hc6 hw, jn_d, e23]
    have hgo : ((cb (d4_remove 0 (nI r) S) fun (S31 : St) => cb (d4_put 0 (nI (sd r c w)) S31) fun (S34 : St) => some ((0 : Nat), nI (sd r c w), S34)) = d10_change G nt nv (nI r) (nI c) (nI w) S) → (lt (w1 (w1 M 0 0) 0 0) fun (S14 : St) => if (S14.1 0) ≤ 0 then (cb (m_placeOf 24 0 (S14.1 23) (nI r) S14) fun (z16 : Int32) => cb2 (m_takes 24 0 (S14.1 23) z16 S14) fun (z17 : Int32) (S18 : St) => lt (w1 S18 23 z17) fun (S19 : St) => cb2 (m_lays 24 0 (S19.1 23) (nI (sd r c w)) S19) fun (z20 : Int32) (S21 : St) => lt (w1 S21 23 z20) fun (S22 : St) => some ((nI (sd r c w)), S22)) else (some (0, S14))) = m_change (nI r) (nI c) (nI w) M → ∃ (e0 : Nat) (r_1 k r2 : Int32) (S' M' : St), d10_change G nt nv (nI r) (nI c) (nI w) S = some (e0, r_1, S') ∧ m_change (nI r) (nI c) (nI w) M = some (r2, M') ∧ m_thrown M' = some k ∧ ((e0 = 0 ∧ k = 0) ∨ (e0 = 2 ∧ k = 1) ∨ (e0 = 1 ∧ k = 2) ∨ (e0 = 4 ∧ k = 3)) ∧ (e0 = 0 → r_1 = r2) ∧ RR S' G nt nv M' := by
      intro ha hbm
      obtain ⟨S1, p1, p2, p3⟩ := remove_n hR hr
      obtain ⟨S2, p4, p5, p6⟩ := put_n p2 hs2 (Or.inr (by rw [dcap_0, hln]; omega))
      obtain ⟨M1, q1, q2, q3⟩ := takes0 (M := w1 (w1 M 0 0) 0 0) h24 hl hpl
      rw [erase_rem hnd hpl hrr] at q2
      rw [← hln] at q1
      obtain ⟨M2, q4, q5, q6⟩ := lays0 (M := w1 M1 23 (nI (rem r l).length)) (r := sd r c w) q2 p2.2.2.2 hs2 (by omega) (Or.inr (by omega))
      have e23' : (w1 (w1 M 0 0) 0 0).1 23 = nI l.length := (w1_ne (by decide)).trans e23
      have hp2 : m_placeOf 24 0 (nI l.length) (nI r) (w1 (w1 M 0 0) 0 0) = some (nI p) := hp
      rw [p1, cb_s, p4, cb_s] at ha
      rw [lt_d, w1_eq, if_pos z0l, e23', hp2, cb_s, q1, cb2_s, lt_d, w1_eq, q4, cb2_s, lt_d] at hbm
      have hk : ∀ k, k ≠ 0 → k ≠ 23 → (w1 M2 23 (nI (insR (sd r c w) (rem r l)).length)).1 k = M.1 k := fun k a b => by rw [w1_ne b, q6.1, w1_ne b, q3.1, w1_ne a, w1_ne a]
      refine ⟨0, _, 0, _, S2, _, ha.symm, hbm.symm, ?_, Or.inl ⟨rfl, rfl⟩, fun _ => rfl, h.dr (u := u) (l := insR (sd r c w) (rem r l)) (fun k a b => (p6.1 k a).trans (p3.1 k a)) (fun k a => (p6.2 k a).trans (p3.2 k a)) (fun k a b c d => hk k a d) (fun k a b c => (q6.2.1 k c).trans (q3.2.1 k c)) ⟨hu, ((p6.1 44 (by decide)).trans (p3.1 44 (by decide))).trans h44, (hk 21 (by decide) (by decide)).trans h21, (hk 22 (by decide) (by decide)).trans h22, p5, w1_eq, q5, insR_srt (rem_srt hs), fun q hq => ?_⟩⟩
      · rw [thr_n, w1_ne (by decide), q6.1, w1_ne (by decide), q3.1, w1_eq]
      · rcases insR_mem.mp hq with rfl | z
        · exact hs2v
        · exact hv q (rem_mem.mp z).1
    dsimp only at hcd hmd
    by_cases he : nI (sd r c w) = nI r
    · rw [if_pos he] at hcd hmd
      exact hgo hcd.symm hmd.symm
    · rw [if_neg he] at hcd hmd
      rcases seek0 (M := w1 M 0 0) h24 hl (nI (sd r c w)) with ⟨hany2, hp2⟩ | ⟨p2, hpl2, hx2, hany2, hp2⟩
      · have hh2 : d4_has 0 (nI (sd r c w)) S = some 0 := by rw [has_n hR, hany2]; rfl
        rw [hh2, cb_s, if_pos z00] at hcd
        rw [hp2, cb_s, if_pos rfl] at hmd
        exact hgo hcd.symm hmd.symm
      · have hh2 : d4_has 0 (nI (sd r c w)) S = some 1 := by rw [has_n hR, hany2]; rfl
        have hpm2 : ¬ nI p2 = -1 := nm1 (by omega)
        rw [hh2, cb_s, if_neg z10] at hcd
        rw [hp2, cb_s, if_neg hpm2, lt_d, w1_eq, if_neg z3l] at hmd
        exact ⟨4, 0, 3, 0, S, _, hcd, hmd, thr_w, Or.inr (Or.inr (Or.inr ⟨rfl, rfl⟩)), (fun z => by cases z), h.x0.x0⟩
