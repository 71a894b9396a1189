/-! ===== both seek the same conflict ===== -/
theorem vd1 {β : Type} {k : Int32} {a b c d : Option β} (h : k = 1) : vd k a b c d = a := if_pos h
theorem vd2 {β : Type} {k : Int32} {a b c d : Option β} (h : k = 2) : vd k a b c d = b := by
  unfold vd
  rw [if_neg (show ¬ k = 1 by rw [h]; decide), if_pos h]
theorem vd4 {β : Type} {k : Int32} {a b c d : Option β} (h : k = 4) : vd k a b c d = c := by
  unfold vd
  rw [if_neg (show ¬ k = 1 by rw [h]; decide), if_neg (show ¬ k = 2 by rw [h]; decide), if_pos h]
theorem vd6 {β : Type} {k : Int32} {a b c d : Option β} (h : k = 6) : vd k a b c d = d := by
  unfold vd
  rw [if_neg (show ¬ k = 1 by rw [h]; decide), if_neg (show ¬ k = 2 by rw [h]; decide), if_neg (show ¬ k = 4 by rw [h]; decide)]
theorem told0 {S : St} (h : S.1 46 = 0) : d0_isTold S = some 0 := if_pos h
theorem told1 {S : St} (h : ¬ S.1 46 = 0) : d0_isTold S = some 1 := if_neg h
theorem Srt_ne {l : List Nat} {i j : Nat} (h : Srt l) (hij : i < j) (hj : j < l.length) : gl l i ≠ gl l j := Nat.ne_of_lt (h i j hij hj)
theorem seek_eq {S M : St} {G : Gt} {nt nv v : Nat} {l : List Nat} (hS : Rw S (23 + 2 * v) l) (hM : Vm M 20 19 v l) (h25 : M.1 25 = 0) (h46 : S.1 46 = 0) (hP : PW M) (hK : KM G M v) (hKr : G v 6 = 2 → M.2 14 (vr G v) = G (vr G v) 1 ∧ M.2 15 (vr G v) = G (vr G v) 2) (hA : GA G v) (hG : WG G nt nv) (hv : v < nv) (g0 : G v 0 = nI v) (hval : ∀ r, r ∈ l → pt (G v 1) r = r) (hs : Srt l) : ∃ o, dsp (d9_seekConflict G nt nv v S) (m_looks (nI v) M) S M o ∧ (o = none → unl (G v 2) l ∧ (G v 6 = 6 → l.length ≤ 12)) := by
  have hv10 : v < 10 := Nat.lt_of_lt_of_le hv hG.1.2
  have hl := hM.2.2.2
  have hnz : ∀ c, 0 < c → c < 5 → ¬ (10 : Int32) * nI v + nI c = 0 := fun c p q => by
    rw [n10c]
    exact nI_ne0 (by omega) (by omega)
  have hnp : ∀ c, 0 < c → c < 5 → ¬ (10 : Int32) * nI v + nI c ≤ 0 := fun c p q => by
    rw [n10c]
    exact nI_nle (by omega) (by omega)
  have hAB : ∀ i j, i < j → j < l.length → ((pt (G v 2) (gl l i) = pt (G v 2) (gl l j) ∧ pt (G v 1) (gl l i) ≠ pt (G v 1) (gl l j)) ↔ pt (G v 2) (gl l i) = pt (G v 2) (gl l j)) := fun i j hij hj => ⟨fun z => z.1, fun z => ⟨z, by
    rw [hval _ (gl_mem (by omega)), hval _ (gl_mem hj)]
    exact Srt_ne hs hij hj⟩⟩
  have hs1 := seekPair_n (G := G) (nt := nt) (nv := nv) (x2 := 1) (ks := G v 2) (cs := G v 1) hS
  have hm1 := looksFor_n (x2 := 1) (A := fun i j => pt (G v 2) (gl l i) = pt (G v 2) (gl l j)) hM hv10 h25 (hnz 1 (by decide) (by decide)) (fun i j hi hj => against1 hP hK.2.1 hv10 (okL_gl hM.2.2.1 hi) (okL_gl hM.2.2.1 hj))
  rcases hs1 with ⟨hn, e1⟩ | ⟨i, j, hF, e1⟩
  · rcases hm1 with ⟨hn2, e2⟩ | ⟨i', j', hF2, -⟩
    · have hunl : unl (G v 2) l := by
        intro q hq q2 hq2 he
        obtain ⟨a, ha, rfl⟩ := mem_gl hq
        obtain ⟨b, hb, rfl⟩ := mem_gl hq2
        rcases Nat.lt_trichotomy a b with z | z | z
        · exact absurd he (hn2 a b z hb)
        · rw [z]
        · exact absurd he.symm (hn2 b a z ha)
      have hcd : d9_seekConflict G nt nv v S = cb (vd (G v 6) (d2_seekOwnConflict v S) (d3_seekOwnConflict G nt nv v S) (d5_seekOwnConflict G nt nv v S) (d7_seekOwnConflict G nt nv v S)) fun (S19 : St) => some S19 := by
        unfold d9_seekConflict
        rw [e1, cb_s, told0 h46, cb_s, if_pos z00]
      obtain ⟨q14, q15, q16, hk⟩ := hK
      rcases hk with ⟨k6, k8, k9⟩ | ⟨k6, k8, k9, k11, k12, k13⟩ | ⟨k6, k8, k9, k11, k12⟩ | ⟨k6, k8, k9, k10⟩
      · rw [vd6 k6] at hcd
        have hmd : m_looks (nI v) M = lkE (nI v) M := rowsLk_o hM hv10 (Or.inr (by rw [k8]; decide)) e2
        unfold d7_seekOwnConflict at hcd
        rw [size_n hS, cb_s] at hcd
        unfold lkE at hmd
        rw [jn_d, if_pos h25, rd_n hv10 (by decide), if_neg (show ¬ M.2 8 v = 3 by rw [k8]; decide)] at hmd
        dsimp only at hmd
        rw [if_pos h25, rd_n hv10 (by decide), if_pos k8, rd_n hv10 (by decide), hM.1] at hmd
        by_cases h12 : l.length ≤ 12
        · have hle : nI l.length ≤ (12 : Int32) := nI_le (b := 12) h12 (by decide)
          rw [if_pos hle, cb_s] at hcd
          rw [if_pos hle] at hmd
          exact ⟨none, ⟨hcd, hmd⟩, fun _ => ⟨hunl, fun _ => h12⟩⟩
        · have hle : ¬ nI l.length ≤ (12 : Int32) := nI_ge (a := 12) (by omega) (by omega)
          rw [if_neg hle, tell_n, cb_s, cb_s, g0] at hcd
          rw [if_neg hle, tells_n, cb_s] at hmd
          exact ⟨some (10 * nI v + 4, -1, -1), ⟨hnp 4 (by decide) (by decide), hcd, hmd⟩, fun z => by cases z⟩
      · rw [vd4 k6] at hcd
        obtain ⟨-, -, -, ⟨c, hc6, hc7, -⟩, -⟩ := hA.2.1 k6
        rcases ownSel_n (nt := nt) (nv := nv) hS hc7 hc6 with ⟨ha, e3⟩ | ⟨i, i1, i2, i3, e3⟩
        · rcases rowsLk_n hM hv10 h25 hP k8 hc7 hc6 k11 k12 k13 e2 with ⟨hb, e4⟩ | ⟨i', p1, p2, p3, e4⟩
          · rw [e3, cb_s] at hcd
            exact ⟨none, ⟨hcd, e4⟩, fun _ => ⟨hunl, fun z => absurd (k6.symm.trans z) (by decide)⟩⟩
          · rw [ha i' p1] at p2; cases p2
        · rcases rowsLk_n hM hv10 h25 hP k8 hc7 hc6 k11 k12 k13 e2 with ⟨hb, e4⟩ | ⟨i', p1, p2, p3, e4⟩
          · rw [hb i i1] at i2; cases i2
          · have hii : i' = i := by
              rcases Nat.lt_trichotomy i i' with z | z | z
              · rw [p3 i z] at i2; cases i2
              · exact z.symm
              · rw [i3 i' z] at p2; cases p2
            subst hii
            rw [e3, cb_s, g0] at hcd
            exact ⟨some (10 * nI v + 2, nI (gl l i'), -1), ⟨hnp 2 (by decide) (by decide), hcd, e4⟩, fun z => by cases z⟩
      · rw [vd1 k6] at hcd
        have hmd : m_looks (nI v) M = lkE (nI v) M := rowsLk_o hM hv10 (Or.inr (by rw [k8]; decide)) e2
        unfold lkE at hmd
        rw [jn_d, if_pos h25, rd_n hv10 (by decide), if_neg (show ¬ M.2 8 v = 3 by rw [k8]; decide)] at hmd
        dsimp only at hmd
        rw [if_pos h25, rd_n hv10 (by decide), if_neg (show ¬ M.2 8 v = 0 by rw [k8]; decide)] at hmd
        unfold d2_seekOwnConflict at hcd
        rw [cb_s] at hcd
        exact ⟨none, ⟨hcd, hmd⟩, fun _ => ⟨hunl, fun z => absurd (k6.symm.trans z) (by decide)⟩⟩
      · rw [vd2 k6] at hcd
        obtain ⟨r14, r15⟩ := hKr k6
        obtain ⟨r5, hrv⟩ := hG.R' hv k6
        have hmd : m_looks (nI v) M = lkE (nI v) M := rowsLk_o hM hv10 (Or.inr (by rw [k8]; decide)) e2
        unfold lkE at hmd
        rw [jn_d, if_pos h25, rd_n hv10 (by decide), if_pos k8] at hmd
        have hs3 := seekPair_n (G := G) (nt := nt) (nv := nv) (x2 := 3) (ks := G (vr G v) 2) (cs := G (vr G v) 1) hS
        have hm3 := looksFor_n (x2 := 3) (A := fun i j => pt (G (vr G v) 2) (gl l i) = pt (G (vr G v) 2) (gl l j) ∧ pt (G (vr G v) 1) (gl l i) ≠ pt (G (vr G v) 1) (gl l j)) hM hv10 h25 (hnz 3 (by decide) (by decide)) (fun i j hi hj => against3 hP (k10.trans r5) r15 r14 hv10 hrv (okL_gl hM.2.2.1 hi) (okL_gl hM.2.2.1 hj))
        unfold d3_seekOwnConflict at hcd
        rcases hs3 with ⟨hn3, e3⟩ | ⟨i, j, hF, e3⟩
        · rcases hm3 with ⟨hn4, e4⟩ | ⟨i', j', hF2, -⟩
          · rw [e3, cb_s, cb_s] at hcd
            rw [e4, cb_s] at hmd
            dsimp only at hmd
            rw [if_pos h25, rd_n hv10 (by decide), if_neg (show ¬ M.2 8 v = 0 by rw [k8]; decide)] at hmd
            exact ⟨none, ⟨hcd, hmd⟩, fun _ => ⟨hunl, fun z => absurd (k6.symm.trans z) (by decide)⟩⟩
          · exact absurd hF2.2.2.1 (hn3 i' j' hF2.1 hF2.2.1)
        · rcases hm3 with ⟨hn4, e4⟩ | ⟨i', j', hF2, e4⟩
          · exact absurd hF.2.2.1 (hn4 i j hF.1 hF.2.1)
          · obtain ⟨rfl, rfl⟩ := FP_uniq hF hF2
            rw [e3, cb_s, cb_s, g0] at hcd
            rw [e4, cb_s] at hmd
            dsimp only at hmd
            rw [if_neg (show ¬ (apM M (10 * nI v + 3) (nI (gl l i')) (nI (gl l j'))).1 25 = 0 by rw [apM_25]; exact hnz 3 (by decide) (by decide))] at hmd
            exact ⟨some (10 * nI v + 3, nI (gl l i'), nI (gl l j')), ⟨hnp 3 (by decide) (by decide), hcd, hmd⟩, fun z => by cases z⟩
    · exact absurd hF2.2.2.1 ((noP_cg hAB hn) i' j' hF2.1 hF2.2.1)
  · rcases hm1 with ⟨hn2, -⟩ | ⟨i', j', hF2, e2⟩
    · exact absurd (FP_cg hAB hF).2.2.1 (hn2 i j hF.1 hF.2.1)
    · obtain ⟨rfl, rfl⟩ := FP_uniq (FP_cg hAB hF) hF2
      have hz : ¬ (apM M (10 * nI v + 1) (nI (gl l i')) (nI (gl l j'))).1 25 = 0 := by rw [apM_25]; exact hnz 1 (by decide) (by decide)
      have hz2 : ¬ (apC S (10 * G v 0 + 1) (nI (gl l i')) (nI (gl l j'))).1 46 = 0 := by rw [apC_46, g0]; exact hnz 1 (by decide) (by decide)
      have hcd : d9_seekConflict G nt nv v S = some (apC S (10 * nI v + 1) (nI (gl l i')) (nI (gl l j'))) := by
        unfold d9_seekConflict
        rw [e1, cb_s, told1 hz2, cb_s, if_neg z10, g0]
      have hmd := rowsLk_o (v := v) (l := l) (T := apM M (10 * nI v + 1) (nI (gl l i')) (nI (gl l j'))) hM hv10 (Or.inl hz) e2
      rw [lkE_t hz] at hmd
      exact ⟨some (10 * nI v + 1, nI (gl l i'), nI (gl l j')), ⟨hnp 1 (by decide) (by decide), hcd, hmd⟩, fun z => by cases z⟩
