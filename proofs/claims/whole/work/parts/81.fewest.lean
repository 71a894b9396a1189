/-! ===== fewest ===== -/
theorem onlyTable_n {S : St} {mk : Int32} {nt : Nat} (h42 : S.1 42 = nI nt) (h56 : S.1 56 = nI nt) (hnt : nt ≤ 3) : (∃ t, t < nt ∧ mk = 1 <<< (nI t &&& 31) ∧ d10_onlyTable mk S = some (some t)) ∨ ((∀ t, t < nt → mk ≠ 1 <<< (nI t &&& 31)) ∧ d10_onlyTable mk S = some none) := by
  unfold d10_onlyTable
  refine lq1 (Q := fun y => (∃ t, t < nt ∧ mk = 1 <<< (nI t &&& 31) ∧ y = some (some t)) ∨ ((∀ t, t < nt → mk ≠ 1 <<< (nI t &&& 31)) ∧ y = some none)) (fun d (a : Int32) => ∃ k, k + d = nt ∧ a = nI k ∧ ∀ t, t < k → mk ≠ 1 <<< (nI t &&& 31)) ?_ _ nt _ (FU_lt (by omega)) ⟨0, by omega, rfl, fun t ht => by omega⟩
  rintro d a g ⟨k, hk, rfl, hno⟩ ih
  rw [h42]
  by_cases h0 : d = 0
  · rw [if_pos (nI_le (by omega) (by omega))]
    exact Or.inr ⟨fun t ht => hno t (by omega), rfl⟩
  · have hkn : k < nt := by omega
    rw [if_neg (nI_ge hkn (by omega))]
    by_cases he : mk = 1 <<< (nI k &&& 31)
    · rw [if_pos he, tableAt_i h42 h56 hnt hkn, cb_s]
      exact Or.inl ⟨k, hkn, he, rfl⟩
    · rw [if_neg he, nI_1]
      refine ih (d - 1) _ (by omega) ⟨k + 1, by omega, rfl, fun t ht => ?_⟩
      by_cases htk : t = k
      · rw [htk]; exact he
      · exact hno t (by omega)
theorem tableOf_y {M : St} {u t : Nat} (hu : u < 10) (ht : t < 3) (h : M.2 16 u = 1 <<< (nI t &&& 31)) : m_tableOf (nI u) M = some (nI t) := by
  unfold m_tableOf
  rw [rd_n hu (by decide), h, rd_n hu (by decide), h, rd_n hu (by decide), h]
  have h3 : t = 0 ∨ t = 1 ∨ t = 2 := by omega
  rcases h3 with rfl | rfl | rfl
  · rw [if_pos (show (1 : Int32) <<< (nI 0 &&& 31) = 1 by decide)]
    rfl
  · rw [if_neg (show ¬ (1 : Int32) <<< (nI 1 &&& 31) = 1 by decide), if_pos (show (1 : Int32) <<< (nI 1 &&& 31) = 2 by decide)]
    rfl
  · rw [if_neg (show ¬ (1 : Int32) <<< (nI 2 &&& 31) = 1 by decide), if_neg (show ¬ (1 : Int32) <<< (nI 2 &&& 31) = 2 by decide), if_pos (show (1 : Int32) <<< (nI 2 &&& 31) = 4 by decide)]
    rfl
theorem tableOf_no {M : St} {u : Nat} (hu : u < 10) (h : ∀ t, t < 3 → M.2 16 u ≠ 1 <<< (nI t &&& 31)) : m_tableOf (nI u) M = some (-1) := by
  unfold m_tableOf
  rw [rd_n hu (by decide), if_neg (show ¬ M.2 16 u = 1 from h 0 (by decide)), rd_n hu (by decide), if_neg (show ¬ M.2 16 u = 2 from fun z => h 1 (by decide) (z.trans (by decide))), rd_n hu (by decide), if_neg (show ¬ M.2 16 u = 4 from fun z => h 2 (by decide) (z.trans (by decide)))]
def CT (H : List Nat) : Prop := ∀ r, r ∈ H → ∀ j, j < 6 → dg r j ≤ 2
theorem great_n {r : Nat} (hr : r < 2 ^ 31) : ((∀ j, j < 6 → dg r j ≤ 2) ∧ d8_hasGreatValue (nI r) = some 0) ∨ (¬ (∀ j, j < 6 → dg r j ≤ 2) ∧ d8_hasGreatValue (nI r) = some 1) := by
  unfold d8_hasGreatValue
  refine lq1 (Q := fun y => ((∀ j, j < 6 → dg r j ≤ 2) ∧ y = some 0) ∨ (¬ (∀ j, j < 6 → dg r j ≤ 2) ∧ y = some 1)) (fun d (a : Int32) => ∃ k, k + d = 6 ∧ a = nI k ∧ ∀ j, j < k → dg r j ≤ 2) ?_ _ 6 _ (FU_lt (by omega)) ⟨0, by omega, rfl, fun t ht => by omega⟩
  rintro d a g ⟨k, hk, rfl, hno⟩ ih
  by_cases h0 : d = 0
  · have hk6 : k = 6 := by omega
    subst hk6
    rw [if_pos (show (6 : Int32) ≤ nI 6 by decide)]
    exact Or.inl ⟨hno, rfl⟩
  · have hk6 : k < 6 := by omega
    rw [if_neg (show ¬ (6 : Int32) ≤ nI k from nI_ge (b := 6) hk6 (by decide)), digit_n hr hk6, cb_s]
    by_cases h2 : dg r k ≤ 2
    · rw [if_pos (show nI (dg r k) ≤ 2 from nI_le (b := 2) h2 (by decide)), nI_1]
      refine ih (d - 1) _ (by omega) ⟨k + 1, by omega, rfl, fun j hj => ?_⟩
      by_cases hjk : j = k
      · rw [hjk]; exact h2
      · exact hno j (by omega)
    · rw [if_neg (show ¬ nI (dg r k) ≤ 2 from nI_ge (a := 2) (by omega) (by have := dg_lt r k; omega))]
      exact Or.inr ⟨fun z => h2 (z k hk6), rfl⟩
theorem canC_n {S : St} {G : Gt} {nt nv t c : Nat} {H : List Nat} (hH : Rw S (1 + 7 * t) H) (hcs : G (20 + t) 0 = nI c) (hc : c < 64) : ((pc c ≤ 2 ∧ CT H) ∧ d8_canTry G nt nv t S = some 1) ∨ (¬ (pc c ≤ 2 ∧ CT H) ∧ d8_canTry G nt nv t S = some 0) := by
  have hl := Nat.le_trans hH.2.1 dcap_le
  have hpc := (pc_n ⟨c, hc⟩).1
  dsimp only at hpc
  have hpb : pc c ≤ 6 := by
    unfold pc
    have : ∀ n, sumN (fun k => if bt (nI c) k = true then 1 else 0) n ≤ n := by
      intro n
      induction n with
      | zero => exact Nat.le_refl 0
      | succ n ih =>
        show sumN _ n + (if bt (nI c) n = true then 1 else 0) ≤ n + 1
        split <;> omega
    exact this 6
  unfold d8_canTry
  rw [hcs, hpc, cb_s]
  by_cases h2 : pc c ≤ 2
  · rw [if_pos (show nI (pc c) ≤ 2 from nI_le (b := 2) h2 (by decide))]
    refine lq1 (Q := fun y => ((pc c ≤ 2 ∧ CT H) ∧ y = some 1) ∨ (¬ (pc c ≤ 2 ∧ CT H) ∧ y = some 0)) (fun d (a : Int32) => ∃ k, k + d = H.length ∧ a = nI k ∧ ∀ i, i < k → ∀ j, j < 6 → dg (gl H i) j ≤ 2) ?_ _ H.length _ (FU_lt (by omega)) ⟨0, by omega, rfl, fun t ht => by omega⟩
    rintro d a g ⟨k, hk, rfl, hno⟩ ih
    rw [size_n hH, cb_s]
    by_cases h0 : d = 0
    · rw [if_pos (nI_le (by omega) (by omega))]
      refine Or.inl ⟨⟨h2, fun r hr => ?_⟩, rfl⟩
      obtain ⟨i, hi, rfl⟩ := mem_gl hr
      exact hno i (by omega)
    · have hkl : k < H.length := by omega
      rw [if_neg (nI_ge hkl (by omega)), at_n hH hkl, cb_s]
      rcases great_n (okL_gl hH.2.2.2 hkl) with ⟨hg, e⟩ | ⟨hg, e⟩
      · rw [e, cb_s, if_pos z00, nI_1]
        refine ih (d - 1) _ (by omega) ⟨k + 1, by omega, rfl, fun i hi => ?_⟩
        by_cases hik : i = k
        · rw [hik]; exact hg
        · exact hno i (by omega)
      · rw [e, cb_s, if_neg z10]
        exact Or.inr ⟨fun z => hg (z.2 _ (gl_mem hkl)), rfl⟩
  · rw [if_neg (show ¬ nI (pc c) ≤ 2 from nI_ge (a := 2) (by omega) (by omega))]
    exact Or.inr ⟨fun z => h2 z.1, rfl⟩
theorem canBad {z2 : Int32} {S : St} : (lp (fun _ _ => none) (fun (g6 : Int32 → Int32 → Option Int32) (x4 : Int32) (x5 : Int32) => if x4 = 0 then (gd (x4 = 0 ∨ x4 = 1) <| some x4) else (rd z2 3 fun (j9 : Nat) => if (S.2 5 j9) ≤ x5 then (gd (x4 = 0 ∨ x4 = 1) <| some x4) else (lp (fun _ _ => none) (fun (g15 : Int32 → Int32 → Option Int32) (x13 : Int32) (x14 : Int32) => if 6 ≤ x14 then (g6 x13 (x5 + 1)) else (jn (g15 0 (x14 + 1)) fun k17 => if x13 = 0 then (k17) else (rd ((12 * z2) + x5) 36 fun (j19 : Nat) => cb (m_digit (S.2 6 j19) x14 S) fun (z21 : Int32) => if 2 < z21 then (k17) else (g15 1 (x14 + 1))))) FU x4 0))) FU 0 0) = some 0 := by
  refine lq2 (Q := fun y => y = some 0) (fun d (a b : Int32) => a = 0) ?_ _ 0 _ _ (FU_lt (by omega)) rfl
  rintro d a b g rfl -
  rw [if_pos z00, gd_t (Or.inl rfl)]
theorem canM_no {M : St} {x : Int32} (h22 : M.1 22 = x) (h : m_tableOf x M = some (-1)) : m_canTry M = some 0 := by
  unfold m_canTry
  rw [h22, h, cb_s, jn_d, if_pos rfl]
  exact canBad
theorem canM_n {M : St} {t c : Nat} {H : List Nat} {x : Int32} (hP : PW M) (h22 : M.1 22 = x) (h : m_tableOf x M = some (nI t)) (ht : t < 3) (h3 : M.2 3 t = nI c) (hc : c < 64) (hTm : Tm M t H) (hH : H.length ≤ 12) (hok : okL H) : ((pc c ≤ 2 ∧ CT H) ∧ m_canTry M = some 1) ∨ (¬ (pc c ≤ 2 ∧ CT H) ∧ m_canTry M = some 0) := by
  have hpc := (pc_n ⟨c, hc⟩).2
  dsimp only at hpc
  have hpb : pc c ≤ 6 := by
    unfold pc
    have : ∀ n, sumN (fun k => if bt (nI c) k = true then 1 else 0) n ≤ n := by
      intro n
      induction n with
      | zero => exact Nat.le_refl 0
      | succ n ih =>
        show sumN _ n + (if bt (nI c) n = true then 1 else 0) ≤ n + 1
        split <;> omega
    exact this 6
  unfold m_canTry
  rw [h22, h, cb_s, jn_d, if_neg (nm1 (by omega)), rd_n ht (by decide), h3, hpc, cb_s]
  by_cases h2 : pc c ≤ 2
  · rw [if_neg (show ¬ (2 : Int32) < nI (pc c) from nI_nlt (a := 2) h2 (by decide))]
    refine lq2 (Q := fun y => ((pc c ≤ 2 ∧ CT H) ∧ y = some 1) ∨ (¬ (pc c ≤ 2 ∧ CT H) ∧ y = some 0)) (fun d (a b : Int32) => ∃ k, k + d = H.length + 1 ∧ b = nI k ∧ k ≤ H.length ∧ ((a = 1 ∧ ∀ i, i < k → ∀ j, j < 6 → dg (gl H i) j ≤ 2) ∨ (a = 0 ∧ ¬ CT H))) ?_ _ (H.length + 1) _ _ (FU_lt (by omega)) ⟨0, by omega, rfl, by omega, Or.inl ⟨rfl, fun t ht => by omega⟩⟩
    rintro d a b g ⟨k, hk, rfl, hkl, hz⟩ ih
    rcases hz with ⟨rfl, hno⟩ | ⟨rfl, hno⟩
    · rw [if_neg z10, rd_n ht (by decide), hTm.1]
      by_cases h0 : d = 1
      · rw [if_pos (nI_le (by omega) (by omega)), gd_t (Or.inr rfl)]
        refine Or.inl ⟨⟨h2, fun r hr => ?_⟩, rfl⟩
        obtain ⟨i, hi, rfl⟩ := mem_gl hr
        exact hno i (by omega)
      · have hkl : k < H.length := by omega
        have hr31 := okL_gl hok hkl
        have e6 : M.2 6 (12 * t + k) = nI (gl H k) := hTm.2 k hkl
        rw [if_neg (nI_ge hkl (by omega))]
        refine lq2 (Q := fun y => ((pc c ≤ 2 ∧ CT H) ∧ y = some 1) ∨ (¬ (pc c ≤ 2 ∧ CT H) ∧ y = some 0)) (fun d (a b : Int32) => ∃ j, j + d = 6 ∧ b = nI j ∧ ((a = 1 ∧ ∀ q, q < j → dg (gl H k) q ≤ 2) ∨ (a = 0 ∧ ¬ CT H))) ?_ _ 6 _ _ (FU_lt (by omega)) ⟨0, by omega, rfl, Or.inl ⟨rfl, fun t ht => by omega⟩⟩
        rintro d2 a b g2 ⟨j, hj, rfl, hz2⟩ ih2
        by_cases h1 : d2 = 0
        · have hj6 : j = 6 := by omega
          subst hj6
          rw [if_pos (show (6 : Int32) ≤ nI 6 by decide), nI_1]
          refine ih (d - 1) _ _ (by omega) ⟨k + 1, by omega, rfl, by omega, ?_⟩
          rcases hz2 with ⟨rfl, w⟩ | ⟨rfl, w⟩
          · refine Or.inl ⟨rfl, fun i hi => ?_⟩
            by_cases hik : i = k
            · rw [hik]; exact w
            · exact hno i (by omega)
          · exact Or.inr ⟨rfl, w⟩
        · have hj6 : j < 6 := by omega
          rw [if_neg (show ¬ (6 : Int32) ≤ nI j from nI_ge (b := 6) hj6 (by decide)), jn_d, nI_1]
          rcases hz2 with ⟨rfl, w⟩ | ⟨rfl, w⟩
          · rw [if_neg z10, n12, nI_add, rd_n (show 12 * t + k < 36 by omega) (by decide), e6, mdigit_n hP hr31 hj6, cb_s]
            by_cases hd2 : dg (gl H k) j ≤ 2
            · rw [if_neg (show ¬ (2 : Int32) < nI (dg (gl H k) j) from nI_nlt (a := 2) hd2 (by decide))]
              refine ih2 (d2 - 1) _ _ (by omega) ⟨j + 1, by omega, rfl, Or.inl ⟨rfl, fun q hq => ?_⟩⟩
              by_cases hqj : q = j
              · rw [hqj]; exact hd2
              · exact w q (by omega)
            · have hdl := dg_lt (gl H k) j
              rw [if_pos (show (2 : Int32) < nI (dg (gl H k) j) from nI_lt (a := 2) (by omega) (by omega))]
              exact ih2 (d2 - 1) _ _ (by omega) ⟨j + 1, by omega, rfl, Or.inr ⟨rfl, fun z => hd2 (z _ (gl_mem hkl) j hj6)⟩⟩
          · rw [if_pos z00]
            exact ih2 (d2 - 1) _ _ (by omega) ⟨j + 1, by omega, rfl, Or.inr ⟨rfl, w⟩⟩
    · rw [if_pos z00, gd_t (Or.inl rfl)]
      exact Or.inr ⟨fun z => hno z.2, rfl⟩
  · rw [if_pos (show (2 : Int32) < nI (pc c) from nI_lt (a := 2) (by omega) (by omega))]
    refine Or.inr ⟨fun z => h2 z.1, ?_⟩
    exact canBad
theorem sm_fewest : Sm_fewest RR := by
  intro S G nt nv M h
  have hb := h.b
  have e21 : ∀ (hm21 : M.1 21 = 0), m_fewest M = some (0, w1 M 0 1) := fun hm21 => by
    rw [fewest_d, jn_d, if_pos hm21]
    dsimp only
    rw [lt_d, w1_eq, if_neg z1l]
  have ecan : ∀ (hn : ¬ M.1 21 = 0) (hc : m_canTry M = some 0), m_fewest M = some (0, w1 M 0 1) := fun hn hc => by
    rw [fewest_d, jn_d, if_neg hn, hc, cb_s, if_pos z00]
    dsimp only
    rw [lt_d, w1_eq, if_neg z1l]
  have ebad : ∀ (hc : d10_fewest G nt nv S = some (2, 0, S)) (hm : m_fewest M = some (0, w1 M 0 1)), ∃ (e0 : Nat) (r k r2 : Int32) (S' M' : St), d10_fewest G nt nv S = some (e0, r, S') ∧ m_fewest M = some (r2, M') ∧ m_thrown M' = some k ∧ ((e0 = 0 ∧ k = 0) ∨ (e0 = 2 ∧ k = 1)) ∧ (e0 = 0 → r = r2) ∧ RR S' G nt nv M' := fun hc hm => ⟨2, 0, 1, 0, S, _, hc, hm, thr_w, Or.inr ⟨rfl, rfl⟩, (fun z => by cases z), h.x0⟩
  rcases h.2.2.2.1 with ⟨h44, h21⟩ | ⟨u, D, hD⟩
  · refine ebad ?_ (e21 h21)
    unfold d10_fewest
    rw [lt_d, h44, oid_m1, oc_o]
  · obtain ⟨hu, h44, h21, h22, hRD, h23, h24, hDs, hDv⟩ := id hD
    have hn21 : ¬ M.1 21 = 0 := by rw [h21]; exact z10
    have hoid : oid (S.1 44) = some u := by rw [h44, oid_nI (by omega)]
    have hDl := hRD.2.1
    rw [dcap_0] at hDl
    obtain ⟨Tb, hB, hV⟩ := h.tb
    obtain ⟨⟨g14, g15, g16, -⟩, g0, gm⟩ := h.2.1.2.2.2.2.1 u hu
    rcases onlyTable_n (mk := G u 3) h.s42 h.s56 hb.1 with ⟨t, ht, hmk, e1⟩ | ⟨hno, e1⟩
    · obtain ⟨hH, hTm, hF⟩ := hB t ht
      obtain ⟨c3, c4, hks, c, hc0, hc64, hcs⟩ := h.2.1.2.2.2.2.2 t ht
      have htab : m_tableOf (nI u) M = some (nI t) := tableOf_y (by omega) (by omega) (g16.trans hmk)
      have hcd : d10_fewest G nt nv S = cb (d8_canTry G nt nv t S) fun (z21 : Int32) => if z21 = 0 then (some (2, 0, S)) else (cb2 (d8_fewestChanges G nt nv u t 0 S) fun (z27 : Int32) (S29 : St) => some (0, z27, S29)) := by
        unfold d10_fewest
        rw [lt_d, hoid, oc_s, gd_t hu, lt_d, oc_s, gd_t hu, e1, cb_s, oc_s, gd_t ht, lt_d, oc_s, gd_t hu]
      have hcC := canC_n (G := G) (nt := nt) (nv := nv) hH hcs hc64
      have hcM := canM_n h.2.1.2.1 h22 htab (show t < 3 by omega) (c3.trans hcs) hc64 hTm hF.1 hF.ok
      by_cases hct : pc c ≤ 2 ∧ CT (Tb t)
      · have eC : d8_canTry G nt nv t S = some 1 := by
          rcases hcC with ⟨-, e⟩ | ⟨e, -⟩
          · exact e
          · exact absurd hct e
        have eM : m_canTry M = some 1 := by
          rcases hcM with ⟨-, e⟩ | ⟨e, -⟩
          · exact e
          · exact absurd hct e
        obtain ⟨hL9, hsrt, hval⟩ := tl_d ⟨c, hc64⟩ hct.1
        dsimp only at hL9 hsrt hval
        have hLok : okL (tl (nI c) 6) := fun r hr => by
          obtain ⟨j, hj, rfl⟩ := mem_gl hr
          exact val_lt (hval ⟨j, by omega⟩ hj)
        obtain ⟨S1, q1, q2⟩ := fewC_n (nt := nt) (u := u) h.2.1.1 hu hH (show t < 3 by omega) hRD hcs hL9 hLok
        rw [eC, cb_s, if_neg z10, q1, cb2_s] at hcd
        have h0 := h.x0 (x := 0)
        obtain ⟨M1, p1, p2, p3⟩ := fewM_n (M := w1 M 0 0) (Tb := Tb) h0.2.1.2.1 h.2.1.1 (fun v hv => h0.km hv) h0.m7 (fun t' ht' => (hB t' ht').2.2) (fun t' ht' => (hB t' ht').2.1) hu ((w1_ne (by decide)).trans h22) ((w1_ne (by decide)).trans h23) h24 hDl hDs hRD.2.2.2 ht c3 c4 hc64 hcs hct.1 hmk hct.2
        have hbst : bst (okf (Cf G u t (tl (nI c) 6) D) (dif (tl (nI c) 6) (Tb t))) 512 = bst (okf (Cf G u t (tl (nI c) 6) D) (dif (tl (nI c) 6) (Tb t))) (2 ^ (tl (nI c) 6).length) := by
          refine bst_hi (Nat.le_trans (Nat.pow_le_pow_right (by decide) hL9) (by decide)) fun m hm1 hm2 => okf_f fun hC => ?_
          have := (hi_n ⟨(tl (nI c) 6).length, by omega⟩ ⟨m, hm2⟩).mpr fun i hi => hC.1 i.1 i.2 hi
          dsimp only at this
          omega
        rw [hbst] at p1
        have htab0 : m_tableOf (nI u) (w1 M 0 0) = some (nI t) := htab
        have e5 : (w1 M 0 0).2 5 t = nI (Tb t).length := hTm.1
        have hmd : m_fewest M = some (bst (okf (Cf G u t (tl (nI c) 6) D) (dif (tl (nI c) 6) (Tb t))) (2 ^ (tl (nI c) 6).length), M1) := by
          rw [fewest_d, jn_d, if_neg hn21, eM, cb_s, if_neg z10]
          dsimp only
          rw [lt_d, w1_eq, if_pos z0l, show (w1 M 0 0).1 22 = nI u from (w1_ne (by decide)).trans h22, htab0, cb_s, rd_n (show t < 3 by omega) (by decide), e5, p1]
        obtain ⟨i1, i2, i3, i4, i5⟩ := p2
        have hm1 : ∀ k, k ≠ 0 → M1.1 k = M.1 k := fun k a => by rw [i1, w1_ne a]
        have hm2 : ∀ k, k ≠ 5 → k ≠ 6 → k ≠ 17 → k ≠ 18 → k ≠ 35 → M1.2 k = M.2 k := fun k a b c d e => i2 k a b c d e
        have hR1 : RR S1 G nt nv M := h.sc q2 FrX.rf
        have hTm1 : ∀ t', t' < nt → Tm M1 t' (Tb t') := fun t' ht' => by
          by_cases htt : t' = t
          · subst htt; exact p3
          · obtain ⟨a, b⟩ := (hB t' ht').2.1
            have hl12 := (hB t' ht').2.2.1
            refine ⟨(i3 t' htt).trans a, fun j hj => ?_⟩
            rw [i4 _ (by omega)]
            exact b j hj
        have hB1 : RB G nt S1 M1 Tb := fun t' ht' => ⟨(hB t' ht').1.fr (q2.1 _ (by unfold scr; omega)) (q2.2 _ (by omega) (by unfold scr; omega)), hTm1 t' ht', (hB t' ht').2.2⟩
        have hV1 : RV G nv S1 Tb := hV.fr fun v hv => ⟨q2.1 _ (by unfold scr; omega), q2.2 _ (by omega) (by unfold scr; omega)⟩
        exact ⟨0, _, 0, _, S1, M1, hcd, hmd, by rw [thr_n, i1, w1_eq], Or.inl ⟨rfl, rfl⟩, fun _ => rfl, hR1.1, hR1.2.1.fr (hm1 2 (by decide)) (hm1 7 (by decide)) (fun k a b c => hm2 k b c (by omega) (by omega) (by omega)), ⟨Tb, hB1, hV1⟩, hR1.2.2.2.1.fr rfl rfl rfl (hm1 21 (by decide)) (hm1 22 (by decide)) (hm1 23 (by decide)) (hm2 24 (by decide) (by decide) (by decide) (by decide) (by decide)), hR1.2.2.2.2.fr rfl (fun _ _ _ _ => ⟨rfl, rfl⟩) (hm1 32 (by decide)) (hm2 33 (by decide) (by decide) (by decide) (by decide) (by decide)) (hm2 34 (by decide) (by decide) (by decide) (by decide) (by decide))⟩
      · have eC : d8_canTry G nt nv t S = some 0 := by
          rcases hcC with ⟨e, -⟩ | ⟨-, e⟩
          · exact absurd e hct
          · exact e
        have eM : m_canTry M = some 0 := by
          rcases hcM with ⟨e, -⟩ | ⟨-, e⟩
          · exact absurd e hct
          · exact e
        rw [eC, cb_s, if_pos z00] at hcd
        exact ebad hcd (ecan hn21 eM)
    · refine ebad ?_ (ecan hn21 (canM_no h22 (tableOf_no (by omega) fun t ht => ?_)))
      · unfold d10_fewest
        rw [lt_d, hoid, oc_s, gd_t hu, lt_d, oc_s, gd_t hu, e1, cb_s, oc_o]
      · rw [g16]
        intro z
        have := gm t (by omega) (by rw [z, bt_one (by omega) (by omega), decide_eq_true rfl])
        exact hno t this z
