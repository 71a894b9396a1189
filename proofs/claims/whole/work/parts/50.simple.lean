/-! ===== calls that only look ===== -/
theorem z00 : (0 : Int32) = 0 := rfl
theorem z10 : ¬ (1 : Int32) = 0 := by decide
theorem z20 : ¬ (2 : Int32) = 0 := by decide
theorem z30 : ¬ (3 : Int32) = 0 := by decide
theorem z1l : ¬ (1 : Int32) ≤ 0 := by decide
theorem z2l : ¬ (2 : Int32) ≤ 0 := by decide
theorem z3l : ¬ (3 : Int32) ≤ 0 := by decide
theorem z0l : (0 : Int32) ≤ 0 := by decide
theorem in_o {x : Int32} {n : Nat} (hn : n < 2 ^ 31) (h : x < 0 ∨ nI n ≤ x) : m_in x 0 (nI n - 1) = some 0 := by
  unfold m_in
  by_cases h0 : x < 0
  · rw [if_pos h0]
  · rw [if_neg h0]
    have h := h.resolve_left h0
    rw [if_pos]
    obtain ⟨k, hk, rfl⟩ := nI_of h0
    by_cases hn0 : n = 0
    · subst hn0
      have e : nI 0 - 1 = (-1 : Int32) := by decide
      rw [e, Int32.lt_iff_toInt_lt, nI_toInt hk]
      show (-1 : Int) < k
      omega
    · obtain ⟨m, rfl⟩ : ∃ m, n = m + 1 := ⟨n - 1, by omega⟩
      rw [nI_pred]
      have := (nI_leI hn hk).mp h
      exact nI_lt (by omega) hk
theorem in_i {j n : Nat} (hn : n < 2 ^ 31) (h : j < n) : m_in (nI j) 0 (nI n - 1) = some 1 := by
  unfold m_in
  obtain ⟨m, rfl⟩ : ∃ m, n = m + 1 := ⟨n - 1, by omega⟩
  rw [if_neg (nI_pos (by omega)), nI_pred, if_neg (nI_nlt (by omega) (by omega))]
theorem isTable_o {M : St} {x : Int32} {n : Nat} (h2 : M.1 2 = nI n) (hn : n < 2 ^ 31) (h : x < 0 ∨ nI n ≤ x) : m_isTable x M = some 0 := by
  unfold m_isTable
  rw [h2, in_o hn h, cb_s, gd_t (Or.inl rfl)]
theorem isTable_i {M : St} {j n : Nat} (h2 : M.1 2 = nI n) (hn : n < 2 ^ 31) (h : j < n) : m_isTable (nI j) M = some 1 := by
  unfold m_isTable
  rw [h2, in_i hn h, cb_s, gd_t (Or.inr rfl)]
theorem isView_o {M : St} {x : Int32} {n : Nat} (h2 : M.1 7 = nI n) (hn : n < 2 ^ 31) (h : x < 0 ∨ nI n ≤ x) : m_isView x M = some 0 := by
  unfold m_isView
  rw [h2, in_o hn h, cb_s, gd_t (Or.inl rfl)]
theorem isView_i {M : St} {j n : Nat} (h2 : M.1 7 = nI n) (hn : n < 2 ^ 31) (h : j < n) : m_isView (nI j) M = some 1 := by
  unfold m_isView
  rw [h2, in_i hn h, cb_s, gd_t (Or.inr rfl)]
theorem asksView_o {M : St} {x : Int32} {n : Nat} (h2 : M.1 7 = nI n) (hn : n < 2 ^ 31) (h : x < 0 ∨ nI n ≤ x) : m_asksView x M = some (0, w1 M 0 1) := by
  unfold m_asksView
  rw [isView_o h2 hn h, cb_s, jn_d, if_pos rfl]
  dsimp only
  rw [lt_d, w1_eq, if_neg z10]
theorem asksView_i {M : St} {j n : Nat} (h2 : M.1 7 = nI n) (hn : n < 2 ^ 31) (h : j < n) : m_asksView (nI j) M = some (1, w1 M 0 0) := by
  unfold m_asksView
  rw [isView_i h2 hn h, cb_s, jn_d, if_neg z10]
  dsimp only
  rw [lt_d, w1_eq, if_pos rfl]
theorem RR.b {S M : St} {G : Gt} {nt nv : Nat} (h : RR S G nt nv M) : nt ≤ 3 ∧ nv ≤ 10 := h.2.1.1.1.1
theorem RR.s43 {S M : St} {G : Gt} {nt nv : Nat} (h : RR S G nt nv M) : S.1 43 = nI nv := h.1.2.2.2.1
theorem RR.s55 {S M : St} {G : Gt} {nt nv : Nat} (h : RR S G nt nv M) : S.1 55 = nI nv := h.1.2.1
theorem RR.s42 {S M : St} {G : Gt} {nt nv : Nat} (h : RR S G nt nv M) : S.1 42 = nI nt := h.1.2.2.1
theorem RR.s56 {S M : St} {G : Gt} {nt nv : Nat} (h : RR S G nt nv M) : S.1 56 = nI nt := h.1.1
theorem RR.m7 {S M : St} {G : Gt} {nt nv : Nat} (h : RR S G nt nv M) : M.1 7 = nI nv := h.2.1.2.2.2.1
theorem RR.m2 {S M : St} {G : Gt} {nt nv : Nat} (h : RR S G nt nv M) : M.1 2 = nI nt := h.2.1.2.2.1
theorem RR.km {S M : St} {G : Gt} {nt nv v : Nat} (h : RR S G nt nv M) (hv : v < nv) : KM G M v := (h.2.1.2.2.2.2.1 v hv).1
theorem RR.lays {S M : St} {G : Gt} {nt nv : Nat} (h : RR S G nt nv M) {Tb : Nat → List Nat} (hB : RB G nt S M Tb) : ∃ M', m_laysViews M = some M' ∧ FrL M M' ∧ ∀ v, v < nv → Vm M' 18 17 v (VV G Tb v) := laysViews_n h.2.1.2.1 h.2.1.1 (fun v hv => h.km hv) h.m7 (fun t ht => (hB t ht).2.2) (fun t ht => (hB t ht).2.1)
theorem RR.tb {S M : St} {G : Gt} {nt nv : Nat} (h : RR S G nt nv M) : ∃ Tb, RB G nt S M Tb ∧ RV G nv S Tb := h.2.2.1
theorem RR.fv {S M : St} {G : Gt} {nt nv v : Nat} (h : RR S G nt nv M) {Tb : Nat → List Nat} (hB : RB G nt S M Tb) (hv : v < nv) : FV G v (VV G Tb v) := FV_n h.2.1.1 (fun t ht => (hB t ht).2.2) hv
theorem RR.b0 {S M : St} {G : Gt} {nt : Nat} {Tb : Nat → List Nat} {x : Int32} (hB : RB G nt S M Tb) : RB G nt S (w1 M 0 x) Tb := hB.fr (fun _ _ => ⟨rfl, rfl⟩) rfl rfl
theorem sm_columns : Sm_columns RR := by
  intro S G nt nv M x1 h
  have hb := h.b
  unfold d10_columns m_columns
  rcases ix_n x1 (show nv < 2 ^ 31 by omega) with ho | ⟨u, hu, rfl⟩
  · rw [viewAt_o h.s43 ho, cb_s, oc_o, asksView_o h.m7 (by omega) ho, cb2_s, if_pos z00]
    exact ⟨3, 0, 1, 0, S, _, rfl, rfl, thr_w, Or.inr ⟨rfl, rfl⟩, (fun z => by cases z), h.x0⟩
  · rw [viewAt_i h.s43 h.s55 hb.2 hu, cb_s, oc_s, gd_t hu, asksView_i h.m7 (by omega) hu, cb2_s, if_neg z10, rd_n (by omega) (by decide)]
    exact ⟨0, G u 1, 0, _, S, _, rfl, rfl, thr_w, Or.inl ⟨rfl, rfl⟩, fun _ => (h.km hu).1.symm, h.x0⟩
theorem sm_key : Sm_key RR := by
  intro S G nt nv M x1 h
  have hb := h.b
  unfold d10_key m_key
  rcases ix_n x1 (show nv < 2 ^ 31 by omega) with ho | ⟨u, hu, rfl⟩
  · rw [viewAt_o h.s43 ho, cb_s, oc_o, asksView_o h.m7 (by omega) ho, cb2_s, if_pos z00]
    exact ⟨3, 0, 1, 0, S, _, rfl, rfl, thr_w, Or.inr ⟨rfl, rfl⟩, (fun z => by cases z), h.x0⟩
  · rw [viewAt_i h.s43 h.s55 hb.2 hu, cb_s, oc_s, gd_t hu, asksView_i h.m7 (by omega) hu, cb2_s, if_neg z10, rd_n (by omega) (by decide)]
    exact ⟨0, G u 2, 0, _, S, _, rfl, rfl, thr_w, Or.inl ⟨rfl, rfl⟩, fun _ => (h.km hu).2.1.symm, h.x0⟩
theorem sm_rows : Sm_rows RR := by
  intro S G nt nv M x1 h
  have hb := h.b
  unfold d10_rows m_rows
  rcases ix_n x1 (show nv < 2 ^ 31 by omega) with ho | ⟨u, hu, rfl⟩
  · rw [viewAt_o h.s43 ho, cb_s, oc_o, asksView_o h.m7 (by omega) ho, cb2_s, if_pos z00]
    exact ⟨3, 0, 1, 0, S, _, rfl, rfl, thr_w, Or.inr ⟨rfl, rfl⟩, (fun z => by cases z), h.x0⟩
  · obtain ⟨Tb, hB, hV⟩ := h.tb
    obtain ⟨M', e1, f1, v1⟩ := (h.x0 (x := 0)).lays (RR.b0 hB)
    rw [viewAt_i h.s43 h.s55 hb.2 hu, cb_s, oc_s, gd_t hu, asksView_i h.m7 (by omega) hu, cb2_s, if_neg z10, e1, cb_s, rd_n (by omega) (by decide), size_n (hV u hu), cb_s, (v1 u hu).1]
    exact ⟨0, _, 0, _, S, M', rfl, rfl, by rw [thr_n, f1.1, w1_eq], Or.inl ⟨rfl, rfl⟩, fun _ => rfl, h.x0.m f1.X⟩
theorem sm_row : Sm_row RR := by
  intro S G nt nv M x1 x2 h
  have hb := h.b
  unfold d10_row m_row
  rcases ix_n x1 (show nv < 2 ^ 31 by omega) with ho | ⟨u, hu, rfl⟩
  · rw [viewAt_o h.s43 ho, cb_s, oc_o, asksView_o h.m7 (by omega) ho, cb2_s, if_pos z00]
    exact ⟨3, 0, 1, 0, S, _, rfl, rfl, thr_w, Or.inr ⟨rfl, rfl⟩, (fun z => by cases z), h.x0⟩
  · obtain ⟨Tb, hB, hV⟩ := h.tb
    obtain ⟨M', e1, f1, v1⟩ := (h.x0 (x := 0)).lays (RR.b0 hB)
    have hl12 := (h.fv hB hu).1
    rw [viewAt_i h.s43 h.s55 hb.2 hu, cb_s, oc_s, gd_t hu, asksView_i h.m7 (by omega) hu, cb2_s, if_neg z10, e1, cb_s, rd_n (by omega) (by decide), size_n (hV u hu), cb_s, (v1 u hu).1]
    rcases ix_n x2 (show (VV G Tb u).length < 2 ^ 31 by omega) with ho | ⟨j, hj, rfl⟩
    · rw [in_o (by omega) ho, cb_s, jn_d, if_pos z00]
      dsimp only
      rw [lt_d, w1_eq, if_neg z1l]
      have hR : RR S G nt nv (w1 M' 0 1) := (h.x0.m f1.X).x0
      by_cases h0 : x2 < 0
      · rw [if_pos h0]
        exact ⟨3, 0, 1, 0, S, _, rfl, rfl, thr_w, Or.inr ⟨rfl, rfl⟩, (fun z => by cases z), hR⟩
      · rw [if_neg h0]
        obtain ⟨k, hk, rfl⟩ := nI_of h0
        have := (nI_leI (by omega) hk).mp (ho.resolve_left h0)
        rw [if_neg (nI_nlt this hk)]
        exact ⟨3, 0, 1, 0, S, _, rfl, rfl, thr_w, Or.inr ⟨rfl, rfl⟩, (fun z => by cases z), hR⟩
    · have e2 : M'.2 18 (40 * u + j) = nI (gl (VV G Tb u) j) := (v1 u hu).2.1 j hj
      rw [in_i (by omega) hj, cb_s, jn_d, if_neg z10]
      dsimp only
      rw [lt_d, w1_eq, if_pos z0l, n40, nI_add, rd_n (by omega) (by decide), if_neg (nI_pos (by omega)), if_pos (nI_lt hj (by omega)), at_n (hV u hu) hj, cb_s]
      exact ⟨0, _, 0, _, S, _, rfl, rfl, thr_w, Or.inl ⟨rfl, rfl⟩, fun _ => e2.symm, (h.x0.m f1.X).x0⟩
