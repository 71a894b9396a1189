/-! ===== conflict, conflictRow ===== -/
theorem DD.x0 {G : Gt} {nv u : Nat} {l : List Nat} {S M : St} {x : Int32} (h : DD G nv S M u l) : DD G nv S (w1 M 0 x) u l := h.fr rfl rfl rfl (w1_ne (by decide)) (w1_ne (by decide)) (w1_ne (by decide)) rfl
theorem asksDraft_o {M : St} (h : M.1 21 = 0) : m_asksDraft M = some (0, w1 M 0 1) := by
  unfold m_asksDraft
  rw [jn_d, if_pos h]
  dsimp only
  rw [lt_d, w1_eq, if_neg z10]
theorem asksDraft_i {M : St} (h : M.1 21 = 1) : m_asksDraft M = some (1, w1 M 0 0) := by
  unfold m_asksDraft
  rw [jn_d, if_neg (show ¬ M.1 21 = 0 by rw [h]; decide)]
  dsimp only
  rw [lt_d, w1_eq, if_pos z00]
theorem sm_conflict : Sm_conflict RR := by
  intro S G nt nv M h
  have hb := h.b
  rcases h.2.2.2.1 with ⟨h44, h21⟩ | ⟨u, l, hD⟩
  · have hc : d10_conflict G nt nv S = some (2, 0, S) := by
      unfold d10_conflict
      rw [lt_d, h44, oid_m1, oc_o]
    have hm : m_conflict M = some (0, w1 M 0 1) := by
      unfold m_conflict
      rw [asksDraft_o h21, cb2_s, if_pos z00]
    exact ⟨2, 0, 1, 0, S, _, hc, hm, thr_w, Or.inr ⟨rfl, rfl⟩, (fun z => by cases z), h.x0⟩
  · obtain ⟨S1, M1, Tb, e1, e2, -, hR, h0, -, -, h46, h47, h48, -, -⟩ := plan_n (h.x0 (x := 0)) hD.x0
    have hu := hD.1
    have hc : d10_conflict G nt nv S = some (0, S1.1 46, S1) := by
      unfold d10_conflict
      rw [lt_d, hD.2.1, oid_nI (by omega), oc_s, gd_t hu, e1, cb_s]
    have hm : m_conflict M = some (M1.1 25, M1) := by
      unfold m_conflict
      rw [asksDraft_i hD.2.2.1, cb2_s, if_neg z10, e2, cb_s]
    exact ⟨0, _, 0, _, S1, M1, hc, hm, by rw [thr_n, h0, w1_eq], Or.inl ⟨rfl, rfl⟩, fun _ => h46, hR⟩
theorem sm_conflictRow : Sm_conflictRow RR := by
  intro S G nt nv M x1 h
  have hb := h.b
  rcases h.2.2.2.1 with ⟨h44, h21⟩ | ⟨u, l, hD⟩
  · have hc : d10_conflictRow G nt nv x1 S = some (2, 0, S) := by
      unfold d10_conflictRow
      rw [lt_d, h44, oid_m1, oc_o]
    have hm : m_conflictRow x1 M = some (0, w1 M 0 1) := by
      unfold m_conflictRow
      rw [jn_d, if_pos h21]
      dsimp only
      rw [lt_d, w1_eq, if_neg z1l]
    exact ⟨2, 0, 1, 0, S, _, hc, hm, thr_w, Or.inr (Or.inl ⟨rfl, rfl⟩), (fun z => by cases z), h.x0⟩
  · obtain ⟨S1, M1, Tb, e1, e2, -, hR, h0, -, -, h46, h47, h48, -, -⟩ := plan_n (h.x0 (x := 0)) hD.x0
    have hu := hD.1
    have hn21 : ¬ M.1 21 = 0 := by rw [hD.2.2.1]; exact z10
    have hoid : oid (S.1 44) = some u := by rw [hD.2.1, oid_nI (by omega)]
    by_cases h1 : x1 = 0
    · subst h1
      have hc : d10_conflictRow G nt nv 0 S = some (0, S1.1 47, S1) := by
        unfold d10_conflictRow
        rw [lt_d, hoid, oc_s, gd_t hu, jn_d, if_pos z00, e1, cb_s, if_pos z00]
      have hm : m_conflictRow 0 M = some (M1.1 26, M1) := by
        unfold m_conflictRow m_in
        rw [jn_d, if_neg hn21, if_neg (show ¬ (0 : Int32) < 0 by decide), if_neg (show ¬ (1 : Int32) < 0 by decide), cb_s, if_neg z10]
        dsimp only
        rw [lt_d, w1_eq, if_pos z0l, e2, cb_s, if_pos z00]
      exact ⟨0, _, 0, _, S1, M1, hc, hm, by rw [thr_n, h0, w1_eq], Or.inl ⟨rfl, rfl⟩, fun _ => h47, hR⟩
    · by_cases h2 : x1 = 1
      · subst h2
        have hc : d10_conflictRow G nt nv 1 S = some (0, S1.1 48, S1) := by
          unfold d10_conflictRow
          rw [lt_d, hoid, oc_s, gd_t hu, jn_d, if_neg h1, if_pos rfl, e1, cb_s, if_neg h1]
        have hm : m_conflictRow 1 M = some (M1.1 27, M1) := by
          unfold m_conflictRow m_in
          rw [jn_d, if_neg hn21, if_neg (show ¬ (1 : Int32) < 0 by decide), if_neg (show ¬ (1 : Int32) < 1 by decide), cb_s, if_neg z10]
          dsimp only
          rw [lt_d, w1_eq, if_pos z0l, e2, cb_s, if_neg h1]
        exact ⟨0, _, 0, _, S1, M1, hc, hm, by rw [thr_n, h0, w1_eq], Or.inl ⟨rfl, rfl⟩, fun _ => h48, hR⟩
      · have hc : d10_conflictRow G nt nv x1 S = some (1, 0, S) := by
          unfold d10_conflictRow
          rw [lt_d, hoid, oc_s, gd_t hu, jn_d, if_neg h1, if_neg h2]
        have hin : m_in x1 0 1 = some 0 := by
          unfold m_in
          by_cases hn : x1 < 0
          · rw [if_pos hn]
          · obtain ⟨k, hk, rfl⟩ := nI_of hn
            have hk2 : 1 < k := by
              rcases Nat.lt_or_ge 1 k with z | z
              · exact z
              · have : k = 0 ∨ k = 1 := by omega
                rcases this with rfl | rfl
                · exact absurd rfl h1
                · exact absurd rfl h2
            rw [if_neg hn, if_pos (show (1 : Int32) < nI k from nI_lt (a := 1) hk2 hk)]
        have hm : m_conflictRow x1 M = some (0, w1 M 0 2) := by
          unfold m_conflictRow
          rw [jn_d, if_neg hn21, hin, cb_s, if_pos z00]
          dsimp only
          rw [lt_d, w1_eq, if_neg z2l]
        exact ⟨1, 0, 2, 0, S, _, hc, hm, thr_w, Or.inr (Or.inr ⟨rfl, rfl⟩), (fun z => by cases z), h.x0⟩
