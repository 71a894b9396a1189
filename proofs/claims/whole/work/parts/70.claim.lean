/-! ===== the class's passDown is the reference's loop over its stack ===== -/
theorem gLp_s {k : Nat} {M : St} : gLp (k + 1) M = gF (gLp k) M := rfl
theorem gF_pop {g : St → Option St} {M : St} {rest : List Nat} {v : Nat} (h : Stk M (rest ++ [v])) (h25 : M.1 25 = 0) (hl : rest.length < 10) : gF g M = cb (m_looks (nI v) (w1 M 30 (nI rest.length))) fun (S29 : St) => if (S29.1 25) = 0 then (cb (m_goesBelow (nI v) S29) fun (S32 : St) => g S32) else (g S29) := by
  have h30 : M.1 30 = nI (rest.length + 1) := by
    have := h.1
    rwa [List.length_append, List.length_singleton] at this
  have h31 : M.2 31 rest.length = nI v := by
    have := h.2 rest.length (by rw [List.length_append, List.length_singleton]; omega)
    rwa [Nat.zero_add, gl_append_at] at this
  unfold gF
  rw [h30, if_neg (nI_nle (by omega) (by omega)), if_pos h25, nI_pred, lt_d, w1_eq, rd_n hl (by decide), w1_2, h31]
theorem gF_end {g : St → Option St} {M : St} (h : M.1 30 ≤ 0 ∨ ¬ M.1 25 = 0) : gF g M = some M := by
  unfold gF
  by_cases h0 : M.1 30 ≤ 0
  · rw [if_pos h0]
  · rw [if_neg h0, if_neg (h.resolve_left h0)]
theorem Stk_pop {M : St} {rest : List Nat} {v : Nat} (h : Stk M (rest ++ [v])) : Stk (w1 M 30 (nI rest.length)) rest := ⟨w1_eq, fun j hj => by
  have := h.2 j (by rw [List.length_append, List.length_singleton]; omega)
  rwa [gl_append_l hj] at this⟩
theorem WG.no5 {G : Gt} {nt nv v : Nat} (h : WG G nt nv) (hv : v < nv) (hk : G v 6 ≠ 2) : G v 5 = -1 := by
  rcases h.2 v hv with q | q | q | q
  · exact q.2.2
  · exact absurd q.1 hk
  · exact q.2.2
  · exact q.2.2.1
theorem WG.no4 {G : Gt} {nt nv v : Nat} (h : WG G nt nv) (hv : v < nv) (hk : G v 6 = 6) : G v 4 = -1 := by
  rcases h.2 v hv with q | q | q | q
  · exact absurd (q.1.symm.trans hk) (by decide)
  · exact absurd (q.1.symm.trans hk) (by decide)
  · exact absurd (q.1.symm.trans hk) (by decide)
  · exact q.2.1
theorem down_n {G : Gt} {nt nv : Nat} {Tb : Nat → List Nat} {S0 M0 : St} (hC : PC G nt nv Tb S0 M0) : ∀ b v, v < b → v < nv → ∀ (P : Nat → Prop) (S M : St) (rest : List Nat) (n d : Nat), Rel G nt nv Tb S0 M0 P S M → P v → Stk M (rest ++ [v]) → v + rest.length ≤ 9 → d + v ≤ 9 → v + 1 < n → M.1 25 = 0 → ∃ S1 M1 c, c ≤ cn v ∧ d10_passDown G nt nv n (some v) (nI d) S = some S1 ∧ Rel G nt nv Tb S0 M0 P S1 M1 ∧ ((M1.1 25 = 0 ∧ Stk M1 rest ∧ ∀ k, gLp (k + c) M = gLp k M1) ∨ (¬ M1.1 25 = 0 ∧ ∀ k, gLp (k + c + 1) M = some M1)) := by
  intro b
  induction b with
  | zero => intro v h; omega
  | succ b ih =>
    intro v hb hv P S M rest n d hR hPv hst hvr hdv hn h25
    have hO := hC.ok
    have hG := hO.1
    have hbb := hC.1.b
    obtain ⟨n, rfl⟩ : ∃ m, n = m + 1 := ⟨n - 1, by omega⟩
    have h46 : S.1 46 = 0 := hR.2.2.2.1.1.trans h25
    have hR1 : Rel G nt nv Tb S0 M0 P S (w1 M 30 (nI rest.length)) := hR.upd hbb.1 (fun _ _ => ⟨rfl, rfl⟩) (fun k hk => w1_ne hk) (fun _ _ _ _ _ => rfl) (fun w hw => hR.2.2.2.2.2 w hw)
    obtain ⟨-, l, hSl, hMl, hok⟩ := hR1.2.2.2.2.2 v hPv
    have h25' : (w1 M 30 (nI rest.length)).1 25 = 0 := (w1_ne (by decide)).trans h25
    obtain ⟨o, hd, ho⟩ := seek_eq (nt := nt) (nv := nv) hSl hMl h25' h46 (hC.pw hR1) (hC.km hR1 hv) (fun h2 => by
      have := (hG.R' hv h2).2
      have hK := hC.km hR1 (show vr G v < nv by omega)
      exact ⟨hK.1, hK.2.1⟩) (hO.2.1 v hv) hG hv (hC.1.2.1.2.2.2.2.1 v hv).2.1 hok.2 hok.1.2.1
    rw [pd_s, gd_t hv, if_neg (show ¬ (10 : Int32) ≤ nI d from nI_ge (b := 10) (by omega) (by decide)), told0 h46, cb_s, if_pos z00]
    have hgf : ∀ k, gLp (k + 1) M = cb (m_looks (nI v) (w1 M 30 (nI rest.length))) fun (S29 : St) => if (S29.1 25) = 0 then (cb (m_goesBelow (nI v) S29) fun (S32 : St) => gLp k S32) else (gLp k S29) := fun k => by rw [gLp_s, gF_pop hst h25 (by omega)]
    cases o with
    | some q =>
      obtain ⟨c, x, y⟩ := q
      obtain ⟨hcp, e1, e2⟩ := hd
      have hc0 : ¬ c = 0 := fun z => hcp (by rw [z]; decide)
      have hz : ¬ (apM (w1 M 30 (nI rest.length)) c x y).1 25 = 0 := by rw [apM_25]; exact hc0
      rw [e1, cb_s, told1 (by rw [apC_46]; exact hc0), cb_s, if_neg z10]
      refine ⟨_, apM (w1 M 30 (nI rest.length)) c x y, 1, (cn_up v).2, rfl, hR1.tell hbb.1 hbb.2 hcp, Or.inr ⟨hz, fun k => ?_⟩⟩
      rw [hgf, e2, cb_s, if_neg hz, gLp_s, gF_end (Or.inr hz)]
    | none =>
      obtain ⟨e1, e2⟩ := hd
      obtain ⟨hun, h12⟩ := ho rfl
      obtain ⟨S2, M2, e3, e4, hR2, hst2, h252⟩ := pass_n hC hR1 hv hSl hMl hok hun h12 (Stk_pop hst) hvr
      have hz2 : M2.1 25 = 0 := h252.trans h25'
      have hgo : ∀ k, gLp (k + 1) M = gLp k M2 := fun k => by rw [hgf, e2, cb_s, if_pos h25', e4, cb_s]
      rw [e1, cb_s, told0 h46, cb_s, if_pos z00, e3, cb_s, lt_d]
      obtain ⟨n, rfl⟩ : ∃ m, n = m + 1 := ⟨n - 1, by omega⟩
      by_cases k2 : G v 6 = 2
      · obtain ⟨l4, hlv⟩ := hG.L' hv (ne6_2 k2)
        obtain ⟨r5, hrv⟩ := hG.R' hv k2
        have hne := kids_ne hO hv k2
        have hk : kids G v = [vl G v, vr G v] := by
          unfold kids
          rw [if_neg (ne6_2 k2), if_pos k2]
        rw [hk] at hR2 hst2
        have hst2' : Stk M2 ((rest ++ [vl G v]) ++ [vr G v]) := by
          rw [List.append_assoc]
          exact hst2
        have hlen : (rest ++ [vl G v]).length = rest.length + 1 := by rw [List.length_append, List.length_singleton]
        obtain ⟨S3, M3, c3, hc3, e5, hR3, hx3⟩ := ih (vr G v) (by omega) (by omega) _ S2 M2 (rest ++ [vl G v]) (n + 1) (d + 1) hR2 (Or.inr (by simp)) hst2' (by omega) (by omega) (by omega) hz2
        rw [r5, oid_nI (by omega), nI_1, e5, cb_s, lt_d, l4, oid_nI (by omega)]
        rcases hx3 with ⟨hz3, hst3, hg3⟩ | ⟨hz3, hg3⟩
        · obtain ⟨S4, M4, c4, hc4, e6, hR4, hx4⟩ := ih (vl G v) (by omega) (by omega) _ S3 M3 rest (n + 1) (d + 1) hR3 (Or.inr (by simp)) hst3 (by omega) (by omega) (by omega) hz3
          rw [e6, cb_s]
          have hcn := cn_2 hlv hrv hne
          refine ⟨S4, M4, c4 + (c3 + 1), by omega, rfl, hR4.mono (fun w hw => Or.inl hw), ?_⟩
          rcases hx4 with ⟨hz4, hst4, hg4⟩ | ⟨hz4, hg4⟩
          · refine Or.inl ⟨hz4, hst4, fun k => ?_⟩
            rw [show k + (c4 + (c3 + 1)) = (k + c4) + c3 + 1 by omega, hgo, hg3, hg4]
          · refine Or.inr ⟨hz4, fun k => ?_⟩
            rw [show k + (c4 + (c3 + 1)) + 1 = (k + c4 + 1) + c3 + 1 by omega, hgo, hg3, hg4]
        · have h46' : ¬ S3.1 46 = 0 := by rw [hR3.2.2.2.1.1]; exact hz3
          have e6 : d10_passDown G nt nv (n + 1) (some (vl G v)) (nI (d + 1)) S3 = some S3 := by
            rw [pd_s, gd_t (show vl G v < nv by omega), if_neg (show ¬ (10 : Int32) ≤ nI (d + 1) from nI_ge (b := 10) (by omega) (by decide)), told1 h46', cb_s, if_neg z10]
          rw [e6, cb_s]
          have hcn := cn_1 hrv
          refine ⟨S3, M3, c3 + 1, by omega, rfl, hR3.mono (fun w hw => Or.inl hw), Or.inr ⟨hz3, fun k => ?_⟩⟩
          rw [show k + (c3 + 1) + 1 = (k + c3 + 1) + 1 by omega, hgo, hg3]
      · rw [hG.no5 hv k2, oid_m1, pd_o, cb_s, lt_d]
        by_cases k6 : G v 6 = 6
        · have hk : kids G v = [] := by
            unfold kids
            rw [if_pos k6]
          rw [hk] at hR2 hst2
          rw [List.append_nil] at hst2
          rw [hG.no4 hv k6, oid_m1, pd_o, cb_s]
          exact ⟨S2, M2, 1, (cn_up v).2, rfl, hR2.mono (fun w hw => Or.inl hw), Or.inl ⟨hz2, hst2, hgo⟩⟩
        · obtain ⟨l4, hlv⟩ := hG.L' hv k6
          have hk : kids G v = [vl G v] := by
            unfold kids
            rw [if_neg k6, if_neg k2]
          rw [hk] at hR2 hst2
          obtain ⟨S4, M4, c4, hc4, e6, hR4, hx4⟩ := ih (vl G v) (by omega) (by omega) _ S2 M2 rest (n + 1) (d + 1) hR2 (Or.inr (by simp)) hst2 (by omega) (by omega) (by omega) hz2
          rw [l4, oid_nI (by omega), nI_1, e6, cb_s]
          have hcn := cn_1 hlv
          refine ⟨S4, M4, c4 + 1, by omega, rfl, hR4.mono (fun w hw => Or.inl hw), ?_⟩
          rcases hx4 with ⟨hz4, hst4, hg4⟩ | ⟨hz4, hg4⟩
          · refine Or.inl ⟨hz4, hst4, fun k => ?_⟩
            rw [show k + (c4 + 1) = (k + c4) + 1 by omega, hgo, hg4]
          · refine Or.inr ⟨hz4, fun k => ?_⟩
            rw [show k + (c4 + 1) + 1 = (k + c4 + 1) + 1 by omega, hgo, hg4]
