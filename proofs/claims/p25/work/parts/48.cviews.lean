/-! ===== the class shows its views ===== -/
theorem oc_s {β : Type} {u : Nat} {a : Option β} {b : Nat → Option β} : oc (some u) a b = b u := rfl
theorem oc_o {β : Type} {a : Option β} {b : Nat → Option β} : oc none a b = a := rfl
theorem ix_n (x : Int32) {n : Nat} (hn : n < 2 ^ 31) : (x < 0 ∨ nI n ≤ x) ∨ ∃ j, j < n ∧ x = nI j := by
  rcases pk_ix x hn with h | h | h
  · exact Or.inl (Or.inl h)
  · exact Or.inl (Or.inr h)
  · exact Or.inr h
theorem tableAt_o {S : St} {nt : Nat} {x : Int32} (h42 : S.1 42 = nI nt) (h : x < 0 ∨ nI nt ≤ x) : d10_tableAt x S = some none := by
  unfold d10_tableAt
  rw [h42]
  by_cases h0 : x < 0
  · rw [if_pos h0]
  · rw [if_neg h0, if_pos (h.resolve_left h0)]
theorem tableAt_i {S : St} {nt t : Nat} (h42 : S.1 42 = nI nt) (h56 : S.1 56 = nI nt) (h3 : nt ≤ 3) (ht : t < nt) : d10_tableAt (nI t) S = some (some t) := by
  unfold d10_tableAt
  rw [if_neg (nI_pos (by omega)), h42, if_neg (nI_ge ht (by omega)), if_pos (show nI t < (3 : Int32) from nI_lt (b := 3) (by omega) (by decide)), rd_n (by omega) (by decide), lt_d, h56, nI_clamp (by omega), if_pos ht]
theorem viewAt_o {S : St} {nv : Nat} {x : Int32} (h43 : S.1 43 = nI nv) (h : x < 0 ∨ nI nv ≤ x) : d10_viewAt x S = some none := by
  unfold d10_viewAt
  rw [h43]
  by_cases h0 : x < 0
  · rw [if_pos h0]
  · rw [if_neg h0, if_pos (h.resolve_left h0)]
theorem viewAt_i {S : St} {nv v : Nat} (h43 : S.1 43 = nI nv) (h55 : S.1 55 = nI nv) (h10 : nv ≤ 10) (hv : v < nv) : d10_viewAt (nI v) S = some (some v) := by
  unfold d10_viewAt
  rw [if_neg (nI_pos (by omega)), h43, if_neg (nI_ge hv (by omega)), if_pos (show nI v < (10 : Int32) from nI_lt (b := 10) (by omega) (by decide)), rd_n (by omega) (by decide), lt_d, h55, nI_clamp (by omega), if_pos hv]
theorem show_n {S : St} {G : Gt} {Tb : Nat → List Nat} {nt nv n1 n2 v : Nat} (hO : OKG G nt nv) (hT : ∀ t, t < nt → FT G t (Tb t)) (hv : v < nv) (hR : ∀ t, t < nt → Rw S (1 + 7 * t) (Tb t)) (hV : ∀ u, u < v → Rw S (22 + 2 * u) (VV G Tb u)) : ∃ S', vd (G v 6) (d2_show G n1 n2 v S) (d3_show G n1 n2 v S) (d5_show G n1 n2 v S) (d7_show G n1 n2 v S) = some S' ∧ Rw S' (22 + 2 * v) (VV G Tb v) ∧ Fr (22 + 2 * v) S S' := by
  have hG := hO.1
  obtain ⟨hl12, hok, hval, hvall⟩ := src_F hO hT hv
  have hVeq := VV_eq (Tb := Tb) hG hv
  rcases hG.K hv with k6 | k6 | k6 | k6
  · have hl := (hG.L' hv (ne6_1 k6)).2
    have e : src G Tb (VV G Tb) v = VV G Tb (vl G v) := if_neg (ne6_1 k6)
    rw [hVeq, stp_1 k6, e]
    rw [e] at hl12
    have : vd (G v 6) (d2_show G n1 n2 v S) (d3_show G n1 n2 v S) (d5_show G n1 n2 v S) (d7_show G n1 n2 v S) = d2_show G n1 n2 v S := if_pos k6
    rw [this]
    exact show2_n (hV _ hl) hl12 hl
  · have hl := (hG.L' hv (ne6_2 k6)).2
    have hr := (hG.R' hv k6).2
    have e : src G Tb (VV G Tb) v = VV G Tb (vl G v) := if_neg (ne6_2 k6)
    rw [hVeq, stp_2 k6, e]
    rw [e] at hl12
    have hvl := hvall (ne6_2 k6)
    rw [e] at hvl
    have : vd (G v 6) (d2_show G n1 n2 v S) (d3_show G n1 n2 v S) (d5_show G n1 n2 v S) (d7_show G n1 n2 v S) = d3_show G n1 n2 v S := by
      unfold vd
      rw [if_neg (show ¬ G v 6 = 1 by rw [k6]; decide), if_pos k6]
    rw [this]
    exact show3_n (hV _ hl) (hV _ hr) hl12 hl hr (fun r h q _ => (join_dg (hvl r h)).1)
  · have hl := (hG.L' hv (ne6_4 k6)).2
    have e : src G Tb (VV G Tb) v = VV G Tb (vl G v) := if_neg (ne6_4 k6)
    rw [hVeq, stp_4 k6, e]
    rw [e] at hl12
    obtain ⟨-, -, -, ⟨c, hc6, hc7, -⟩, -⟩ := (hO.2.1 v hv).2.1 k6
    have : vd (G v 6) (d2_show G n1 n2 v S) (d3_show G n1 n2 v S) (d5_show G n1 n2 v S) (d7_show G n1 n2 v S) = d5_show G n1 n2 v S := by
      unfold vd
      rw [if_neg (show ¬ G v 6 = 1 by rw [k6]; decide), if_neg (show ¬ G v 6 = 2 by rw [k6]; decide), if_pos k6]
    rw [this]
    exact show5_n (hV _ hl) hl12 hl hc7 hc6
  · have ht := (hG.T' hv k6).2
    have hF := hT _ ht
    have h3 := hG.1.1
    have e : src G Tb (VV G Tb) v = Tb (vt G v) := if_pos k6
    rw [hVeq, stp_6 k6, e, fold_srt hF.2.1]
    have : vd (G v 6) (d2_show G n1 n2 v S) (d3_show G n1 n2 v S) (d5_show G n1 n2 v S) (d7_show G n1 n2 v S) = d7_show G n1 n2 v S := by
      unfold vd
      rw [if_neg (show ¬ G v 6 = 1 by rw [k6]; decide), if_neg (show ¬ G v 6 = 2 by rw [k6]; decide), if_neg (show ¬ G v 6 = 4 by rw [k6]; decide)]
    rw [this]
    unfold d7_show
    obtain ⟨S1, e1, s1, f1⟩ := takeOver_n (i := 22 + 2 * v) (hR _ ht) (by rw [dcap_s]; exact hF.1) (by omega)
    rw [e1, cb_s]
    exact ⟨S1, rfl, s1, f1⟩
def FrS (S S' : St) : Prop := (∀ k, (∀ v, v < 10 → k ≠ 22 + 2 * v) → S'.1 k = S.1 k) ∧ ∀ k, (∀ v, v < 10 → k ≠ 22 + 2 * v) → S'.2 k = S.2 k
theorem FrS.rf {S : St} : FrS S S := ⟨fun _ _ => rfl, fun _ _ => rfl⟩
theorem FrS.tr {S S1 S2 : St} (h1 : FrS S S1) (h2 : FrS S1 S2) : FrS S S2 := ⟨fun k hk => (h2.1 k hk).trans (h1.1 k hk), fun k hk => (h2.2 k hk).trans (h1.2 k hk)⟩
theorem Fr.S {S S' : St} {v : Nat} (h : Fr (22 + 2 * v) S S') (hv : v < 10) : FrS S S' := ⟨fun k hk => h.1 k (hk v hv), fun k hk => h.2 k (hk v hv)⟩
theorem Rw_frS {S S' : St} {j : Nat} {l : List Nat} (h : Rw S j l) (hF : FrS S S') (hne : ∀ v, v < 10 → j ≠ 22 + 2 * v) : Rw S' j l := ⟨(hF.1 j hne).trans h.1, h.2.1, fun k hk => by rw [hF.2 j hne]; exact h.2.2.1 k hk, h.2.2.2⟩
theorem showViews_n {S : St} {G : Gt} {Tb : Nat → List Nat} {nt nv : Nat} (hO : OKG G nt nv) (hT : ∀ t, t < nt → FT G t (Tb t)) (hR : ∀ t, t < nt → Rw S (1 + 7 * t) (Tb t)) (h43 : S.1 43 = nI nv) (h55 : S.1 55 = nI nv) : ∃ S', d10_showViews G nt nv S = some S' ∧ FrS S S' ∧ ∀ v, v < nv → Rw S' (22 + 2 * v) (VV G Tb v) := by
  have h10 := hO.1.1.2
  have h3 := hO.1.1.1
  unfold d10_showViews
  refine lq2 (Q := fun x => ∃ S', x = some S' ∧ FrS S S' ∧ ∀ v, v < nv → Rw S' (22 + 2 * v) (VV G Tb v)) (fun d (a : Int32) (T : St) => ∃ k, k + d = nv ∧ a = nI k ∧ FrS S T ∧ ∀ u, u < k → Rw T (22 + 2 * u) (VV G Tb u)) ?_ _ nv _ _ (FU_lt (by omega)) ⟨0, by omega, rfl, FrS.rf, fun u hu => by omega⟩
  rintro d a T g ⟨k, hk, rfl, hF, hV⟩ ih
  have e43 : T.1 43 = nI nv := (hF.1 43 (fun v hv => by omega)).trans h43
  have e55 : T.1 55 = nI nv := (hF.1 55 (fun v hv => by omega)).trans h55
  rw [e43]
  by_cases h0 : d = 0
  · rw [if_pos (nI_le (by omega) (by omega))]
    exact ⟨T, rfl, hF, fun v hv => hV v (by omega)⟩
  · have hkv : k < nv := by omega
    obtain ⟨T1, e1, s1, f1⟩ := show_n (n1 := nt) (n2 := nv) hO hT hkv (fun t ht => Rw_frS (hR t ht) hF (fun v hv => by omega)) hV
    rw [if_neg (nI_ge hkv (by omega)), viewAt_i e43 e55 h10 hkv, cb_s, oc_s, gd_t hkv, e1, cb_s, nI_1]
    refine ih (d - 1) _ _ (by omega) ⟨k + 1, by omega, rfl, hF.tr (f1.S (by omega)), fun u hu => ?_⟩
    by_cases huk : u = k
    · rw [huk]; exact s1
    · exact Rw_fr (hV u (by omega)) f1 (by omega)
theorem keepView_n {S : St} {G : Gt} {Tb : Nat → List Nat} {nt v : Nat} (hO : OKG G nt (v + 1)) (hT : ∀ t, t < nt → FT G t (Tb t)) (hR : ∀ t, t < nt → Rw S (1 + 7 * t) (Tb t)) (hV : ∀ u, u < v → Rw S (22 + 2 * u) (VV G Tb u)) (h43 : S.1 43 = nI v) (h55 : S.1 55 = nI v) : ∃ S', d10_keepView G nt (v + 1) v S = some (G v 0, S') ∧ Rw S' (22 + 2 * v) (VV G Tb v) ∧ S'.1 43 = nI (v + 1) ∧ S'.1 55 = nI (v + 1) ∧ (∀ k, k ≠ 22 + 2 * v → k ≠ 43 → k ≠ 55 → S'.1 k = S.1 k) ∧ ∀ k, k ≠ 22 + 2 * v → S'.2 k = S.2 k := by
  have h10 := hO.1.1.2
  unfold d10_keepView
  obtain ⟨T, e1, s1, f1⟩ := show_n (n1 := nt) (n2 := v + 1) hO hT (Nat.lt_succ_self v) hR hV
  have e43 : T.1 43 = nI v := (f1.1 43 (by omega)).trans h43
  have e55 : T.1 55 = nI v := (f1.1 55 (by omega)).trans h55
  rw [e1, cb_s, e43, if_neg (nI_pos (by omega)), if_neg (show ¬ (10 : Int32) ≤ nI v from nI_ge (b := 10) (by omega) (by decide)), rd_n (by omega) (by decide), gd_t ⟨by rw [e55, nI_clamp (by omega)], rfl⟩, lt_d, lt_d]
  refine ⟨_, rfl, ⟨?_, s1.2.1, s1.2.2.1, s1.2.2.2⟩, ?_, ?_, fun k h1 h2 h3 => ?_, fun k h1 => ?_⟩
  · rw [w1_ne (by omega), w1_ne (by omega)]
    exact s1.1
  · rw [w1_eq, w1_ne (by decide), e43, nI_1]
  · rw [w1_ne (by decide), w1_eq]
  · rw [w1_ne h2, w1_ne h3, f1.1 k h1]
  · exact f1.2 k h1
