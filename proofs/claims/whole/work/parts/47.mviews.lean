/-! ===== the reference lays all views ===== -/
def Tm (M : St) (t : Nat) (l : List Nat) : Prop := M.2 5 t = nI l.length ∧ Sg (M.2 6) (12 * t) l
def OKG (G : Gt) (nt nv : Nat) : Prop := WG G nt nv ∧ (∀ v, v < nv → GA G v) ∧ ∀ v, v < nv → sub (G v 2) (G v 1)
def FrL (M M' : St) : Prop := M'.1 = M.1 ∧ ∀ k, k ≠ 17 → k ≠ 18 → M'.2 k = M.2 k
theorem FrL.rf {M : St} : FrL M M := ⟨rfl, fun _ _ _ => rfl⟩
theorem FrL.tr {M M1 M2 : St} (h1 : FrL M M1) (h2 : FrL M1 M2) : FrL M M2 := ⟨h2.1.trans h1.1, fun k h3 h4 => (h2.2 k h3 h4).trans (h1.2 k h3 h4)⟩
theorem FrV.L {v : Nat} {M M' : St} (h : FrV 18 17 v M M') : FrL M M' := ⟨h.1, fun k h3 h4 => h.2.1 k h4 h3⟩
theorem clrV {M : St} {a c v : Nat} (hne : a ≠ c) : FrV a c v M (w2 M c v 0) ∧ Vm (w2 M c v 0) a c v [] := ⟨⟨rfl, fun k _ h2 => w2_ne h2, fun j hj => w2_nj hj, fun j _ => by rw [w2_ne hne]⟩, ⟨w2_at, Sg_nil, okL_nil, by decide⟩⟩
theorem n12 {v : Nat} : (12 : Int32) * nI v = nI (12 * v) := pk_mul 12 v
theorem FV_n {G : Gt} {Tb : Nat → List Nat} {nt nv v : Nat} (hO : OKG G nt nv) (hT : ∀ t, t < nt → FT G t (Tb t)) (hv : v < nv) : FV G v (VV G Tb v) := FV_all hO.1 hO.2.1 hO.2.2 hT (v + 1) v (Nat.lt_succ_self v) hv
theorem src_F {G : Gt} {Tb : Nat → List Nat} {nt nv v : Nat} (hO : OKG G nt nv) (hT : ∀ t, t < nt → FT G t (Tb t)) (hv : v < nv) : (src G Tb (VV G Tb) v).length ≤ 12 ∧ okL (src G Tb (VV G Tb) v) ∧ ((G v 6 = 6 ∨ G v 6 = 4) → ∀ r, r ∈ src G Tb (VV G Tb) v → pt (G v 1) r = r) ∧ (G v 6 ≠ 6 → ∀ r, r ∈ src G Tb (VV G Tb) v → pt (G (vl G v) 1) r = r) := by
  unfold src
  by_cases h6 : G v 6 = 6
  · rw [if_pos h6]
    obtain ⟨a1, -, -⟩ := (hO.2.1 v hv).1 h6
    have hF := hT _ (hO.1.T' hv h6).2
    exact ⟨hF.1, hF.ok, fun _ r hr => by rw [a1]; exact hF.2.2.1 r hr, fun h => absurd h6 h⟩
  · rw [if_neg h6]
    have hl := (hO.1.L' hv h6).2
    have hF := FV_n hO hT (show vl G v < nv by omega)
    refine ⟨hF.1, hF.ok, fun h r hr => ?_, fun _ => hF.2.2.1⟩
    obtain ⟨a1, -⟩ := (hO.2.1 v hv).2.1 (h.resolve_left h6)
    rw [a1]
    exact hF.2.2.1 r hr
theorem join_W {G : Gt} {Tb : Nat → List Nat} {nt nv v : Nat} (hO : OKG G nt nv) (hT : ∀ t, t < nt → FT G t (Tb t)) (hv : v < nv) (k6 : G v 6 = 2) : (VV G Tb (vr G v)).Nodup ∧ unl (G v 10) (VV G Tb (vr G v)) ∧ (VV G Tb (vr G v)).length ≤ 12 := by
  have hr := (hO.1.R' hv k6).2
  have hF := FV_n hO hT (show vr G v < nv by omega)
  obtain ⟨-, -, -, a10, -, akr⟩ := (hO.2.1 v hv).2.2.2 k6
  refine ⟨Srt_nodup hF.2.1, unl_sub hF.2.2.2 fun j hj hb => ?_, hF.1⟩
  rw [a10, bt_and (by omega), akr j hj hb, hO.2.2 _ (show vr G v < nv by omega) j hj hb]
  rfl
theorem laysViews_n {M : St} {G : Gt} {Tb : Nat → List Nat} {nt nv : Nat} (hP : PW M) (hO : OKG G nt nv) (hK : ∀ v, v < nv → KM G M v) (h7 : M.1 7 = nI nv) (hT : ∀ t, t < nt → FT G t (Tb t)) (hTm : ∀ t, t < nt → Tm M t (Tb t)) : ∃ M', m_laysViews M = some M' ∧ FrL M M' ∧ ∀ v, v < nv → Vm M' 18 17 v (VV G Tb v) := by
  have hG := hO.1
  have hA := hO.2.1
  have h10 := hG.1.2
  have h3 := hG.1.1
  unfold m_laysViews
  refine lq2 (Q := fun x => ∃ M', x = some M' ∧ FrL M M' ∧ ∀ v, v < nv → Vm M' 18 17 v (VV G Tb v)) (fun d (a : Int32) (T : St) => ∃ k, k + d = nv ∧ a = nI k ∧ FrL M T ∧ ∀ u, u < k → Vm T 18 17 u (VV G Tb u)) ?_ _ nv _ _ (FU_lt (by omega)) ⟨0, by omega, rfl, FrL.rf, fun u hu => by omega⟩
  rintro d a T g ⟨k, hk, rfl, hF1, hV⟩ ih
  rw [show T.1 7 = nI nv by rw [hF1.1, h7]]
  by_cases h0 : d = 0
  · rw [if_pos (nI_le (by omega) (by omega))]
    exact ⟨T, rfl, hF1, fun v hv => hV v (by omega)⟩
  · have hkv : k < nv := by omega
    have e9 : (w2 T 17 k 0).2 9 k = M.2 9 k := by rw [w2_ne (by decide), hF1.2 9 (by decide) (by decide)]
    rw [if_neg (nI_ge hkv (by omega)), rd_n (by omega) (by decide), lt_d, rd_n (by omega) (by decide), e9]
    obtain ⟨hl12, hok, hval, hvall⟩ := src_F hO hT hkv
    have hVeq := VV_eq (Tb := Tb) hG hkv
    obtain ⟨hc1, hc2⟩ := clrV (M := T) (a := 18) (c := 17) (v := k) (by decide)
    have hKk := hK k hkv
    generalize hL : src G Tb (VV G Tb) k = L at *
    refine lq2 (Q := fun x => ∃ M', x = some M' ∧ FrL M M' ∧ ∀ v, v < nv → Vm M' 18 17 v (VV G Tb v)) (fun d' (b : Int32) (U : St) => ∃ i, i + d' = L.length ∧ b = nI i ∧ FrL M U ∧ (∀ u, u < k → Vm U 18 17 u (VV G Tb u)) ∧ Vm U 18 17 k ((L.take i).foldl (stp G (VV G Tb) k) [])) ?_ _ L.length _ _ (FU_lt (by omega)) ⟨0, by omega, rfl, hF1.tr hc1.L, fun u hu => Vm_fr (hV u hu) hc1 (by omega), hc2⟩
    rintro d' b U g2 ⟨i, hi, rfl, hFU, hVU, hVk⟩ ih2
    have hKU : KM G U k := KM_fr hKk (fun q h1 h2 => hFU.2 q (by omega) (by omega))
    have hexit : d' = 0 → ∃ M', g (nI k + 1) U = some M' ∧ FrL M M' ∧ ∀ v, v < nv → Vm M' 18 17 v (VV G Tb v) := by
      intro hd
      have hil : i = L.length := by omega
      rw [hil, List.take_length] at hVk
      rw [nI_1]
      refine ih (d - 1) _ _ (by omega) ⟨k + 1, by omega, rfl, hFU, fun u hu => ?_⟩
      by_cases huk : u = k
      · rw [huk, hVeq]; exact hVk
      · exact hVU u (by omega)
    have hstep : d' ≠ 0 → ∃ M', cb (m_laysRow (nI k) (nI (gl L i)) U) (fun S29 => g2 (nI i + 1) S29) = some M' ∧ FrL M M' ∧ ∀ v, v < nv → Vm M' 18 17 v (VV G Tb v) := by
      intro hd
      have hil : i < L.length := by omega
      have hgm := gl_mem hil
      have hle := fold_le (f := stp G (VV G Tb) k) stp_le (L.take i) []
      rw [List.length_take, List.length_nil] at hle
      obtain ⟨U', e1, s1, f1⟩ := laysRow_n (V := VV G Tb) (nt := nt) (nv := nv) (r := gl L i) (fun c hc => by rw [hFU.2 1 (by decide) (by decide)]; exact hP c hc) hG (hA k hkv) hKU (fun h2 => by
        have q1 := (hG.L' hkv (ne6_2 h2)).2
        have q2 := (hG.R' hkv h2).2
        rw [hFU.2 14 (by decide) (by decide)]
        exact ⟨(hK _ (by omega)).1, (hK _ (by omega)).1⟩) hkv hVk (fun h2 => by
        have q2 := (hG.R' hkv h2).2
        obtain ⟨j1, j2, j3⟩ := join_W hO hT hkv h2
        exact ⟨hVU _ q2, j1, j2, j3, fun q _ => (join_dg (hvall (ne6_2 h2) _ hgm)).1⟩) (hok _ hgm) (fun h => hval h _ hgm) (by omega)
      rw [e1, cb_s, nI_1]
      refine ih2 (d' - 1) _ _ (by omega) ⟨i + 1, by omega, rfl, hFU.tr f1.L, fun u hu => Vm_fr (hVU u hu) f1 (by omega), ?_⟩
      rw [fold_take hil]
      exact s1
    rw [rd_n (by omega) (by decide), jn_d]
    by_cases h6 : G k 6 = 6
    · obtain ⟨k8, k9⟩ : U.2 8 k = 0 ∧ M.2 9 k = nI (vt G k) := by
        rcases hKk.2.2.2 with q | q | q | q
        · exact ⟨by rw [hFU.2 8 (by decide) (by decide)]; exact q.2.1, q.2.2.trans (hG.T' hkv h6).1⟩
        · exact absurd (q.1.symm.trans h6) (by decide)
        · exact absurd (q.1.symm.trans h6) (by decide)
        · exact absurd (q.1.symm.trans h6) (by decide)
      have ht := (hG.T' hkv h6).2
      have hL2 : L = Tb (vt G k) := by rw [← hL]; exact if_pos h6
      obtain ⟨t1, t2⟩ := hTm _ ht
      rw [if_pos k8, k9, rd_n (by omega) (by decide), hFU.2 5 (by decide) (by decide), t1, ← hL2]
      dsimp only
      by_cases hd : d' = 0
      · rw [if_pos (nI_le (by omega) (by omega))]
        exact hexit hd
      · have hil : i < L.length := by omega
        have e6 : U.2 6 (12 * vt G k + i) = nI (gl L i) := by
          rw [hFU.2 6 (by decide) (by decide), hL2]
          exact t2 i (by rw [← hL2]; exact hil)
        rw [if_neg (nI_ge hil (by omega)), rd_n (by omega) (by decide), if_pos k8, n12, nI_add, rd_n (by omega) (by decide), e6]
        exact hstep hd
    · obtain ⟨k8, k9⟩ : ¬ U.2 8 k = 0 ∧ M.2 9 k = nI (vl G k) := by
        have hl := (hG.L' hkv h6).1
        have e8 : U.2 8 k = M.2 8 k := by rw [hFU.2 8 (by decide) (by decide)]
        rw [e8]
        rcases hKk.2.2.2 with q | q | q | q
        · exact absurd q.1 h6
        · exact ⟨by rw [q.2.1]; decide, q.2.2.1.trans hl⟩
        · exact ⟨by rw [q.2.1]; decide, q.2.2.1.trans hl⟩
        · exact ⟨by rw [q.2.1]; decide, q.2.2.1.trans hl⟩
      have hl := (hG.L' hkv h6).2
      have hL2 : L = VV G Tb (vl G k) := by rw [← hL]; exact if_neg h6
      obtain ⟨t1, t2, -, -⟩ := hVU _ hl
      rw [← hL2] at t1 t2
      rw [if_neg k8, k9, rd_n (by omega) (by decide), t1]
      dsimp only
      by_cases hd : d' = 0
      · rw [if_pos (nI_le (by omega) (by omega))]
        exact hexit hd
      · have hil : i < L.length := by omega
        rw [if_neg (nI_ge hil (by omega)), rd_n (by omega) (by decide), if_neg k8, n40, nI_add, rd_n (by omega) (by decide), t2 i hil]
        exact hstep hd
