/-! ===== what is wanted below stays fit ===== -/
theorem VV_m1 {G : Gt} {Tb : Nat → List Nat} {nt nv v x : Nat} (hG : WG G nt nv) (hv : v < nv) (k6 : G v 6 = 1) (hx : x ∈ VV G Tb v) : ∃ r, r ∈ VV G Tb (vl G v) ∧ x = pt (G v 1) r := by
  have e : src G Tb (VV G Tb) v = VV G Tb (vl G v) := if_neg (ne6_1 k6)
  rw [VV_eq hG hv, e, stp_1 k6] at hx
  exact fold_memP hx
theorem VV_m4 {G : Gt} {Tb : Nat → List Nat} {nt nv v x : Nat} (hG : WG G nt nv) (hv : v < nv) (k6 : G v 6 = 4) (hx : x ∈ VV G Tb v) : x ∈ VV G Tb (vl G v) := by
  have e : src G Tb (VV G Tb) v = VV G Tb (vl G v) := if_neg (ne6_4 k6)
  rw [VV_eq hG hv, e, stp_4 k6] at hx
  rcases add_mem (f := stS G v) (fun acc r => by
    unfold stS
    split
    · exact Or.inr rfl
    · exact Or.inl rfl) hx with q | q
  · cases q
  · exact q
theorem VV_m2 {G : Gt} {Tb : Nat → List Nat} {nt nv v x : Nat} (hG : WG G nt nv) (hv : v < nv) (k6 : G v 6 = 2) (hx : x ∈ VV G Tb v) : ∃ r, r ∈ VV G Tb (vl G v) ∧ ∃ q, fnd (G v 10) (pt (G v 10) r) (VV G Tb (vr G v)) = some q ∧ x = r + pt (G (vr G v) 1 &&& (G (vl G v) 1 ^^^ (-1))) q := by
  have e : src G Tb (VV G Tb) v = VV G Tb (vl G v) := if_neg (ne6_2 k6)
  rw [VV_eq hG hv, e, stp_2 k6] at hx
  rcases fold_mem (P := fun r x => ∃ q, fnd (G v 10) (pt (G v 10) r) (VV G Tb (vr G v)) = some q ∧ x = r + pt (G (vr G v) 1 &&& (G (vl G v) 1 ^^^ (-1))) q) (fun acc r x h => by
    unfold stJ at h
    cases hf : fnd (G v 10) (pt (G v 10) r) (VV G Tb (vr G v)) with
    | none => rw [hf] at h; exact Or.inl h
    | some q =>
      rw [hf] at h
      rcases insR_mem.mp h with z | z
      · exact Or.inr ⟨q, rfl, z⟩
      · exact Or.inl z) hx with q | q
  · cases q
  · exact q
theorem drop_f {G : Gt} {v : Nat} (hA : GA G v) (k6 : G v 6 = 1) : ∃ c w, c < 6 ∧ w < 10 ∧ G v 7 = nI c ∧ G v 8 = nI w ∧ (G v 7).toNatClampNeg = c ∧ (G v 8).toNatClampNeg = w ∧ bt (G (vl G v) 1) c = true ∧ ∀ j, j < 6 → bt (G v 1) j = (bt (G (vl G v) 1) j && !decide (j = c)) := by
  obtain ⟨a1, -, -, ⟨c, hc, h7, hb, -⟩, w, hw, h8⟩ := hA.2.2.1 k6
  refine ⟨c, w, hc, hw, h7, h8, by rw [h7, nI_clamp (by omega)], by rw [h8, nI_clamp (by omega)], hb, fun j hj => ?_⟩
  rw [a1, bt_and (by omega), bt_not (by omega), h7, bt_one (by omega) (by omega)]
theorem hvn_lt {G : Gt} {V : List Nat} {v r : Nat} (hA : GA G v) (k6 : G v 6 = 1) : hvn G V v r < 10 := by
  obtain ⟨c, w, hc, hw, h7, h8, e7, e8, -⟩ := drop_f hA k6
  unfold hvn
  split
  · rw [e8]; exact hw
  · exact dg_lt _ _
theorem hid_val {G : Gt} {V : List Nat} {v r : Nat} (hA : GA G v) (k6 : G v 6 = 1) (hr : pt (G v 1) r = r) : pt (G (vl G v) 1) (hid G V v r) = hid G V v r := by
  obtain ⟨c, w, hc, hw, h7, h8, e7, e8, hb, hs⟩ := drop_f hA k6
  have hr2 : pt (G (vl G v) 1) r = r := by
    refine dg_ext (pt_lt _ _) (val_lt hr) fun j hj => ?_
    rw [dg_pt hj]
    cases hj2 : bt (G (vl G v) 1) j
    · rw [if_neg (by simp), val_0 hr hj (by rw [hs j hj, hj2]; rfl)]
    · rw [if_pos rfl]
  unfold hid
  rw [e7]
  exact sd_val hr2 hb hc (hvn_lt hA k6)
theorem paD_ok {G : Gt} {Tb : Nat → List Nat} {nt nv v : Nat} {l : List Nat} (hO : OKG G nt nv) (hT : ∀ t, t < nt → FT G t (Tb t)) (hv : v < nv) (k6 : G v 6 = 1) (h : okW G (VV G Tb v) v l) : okW G (VV G Tb (vl G v)) (vl G v) (paD G (VV G Tb (vl G v)) v l) := by
  have hA := hO.2.1 v hv
  have hl := (hO.1.L' hv (ne6_1 k6)).2
  have hF := FV_n hO hT (show vl G v < nv by omega)
  have hsv := hO.2.2 v hv
  obtain ⟨c, w, hc, hw, h7, h8, e7, e8, hb, hs⟩ := drop_f hA k6
  obtain ⟨-, a2, -, -⟩ := hA.2.2.1 k6
  refine ⟨⟨hF.1, fold_srtP, Nat.le_trans (nw_map (V := VV G Tb v) (l := l) (f := hid G (VV G Tb (vl G v)) v) (Srt_nodup fold_srtP) fun x hx hxV => ?_) h.1.2.2⟩, fun x hx => ?_⟩
  · obtain ⟨r, h1, h2⟩ := fold_memP hx
    refine ⟨r, h1, fun hrV => hxV ?_, h2⟩
    obtain ⟨r', h3, h4⟩ := VV_m1 hO.1 hv k6 hrV
    have e : hid G (VV G Tb (vl G v)) v r = r' := by
      have hkr : pt (G v 2) r = pt (G v 2) r' := by rw [h4, pt_pt hsv]
      have hfn : fnd (G v 2) (pt (G v 2) r) (VV G Tb (vl G v)) = some r' := by
        cases hf : fnd (G v 2) (pt (G v 2) r) (VV G Tb (vl G v)) with
        | none => exact absurd hkr.symm (fnd_none hf h3)
        | some q =>
          obtain ⟨q1, q2⟩ := fnd_mem hf
          have := hF.2.2.2 q q1 r' h3 (by rw [← a2, q2, hkr])
          rw [this]
      have hr6 : r < 1000000 := val_lt (h.2 r h1)
      have hval := hF.2.2.1 r' h3
      unfold hid hvn
      rw [hfn, e7]
      dsimp only
      refine dg_ext (sd_lt hr6 hc (dg_lt _ _)) (val_lt hval) fun j hj => ?_
      rw [sd_dg hr6 hc (dg_lt _ _) hj]
      by_cases hjc : j = c
      · rw [if_pos hjc, hjc]
      · rw [if_neg hjc, h4, dg_pt hj, hs j hj, decide_eq_false hjc]
        cases hj2 : bt (G (vl G v) 1) j
        · rw [val_0 hval hj hj2]; rfl
        · rfl
    rw [h2, e]
    exact h3
  · obtain ⟨r, h1, rfl⟩ := fold_memP hx
    exact hid_val hA k6 (h.2 r h1)
theorem paS_c {G : Gt} {Tb : Nat → List Nat} {nt nv v : Nat} {l : List Nat} (hO : OKG G nt nv) (hT : ∀ t, t < nt → FT G t (Tb t)) (hv : v < nv) (k6 : G v 6 = 4) (h : okW G (VV G Tb v) v l) : okC (VV G Tb (vl G v)) l := by
  have hl := (hO.1.L' hv (ne6_4 k6)).2
  have hF := FV_n hO hT (show vl G v < nv by omega)
  exact ⟨hF.1, h.1.2.1, Nat.le_trans (nw_map (V := VV G Tb v) (l := l) (f := id) (Srt_nodup h.1.2.1) fun x hx hxV => ⟨x, hx, fun z => hxV (VV_m4 hO.1 hv k6 z), rfl⟩) h.1.2.2⟩
theorem paS_ok {G : Gt} {Tb : Nat → List Nat} {nt nv v : Nat} {l : List Nat} (hO : OKG G nt nv) (hT : ∀ t, t < nt → FT G t (Tb t)) (hv : v < nv) (k6 : G v 6 = 4) (h : okW G (VV G Tb v) v l) : okW G (VV G Tb (vl G v)) (vl G v) (paS G (VV G Tb (vl G v)) v l) := by
  have hl := (hO.1.L' hv (ne6_4 k6)).2
  have hF := FV_n hO hT (show vl G v < nv by omega)
  obtain ⟨a1, -⟩ := (hO.2.1 v hv).2.1 k6
  refine ⟨add_okC adS_or (fun r hr => hr) (paS_c hO hT hv k6 h), fun x hx => ?_⟩
  rcases add_mem adS_or hx with z | z
  · rw [← a1]; exact h.2 x z
  · exact hF.2.2.1 x z
theorem wPr_ok {G : Gt} {Tb : Nat → List Nat} {nt nv v : Nat} {l : List Nat} (hO : OKG G nt nv) (hT : ∀ t, t < nt → FT G t (Tb t)) (hv : v < nv) (k6 : G v 6 = 2) (h : okW G (VV G Tb v) v l) : okW G (VV G Tb (vr G v)) (vr G v) (wP (G (vr G v) 1) l) := by
  have hl := (hO.1.L' hv (ne6_2 k6)).2
  have hr := (hO.1.R' hv k6).2
  have hFl := FV_n hO hT (show vl G v < nv by omega)
  have hF := FV_n hO hT (show vr G v < nv by omega)
  obtain ⟨-, -, -, a10, -, -⟩ := (hO.2.1 v hv).2.2.2 k6
  refine ⟨⟨hF.1, fold_srtP, Nat.le_trans (nw_map (V := VV G Tb v) (l := l) (f := pt (G (vr G v) 1)) (Srt_nodup fold_srtP) fun x hx hxV => ?_) h.1.2.2⟩, fun x hx => ?_⟩
  · obtain ⟨r, h1, h2⟩ := fold_memP hx
    refine ⟨r, h1, fun hrV => hxV ?_, h2⟩
    obtain ⟨a, ha, q, hq, hrq⟩ := VV_m2 hO.1 hv k6 hrV
    obtain ⟨q1, q2⟩ := fnd_mem hq
    have hav := hFl.2.2.1 a ha
    have hqv := hF.2.2.1 q q1
    have e : pt (G (vr G v) 1) r = q := by
      refine dg_ext (pt_lt _ _) (val_lt hqv) fun j hj => ?_
      rw [dg_pt hj]
      cases hb : bt (G (vr G v) 1) j
      · rw [if_neg (by simp), val_0 hqv hj hb]
      · rw [if_pos rfl, hrq, (join_dg hav).2 j hj]
        cases hb2 : bt (G (vl G v) 1) j
        · rw [if_neg (by simp), if_pos hb]
        · rw [if_pos rfl]
          exact (pt_eq.mp q2 j hj (by rw [a10, bt_and (by omega), hb, hb2]; rfl)).symm
    rw [h2, e]
    exact q1
  · obtain ⟨r, h1, rfl⟩ := fold_memP hx
    exact pt_id
theorem wPl_ok {G : Gt} {Tb : Nat → List Nat} {nt nv v : Nat} {l : List Nat} (hO : OKG G nt nv) (hT : ∀ t, t < nt → FT G t (Tb t)) (hv : v < nv) (k6 : G v 6 = 2) (h : okW G (VV G Tb v) v l) : okW G (VV G Tb (vl G v)) (vl G v) (wP (G (vl G v) 1) l) := by
  have hl := (hO.1.L' hv (ne6_2 k6)).2
  have hFl := FV_n hO hT (show vl G v < nv by omega)
  refine ⟨⟨hFl.1, fold_srtP, Nat.le_trans (nw_map (V := VV G Tb v) (l := l) (f := pt (G (vl G v) 1)) (Srt_nodup fold_srtP) fun x hx hxV => ?_) h.1.2.2⟩, fun x hx => ?_⟩
  · obtain ⟨r, h1, h2⟩ := fold_memP hx
    refine ⟨r, h1, fun hrV => hxV ?_, h2⟩
    obtain ⟨a, ha, q, hq, hrq⟩ := VV_m2 hO.1 hv k6 hrV
    have hav := hFl.2.2.1 a ha
    rw [h2, hrq, join_pl hav sub_rf, hav]
    exact ha
  · obtain ⟨r, h1, rfl⟩ := fold_memP hx
    exact pt_id
theorem paR_ok {G : Gt} {Tb : Nat → List Nat} {nt nv v : Nat} {l : List Nat} (hO : OKG G nt nv) (hT : ∀ t, t < nt → FT G t (Tb t)) (hv : v < nv) (k6 : G v 6 = 2) (h : okW G (VV G Tb v) v l) : okW G (VV G Tb (vr G v)) (vr G v) (paR G (VV G Tb (vr G v)) v l) := by
  have hr := (hO.1.R' hv k6).2
  have hF := FV_n hO hT (show vr G v < nv by omega)
  have hw := wPr_ok hO hT hv k6 h
  refine ⟨add_okC adF_or (fun r hr => hr) hw.1, fun x hx => ?_⟩
  rcases add_mem adF_or hx with z | z
  · exact hw.2 x z
  · exact hF.2.2.1 x z
theorem paL_ok {G : Gt} {Tb : Nat → List Nat} {nt nv v : Nat} {l W : List Nat} (hO : OKG G nt nv) (hT : ∀ t, t < nt → FT G t (Tb t)) (hv : v < nv) (k6 : G v 6 = 2) (h : okW G (VV G Tb v) v l) : okW G (VV G Tb (vl G v)) (vl G v) (paL G (VV G Tb (vl G v)) W v l) := by
  have hl := (hO.1.L' hv (ne6_2 k6)).2
  have hF := FV_n hO hT (show vl G v < nv by omega)
  have hw := wPl_ok hO hT hv k6 h
  refine ⟨add_okC adL_or (fun r hr => hr) hw.1, fun x hx => ?_⟩
  rcases add_mem adL_or hx with z | z
  · exact hw.2 x z
  · exact hF.2.2.1 x z
/-- rows added before don't hinder: shown rows have unlike keys -/
theorem free_st {k : Int32} {V acc0 : List Nat} {f : List Nat → Nat → List Nat} {i : Nat} (hf : ∀ acc r, f acc r = acc ∨ f acc r = insR r acc) (hV : Srt V) (hu : unl k V) (hi : i < V.length) : free k ((V.take i).foldl f acc0) (gl V i) = free k acc0 (gl V i) := by
  have hsub : ∀ (L acc : List Nat) (x : Nat), x ∈ acc → x ∈ L.foldl f acc := by
    intro L
    induction L with
    | nil => intro acc x h; exact h
    | cons a t ih =>
      intro acc x h
      rw [List.foldl_cons]
      refine ih _ x ?_
      rcases hf acc a with z | z
      · rw [z]; exact h
      · rw [z]; exact insR_mem.mpr (Or.inr h)
  have h1 : free k ((V.take i).foldl f acc0) (gl V i) = true ↔ free k acc0 (gl V i) = true := by
    rw [free_iff, free_iff]
    constructor
    · intro h q hq
      exact h q (hsub _ _ _ hq)
    · intro h q hq
      rcases add_mem hf hq with z | z
      · exact h q z
      · intro he
        obtain ⟨j, hj, hjq⟩ := mem_gl z
        rw [List.length_take] at hj
        have hgj : gl (V.take i) j = gl V j := by
          unfold gl
          rw [List.getD_eq_getElem?_getD, List.getD_eq_getElem?_getD, List.getElem?_take_of_lt (by omega)]
        rw [hgj] at hjq
        have := hu q (hjq ▸ gl_mem (by omega)) (gl V i) (gl_mem hi) he
        have h3 := hV j i (by omega) hi
        omega
  cases ha : free k acc0 (gl V i)
  · cases hb : free k ((V.take i).foldl f acc0) (gl V i)
    · rfl
    · rw [h1.mp hb] at ha; cases ha
  · exact h1.mpr ha
theorem free_wP {k s : Int32} {l : List Nat} {r : Nat} (hk : sub k s) : free k (wP s l) r = free k l r := by
  have h1 : free k (wP s l) r = true ↔ free k l r = true := by
    rw [free_iff, free_iff]
    constructor
    · intro h q hq
      have := h (pt s q) (fold_memI (Or.inr ⟨q, hq, rfl⟩))
      rwa [pt_pt hk] at this
    · intro h q hq
      obtain ⟨p, hp, rfl⟩ := fold_memP hq
      rw [pt_pt hk]
      exact h p hp
  cases ha : free k l r
  · cases hb : free k (wP s l) r
    · rfl
    · rw [h1.mp hb] at ha; cases ha
  · exact h1.mpr ha
