/-! ===== the class passes on what is wanted ===== -/
theorem pre_okC {V acc0 : List Nat} {f : List Nat → Nat → List Nat} (hf : ∀ acc r, f acc r = acc ∨ f acc r = insR r acc) (h : okC V acc0) (k : Nat) : okC V ((V.take k).foldl f acc0) := add_okC hf (fun _ hr => List.mem_of_mem_take hr) h
theorem wantParts_n {S : St} {G : Gt} {nt nv v i : Nat} {l : List Nat} (h : Rw S i l) (hne : i ≠ 23 + 2 * v) : ∃ S', d9_wantParts G nt nv v i S = some S' ∧ Rw S' (23 + 2 * v) (wP (G v 1) l) ∧ Fr (23 + 2 * v) S S' := by
  have hl : l.length ≤ 32 := Nat.le_trans h.2.1 dcap_le
  unfold d9_wantParts wP
  obtain ⟨S1, e1, h1, f1⟩ := clear_n (S := S) (i := 23 + 2 * v)
  rw [e1, cb_s]
  refine lq2 (Q := fun x => ∃ S', x = some S' ∧ Rw S' (23 + 2 * v) (l.foldl (fun acc r => insR (pt (G v 1) r) acc) []) ∧ Fr (23 + 2 * v) S S') (fun d (a : Int32) (T : St) => ∃ k, k + d = l.length ∧ a = nI k ∧ Rw T (23 + 2 * v) ((l.take k).foldl (fun acc r => insR (pt (G v 1) r) acc) []) ∧ Fr (23 + 2 * v) S T) ?_ _ l.length _ _ (FU_lt (by omega)) ⟨0, by omega, rfl, h1, f1⟩
  rintro d a T g ⟨k, hk, rfl, hT, hF⟩ ih
  have hs := Rw_fr h hF hne
  rw [size_n hs, cb_s]
  by_cases h0 : d = 0
  · have hkl : k = l.length := by omega
    rw [if_pos (nI_le (by omega) (by omega))]
    rw [hkl, List.take_length] at hT
    exact ⟨T, rfl, hT, hF⟩
  · have hkl : k < l.length := by omega
    have hle := fold_le (f := fun acc r => insR (pt (G v 1) r) acc) (fun _ _ => insR_le) (l.take k) []
    rw [List.length_take, List.length_nil] at hle
    rw [if_neg (nI_ge hkl (by omega)), at_n hs hkl, cb_s, part_n (okL_gl h.2.2.2 hkl), cb_s]
    obtain ⟨T2, e2, h2, f2⟩ := put_n hT (pt_lt (G v 1) (gl l k)) (Or.inr (by rw [dcap_w]; omega))
    rw [e2, cb_s, nI_1]
    refine ih (d - 1) _ _ (by omega) ⟨k + 1, by omega, rfl, ?_, hF.tr f2⟩
    rw [fold_take (f := fun acc r => insR (pt (G v 1) r) acc) hkl]
    exact h2
theorem wantsKey_n {S : St} {G : Gt} {nt nv v r : Nat} {l : List Nat} (h : Rw S (23 + 2 * v) l) (hr : r < 2 ^ 31) : d9_wantsKeyOf G nt nv v (nI r) S = some (if free (G v 2) l r = true then 0 else 1) := by
  unfold d9_wantsKeyOf free
  rw [firstLike_n h hr, cb_s]
  cases hf : fnd (G v 2) (pt (G v 2) r) l with
  | none => rw [if_pos (show oN none = -1 from rfl)]; rfl
  | some q =>
    rw [if_neg (show ¬ oN (some q) = -1 from nm1 (Nat.lt_of_lt_of_le (h.2.2.2 q (fnd_mem hf).1) (by decide)))]
    rfl
theorem hidden_n {S : St} {G : Gt} {nt nv v r : Nat} {V : List Nat} (h : Rw S (22 + 2 * vl G v) V) (hA : GA G v) (k6 : G v 6 = 1) (hr : r < 2 ^ 31) : d2_hiddenValue G nt nv v (nI r) S = some (nI (hvn G V v r)) := by
  obtain ⟨c, w, hc, hw, h7, h8, e7, e8, -⟩ := drop_f hA k6
  unfold d2_hiddenValue hvn
  rw [firstLike_n h hr, cb_s]
  cases hf : fnd (G v 2) (pt (G v 2) r) V with
  | none =>
    rw [if_pos (show oN none = -1 from rfl)]
    dsimp only
    rw [e8, h8]
  | some q =>
    have hq31 : q < 2 ^ 31 := Nat.lt_of_lt_of_le (h.2.2.2 q (fnd_mem hf).1) (by decide)
    rw [if_neg (show ¬ oN (some q) = -1 from nm1 hq31)]
    dsimp only
    show cb (d1_digit (nI q) (G v 7)) _ = _
    rw [h7, digit_n hq31 hc, cb_s, nI_clamp (by omega)]
theorem pass2_n {S : St} {G : Gt} {nt nv v : Nat} {l V : List Nat} (h : Rw S (23 + 2 * v) l) (hV : Rw S (22 + 2 * vl G v) V) (hA : GA G v) (k6 : G v 6 = 1) (hv : vl G v < v) : ∃ S', d2_passOn G nt nv v S = some S' ∧ Rw S' (23 + 2 * vl G v) (paD G V v l) ∧ Fr (23 + 2 * vl G v) S S' := by
  have hl : l.length ≤ 32 := Nat.le_trans h.2.1 dcap_le
  obtain ⟨c, w, hc, hw, h7, h8, e7, e8, -⟩ := drop_f hA k6
  unfold d2_passOn paD
  obtain ⟨S1, e1, h1, f1⟩ := clear_n (S := S) (i := 23 + 2 * vl G v)
  rw [e1, cb_s]
  refine lq2 (Q := fun x => ∃ S', x = some S' ∧ Rw S' (23 + 2 * vl G v) (l.foldl (fun acc r => insR (hid G V v r) acc) []) ∧ Fr (23 + 2 * vl G v) S S') (fun d (a : Int32) (T : St) => ∃ k, k + d = l.length ∧ a = nI k ∧ Rw T (23 + 2 * vl G v) ((l.take k).foldl (fun acc r => insR (hid G V v r) acc) []) ∧ Fr (23 + 2 * vl G v) S T) ?_ _ l.length _ _ (FU_lt (by omega)) ⟨0, by omega, rfl, h1, f1⟩
  rintro d a T g ⟨k, hk, rfl, hT, hF⟩ ih
  have hs := Rw_fr h hF (by omega)
  have hsV := Rw_fr hV hF (by omega)
  rw [size_n hs, cb_s]
  by_cases h0 : d = 0
  · have hkl : k = l.length := by omega
    rw [if_pos (nI_le (by omega) (by omega))]
    rw [hkl, List.take_length] at hT
    exact ⟨T, rfl, hT, hF⟩
  · have hkl : k < l.length := by omega
    have hrk := h.2.2.2 _ (gl_mem hkl)
    have hle := fold_le (f := fun acc r => insR (hid G V v r) acc) (fun _ _ => insR_le) (l.take k) []
    rw [List.length_take, List.length_nil] at hle
    have hhid : hid G V v (gl l k) < 1000000 := by
      unfold hid
      rw [e7]
      exact sd_lt hrk hc (hvn_lt hA k6)
    rw [if_neg (nI_ge hkl (by omega)), at_n hs hkl, cb_s, hidden_n hsV hA k6 (by omega), cb_s, h7, with_n (by omega) hc (hvn_lt hA k6), cb_s]
    obtain ⟨T2, e2, h2, f2⟩ := put_n hT hhid (Or.inr (by rw [dcap_w]; omega))
    have e3 : sd (gl l k) c (hvn G V v (gl l k)) = hid G V v (gl l k) := by
      unfold hid
      rw [e7]
    rw [e3, e2, cb_s, nI_1]
    refine ih (d - 1) _ _ (by omega) ⟨k + 1, by omega, rfl, ?_, hF.tr f2⟩
    rw [fold_take (f := fun acc r => insR (hid G V v r) acc) hkl]
    exact h2
theorem pass5_n {S : St} {G : Gt} {nt nv v : Nat} {l V : List Nat} (h : Rw S (23 + 2 * v) l) (hV : Rw S (22 + 2 * vl G v) V) (hA : GA G v) (k6 : G v 6 = 4) (hv : vl G v < v) (hC : okC V l) : ∃ S', d5_passOn G nt nv v S = some S' ∧ Rw S' (23 + 2 * vl G v) (paS G V v l) ∧ Fr (23 + 2 * vl G v) S S' := by
  have hV12 := hC.1
  obtain ⟨-, -, -, ⟨c, hc6, hc7, -⟩, -⟩ := hA.2.1 k6
  unfold d5_passOn paS
  obtain ⟨S1, e1, h1, f1⟩ := takeOver_n (i := 23 + 2 * vl G v) h (by rw [dcap_w]; exact hC.len) (by omega)
  rw [e1, cb_s]
  refine lq2 (Q := fun x => ∃ S', x = some S' ∧ Rw S' (23 + 2 * vl G v) (V.foldl (adS G v l) l) ∧ Fr (23 + 2 * vl G v) S S') (fun d (a : Int32) (T : St) => ∃ k, k + d = V.length ∧ a = nI k ∧ Rw T (23 + 2 * vl G v) ((V.take k).foldl (adS G v l) l) ∧ Fr (23 + 2 * vl G v) S T) ?_ _ V.length _ _ (FU_lt (by omega)) ⟨0, by omega, rfl, h1, f1⟩
  rintro d a T g ⟨k, hk, rfl, hT, hF⟩ ih
  have hs := Rw_fr h hF (by omega)
  have hsV := Rw_fr hV hF (by omega)
  rw [size_n hsV, cb_s]
  by_cases h0 : d = 0
  · have hkl : k = V.length := by omega
    rw [if_pos (nI_le (by omega) (by omega))]
    rw [hkl, List.take_length] at hT
    exact ⟨T, rfl, hT, hF⟩
  · have hkl : k < V.length := by omega
    have hrk := hV.2.2.2 _ (gl_mem hkl)
    have ft := fold_takeA (f := adS G v l) (acc := l) hkl
    have hok := pre_okC (f := adS G v l) adS_or hC (k + 1)
    rw [ft] at hok
    rw [if_neg (nI_ge hkl (by omega)), at_n hsV hkl, cb_s, selects_n hc7 hc6 (by omega), cb_s]
    by_cases hsel : selB G v (gl V k) = true
    · have e : adS G v l ((V.take k).foldl (adS G v l) l) (gl V k) = (V.take k).foldl (adS G v l) l := by
        show (if _ then _ else _) = _
        rw [if_neg (fun z => by rw [hsel] at z; cases z.1)]
      rw [if_pos hsel, if_neg z10, nI_1]
      refine ih (d - 1) _ _ (by omega) ⟨k + 1, by omega, rfl, ?_, hF⟩
      rw [ft, e]
      exact hT
    · have hsel2 : selB G v (gl V k) = false := by cases z : selB G v (gl V k) <;> simp_all
      rw [if_neg hsel, if_pos z00, wantsKey_n hs (by omega), cb_s]
      by_cases hfr : free (G v 2) l (gl V k) = true
      · have e : adS G v l ((V.take k).foldl (adS G v l) l) (gl V k) = insR (gl V k) ((V.take k).foldl (adS G v l) l) := by
          show (if _ then _ else _) = _
          rw [if_pos ⟨hsel2, hfr⟩]
        rw [if_pos hfr, if_pos z00]
        rw [e] at hok
        obtain ⟨T2, e2, h2, f2⟩ := put_n hT hrk (by rw [dcap_w]; exact hok.room)
        rw [e2, cb_s, nI_1]
        refine ih (d - 1) _ _ (by omega) ⟨k + 1, by omega, rfl, ?_, hF.tr f2⟩
        rw [ft, e]
        exact h2
      · have e : adS G v l ((V.take k).foldl (adS G v l) l) (gl V k) = (V.take k).foldl (adS G v l) l := by
          show (if _ then _ else _) = _
          rw [if_neg (fun z => hfr z.2)]
        rw [if_neg hfr, if_neg z10, nI_1]
        refine ih (d - 1) _ _ (by omega) ⟨k + 1, by omega, rfl, ?_, hF⟩
        rw [ft, e]
        exact hT
theorem pass3_n {S : St} {G : Gt} {nt nv v : Nat} {l VL VR : List Nat} (h : Rw S (23 + 2 * v) l) (hVL : Rw S (22 + 2 * vl G v) VL) (hVR : Rw S (22 + 2 * vr G v) VR) (hv : vl G v < v) (hv2 : vr G v < v) (hne : vl G v ≠ vr G v) (hCR : okC VR (wP (G (vr G v) 1) l)) (hCL : okC VL (wP (G (vl G v) 1) l)) (hsR : Srt VR) (huR : unl (G (vr G v) 2) VR) (hsL : Srt VL) (huL : unl (G (vl G v) 2) VL) : ∃ S', d3_passOn G nt nv v S = some S' ∧ Rw S' (23 + 2 * vr G v) (paR G VR v l) ∧ Rw S' (23 + 2 * vl G v) (paL G VL (paR G VR v l) v l) ∧ (∀ k, k ≠ 23 + 2 * vl G v → k ≠ 23 + 2 * vr G v → S'.1 k = S.1 k ∧ S'.2 k = S.2 k) := by
  have hVR12 := hCR.1
  have hVL12 := hCL.1
  unfold d3_passOn
  obtain ⟨S1, e1, h1, f1⟩ := wantParts_n (G := G) (nt := nt) (nv := nv) (v := vr G v) h (by omega)
  rw [e1, cb_s]
  refine lq2 (Q := fun x => ∃ S', x = some S' ∧ Rw S' (23 + 2 * vr G v) (paR G VR v l) ∧ Rw S' (23 + 2 * vl G v) (paL G VL (paR G VR v l) v l) ∧ (∀ k, k ≠ 23 + 2 * vl G v → k ≠ 23 + 2 * vr G v → S'.1 k = S.1 k ∧ S'.2 k = S.2 k)) (fun d (a : Int32) (T : St) => ∃ k, k + d = VR.length ∧ a = nI k ∧ Rw T (23 + 2 * vr G v) ((VR.take k).foldl (adF (G (vr G v) 2) (wP (G (vr G v) 1) l)) (wP (G (vr G v) 1) l)) ∧ Fr (23 + 2 * vr G v) S T) ?_ _ VR.length _ _ (FU_lt (by omega)) ⟨0, by omega, rfl, h1, f1⟩
  rintro d a T g ⟨k, hk, rfl, hT, hF⟩ ih
  have hsV := Rw_fr hVR hF (by omega)
  rw [size_n hsV, cb_s]
  by_cases h0 : d = 0
  · have hkl : k = VR.length := by omega
    rw [if_pos (nI_le (by omega) (by omega))]
    rw [hkl, List.take_length] at hT
    have hT' : Rw T (23 + 2 * vr G v) (paR G VR v l) := hT
    obtain ⟨S2, e2, h2, f2⟩ := wantParts_n (G := G) (nt := nt) (nv := nv) (v := vl G v) (Rw_fr h hF (by omega)) (by omega)
    rw [e2, cb_s]
    refine lq2 (Q := fun x => ∃ S', x = some S' ∧ Rw S' (23 + 2 * vr G v) (paR G VR v l) ∧ Rw S' (23 + 2 * vl G v) (paL G VL (paR G VR v l) v l) ∧ (∀ k, k ≠ 23 + 2 * vl G v → k ≠ 23 + 2 * vr G v → S'.1 k = S.1 k ∧ S'.2 k = S.2 k)) (fun d (a : Int32) (U : St) => ∃ k, k + d = VL.length ∧ a = nI k ∧ Rw U (23 + 2 * vl G v) ((VL.take k).foldl (adL (G (vl G v) 2) (G v 10) (wP (G (vl G v) 1) l) (paR G VR v l)) (wP (G (vl G v) 1) l)) ∧ Fr (23 + 2 * vl G v) T U) ?_ _ VL.length _ _ (FU_lt (by omega)) ⟨0, by omega, rfl, h2, f2⟩
    rintro d2 a U g2 ⟨i, hi, rfl, hU, hFU⟩ ih2
    have hsVL := Rw_fr (Rw_fr hVL hF (by omega)) hFU (by omega)
    have hUR := Rw_fr hT' hFU (by omega)
    rw [size_n hsVL, cb_s]
    by_cases h1 : d2 = 0
    · have hil : i = VL.length := by omega
      rw [if_pos (nI_le (by omega) (by omega))]
      rw [hil, List.take_length] at hU
      exact ⟨U, rfl, hUR, hU, fun q a b => ⟨(hFU.1 q a).trans (hF.1 q b), (hFU.2 q a).trans (hF.2 q b)⟩⟩
    · have hil : i < VL.length := by omega
      have hrk := hVL.2.2.2 _ (gl_mem hil)
      have ft := fold_takeA (f := adL (G (vl G v) 2) (G v 10) (wP (G (vl G v) 1) l) (paR G VR v l)) (acc := wP (G (vl G v) 1) l) hil
      have hok := pre_okC (f := adL (G (vl G v) 2) (G v 10) (wP (G (vl G v) 1) l) (paR G VR v l)) adL_or hCL (i + 1)
      rw [ft] at hok
      rw [if_neg (nI_ge hil (by omega)), at_n hsVL hil, cb_s, wantsKey_n hU (by omega), free_st adL_or hsL huL hil, cb_s]
      by_cases hfr : free (G (vl G v) 2) (wP (G (vl G v) 1) l) (gl VL i) = true
      · rw [if_pos hfr, if_pos z00, firstLike_n hUR (by omega), cb_s]
        cases hf : fnd (G v 10) (pt (G v 10) (gl VL i)) (paR G VR v l) with
        | none =>
          have hfr2 : free (G v 10) (paR G VR v l) (gl VL i) = true := by
            unfold free
            rw [hf]
            rfl
          rw [if_pos (show oN none = -1 from rfl)]
          have e : ∀ acc, adL (G (vl G v) 2) (G v 10) (wP (G (vl G v) 1) l) (paR G VR v l) acc (gl VL i) = insR (gl VL i) acc := fun acc => if_pos ⟨hfr, hfr2⟩
          rw [e] at hok
          obtain ⟨U2, e3, h3, f3⟩ := put_n hU hrk (by rw [dcap_w]; exact hok.room)
          rw [e3, cb_s, nI_1]
          refine ih2 (d2 - 1) _ _ (by omega) ⟨i + 1, by omega, rfl, ?_, hFU.tr f3⟩
          rw [ft, e]
          exact h3
        | some q =>
          have hfr2 : ¬ free (G v 10) (paR G VR v l) (gl VL i) = true := by
            unfold free
            rw [hf]
            simp
          rw [if_neg (show ¬ oN (some q) = -1 from nm1 (Nat.lt_of_lt_of_le (hUR.2.2.2 q (fnd_mem hf).1) (by decide))), nI_1]
          have e : ∀ acc, adL (G (vl G v) 2) (G v 10) (wP (G (vl G v) 1) l) (paR G VR v l) acc (gl VL i) = acc := fun acc => if_neg (fun z => hfr2 z.2)
          refine ih2 (d2 - 1) _ _ (by omega) ⟨i + 1, by omega, rfl, ?_, hFU⟩
          rw [ft, e]
          exact hU
      · have e : ∀ acc, adL (G (vl G v) 2) (G v 10) (wP (G (vl G v) 1) l) (paR G VR v l) acc (gl VL i) = acc := fun acc => if_neg (fun z => hfr z.1)
        rw [if_neg hfr, if_neg z10, nI_1]
        refine ih2 (d2 - 1) _ _ (by omega) ⟨i + 1, by omega, rfl, ?_, hFU⟩
        rw [ft, e]
        exact hU
  · have hkl : k < VR.length := by omega
    have hrk := hVR.2.2.2 _ (gl_mem hkl)
    have ft := fold_takeA (f := adF (G (vr G v) 2) (wP (G (vr G v) 1) l)) (acc := wP (G (vr G v) 1) l) hkl
    have hok := pre_okC (f := adF (G (vr G v) 2) (wP (G (vr G v) 1) l)) adF_or hCR (k + 1)
    rw [ft] at hok
    rw [if_neg (nI_ge hkl (by omega)), at_n hsV hkl, cb_s, wantsKey_n hT (by omega), free_st adF_or hsR huR hkl, cb_s]
    by_cases hfr : free (G (vr G v) 2) (wP (G (vr G v) 1) l) (gl VR k) = true
    · have e : ∀ acc, adF (G (vr G v) 2) (wP (G (vr G v) 1) l) acc (gl VR k) = insR (gl VR k) acc := fun acc => if_pos hfr
      rw [e] at hok
      rw [if_pos hfr, if_pos z00]
      obtain ⟨T2, e2, h2, f2⟩ := put_n hT hrk (by rw [dcap_w]; exact hok.room)
      rw [e2, cb_s, nI_1]
      refine ih (d - 1) _ _ (by omega) ⟨k + 1, by omega, rfl, ?_, hF.tr f2⟩
      rw [ft, e]
      exact h2
    · have e : ∀ acc, adF (G (vr G v) 2) (wP (G (vr G v) 1) l) acc (gl VR k) = acc := fun acc => if_neg hfr
      rw [if_neg hfr, if_neg z10, nI_1]
      refine ih (d - 1) _ _ (by omega) ⟨k + 1, by omega, rfl, ?_, hF⟩
      rw [ft, e]
      exact hT
theorem pass7_n {S : St} {G : Gt} {nt nv v : Nat} {l : List Nat} (h : Rw S (23 + 2 * v) l) (hl : l.length ≤ 12) (ht : vt G v < 3) : ∃ S', d7_passOn G nt nv v S = some S' ∧ Rw S' (2 + 7 * vt G v) l ∧ Fr (2 + 7 * vt G v) S S' := by
  unfold d7_passOn
  obtain ⟨S1, e1, h1, f1⟩ := takeOver_n (i := 2 + 7 * vt G v) h (by rw [dcap_t (by omega)]; exact hl) (by omega)
  rw [e1, cb_s]
  exact ⟨S1, rfl, h1, f1⟩
