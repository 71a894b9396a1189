/-! ===== the law puts back, undoes, opens ===== -/
def pd5L (S339 : Tt) : Option (Int32 × Tt) := lp (fun _ _ _ => none) (fun (g343 : Int32 → Int32 → Tt → Option (Int32 × Tt)) (x340 : Int32) (x341 : Int32) (S342 : Tt) => if 3 ≤ x341 then (rd 6 7 fun (j345 : Nat) => rd 6 7 fun (j347 : Nat) => lt (tw S342 6 j347 ((S342.2.1 6 j345) + 1)) fun (S349 : Tt) => rd 2 7 fun (j350 : Nat) => rd 3 7 fun (j352 : Nat) => rd 2 7 fun (j354 : Nat) => lt (tw S349 6 j354 0) fun (S356 : Tt) => gd (S356.2.2 ≤ 16) <| cb (l_lay S356.2.1) fun (M359 : Lt) => lt (tm S356 M359) fun (S360 : Tt) => gd (S360.2.2 + 1 ≤ 16) <| cb2 (k_putBack S360.1) fun (z361 : Int32) (C363 : Cs) => lt (tc S360 C363) fun (S364 : Tt) => if z361 = x340 then (rd ((S349.2.1 6 j350) - 1) 10 fun (j367 : Nat) => if (S364.2.1 2 j367) = (S349.2.1 6 j352) then (gd (S364.2.2 ≤ 16) <| some ((1 : Int32), S364)) else (gd (S364.2.2 ≤ 16) <| some ((0 : Int32), S364))) else (gd (S364.2.2 ≤ 16) <| some ((0 : Int32), S364))) else (rd x341 3 fun (j372 : Nat) => rd ((3 : Int32) + x341) 6 fun (j374 : Nat) => gd (S342.2.2 ≤ 16) <| cb (l_count ((S342.2.1 4 j372) ^^^ (S342.2.1 0 j374))) fun (z376 : Int32) => rd 6 7 fun (j378 : Nat) => rd ((3 : Int32) + x341) 6 fun (j380 : Nat) => rd (((3 : Int32) * (S342.2.1 6 j378)) + x341) 15 fun (j382 : Nat) => lt (tw S342 5 j382 (S342.2.1 0 j380)) fun (S384 : Tt) => rd x341 3 fun (j385 : Nat) => rd ((3 : Int32) + x341) 6 fun (j387 : Nat) => lt (tw S384 0 j387 (S384.2.1 4 j385)) fun (S389 : Tt) => g343 (x340 + z376) (x341 + 1) S389)) FU 0 0 S339
theorem pd5_d {T : Tt} : pd5 T = rd 2 7 fun (j260 : Nat) => jn (fun (S262 : Tt) => rd 2 7 fun (j264 : Nat) => jn (gd (S262.2.2 + 1 ≤ 16) <| cb2 (k_putBack S262.1) fun (z267 : Int32) (C269 : Cs) => lt (tc S262 C269) fun (S270 : Tt) => if z267 = (-7300) then (gd (S270.2.2 ≤ 16) <| some ((1 : Int32), S270)) else (gd (S270.2.2 ≤ 16) <| some ((0 : Int32), S270))) fun k266 => if (S262.2.1 6 j264) = 0 then (k266) else (rd 4 7 fun (j275 : Nat) => if (S262.2.1 6 j275) ≤ 0 then (rd 6 7 fun (j278 : Nat) => if (S262.2.1 6 j278) = 5 then (lp (fun _ _ => none) (fun (g333 : Int32 → Tt → Option (Int32 × Tt)) (x331 : Int32) (S332 : Tt) => if 12 ≤ x331 then (rd 6 7 fun (j335 : Nat) => rd 6 7 fun (j337 : Nat) => lt (tw S332 6 j337 ((S332.2.1 6 j335) - 1)) fun (S339 : Tt) => pd5L S339) else (rd (x331 + 3) 15 fun (j390 : Nat) => rd x331 15 fun (j392 : Nat) => lt (tw S332 5 j392 (S332.2.1 5 j390)) fun (S394 : Tt) => g333 (x331 + 1) S394)) FU 0 S262) else (pd5L S262)) else (k266))) fun k263 => if (T.2.1 6 j260) ≤ 0 then (k263 T) else (gd (T.2.2 + 1 ≤ 16) <| cb (l_put T.2.1) fun (M398 : Lt) => lt (tm1 T M398) fun (S399 : Tt) => k263 S399) := rfl
theorem pd5L_n {S : St} {G : Gt} {nt nv u nu nu' k : Nat} {M M1 M2 : Lt} (h : RQ (S, G, nt, nv) M) (hD : DL G nv S M u) (hP : l_put M = some M1) (hF1 : FLs M M1) (hc : M1 6 4 = 0) (h66 : M 6 6 = nI nu) (hnu5 : nu ≤ 5) (hnu' : nu' < 5) (h266 : M2 6 6 = nI nu') (hmin : nu' + 1 = min (nu + 1) 5) (e2 : ∀ q, q ≠ 5 → q ≠ 6 → M2 q = M1 q) (e26 : ∀ j, j ≠ 6 → M2 6 j = M1 6 j) (e25 : ∀ j, j < nu' → ∀ t, t < 3 → M2 5 (3 * j + t) = kept M nu j t) (hk : k + 1 ≤ 16) : OKq (pd5L ((S, G, nt, nv), M2, k)) := by
  obtain ⟨hb3, hb10⟩ := h.b
  obtain ⟨hO, hT, hok, hK, hsm, h61⟩ := h.st
  have hu := hD.1
  obtain ⟨S0, -, -, -, -, -, q2, q3, hPG⟩ := plan3 h hD hP
  have hkn : ∀ t, kept M nu nu' t = M 0 (3 + t) := fun t => by
    unfold kept
    by_cases h5 : nu < 5
    · rw [if_pos h5, if_pos (by omega)]
    · rw [if_neg h5, if_pos (by omega)]
  have ok4 : ∀ i, i < 3 → okS (M1 4 i) := fun i hi => by
    by_cases hin : i < nt
    · exact (q2 i hin).1
    · rw [q3 i (by omega) hi]
      exact okS_0
  have m10 : M1 0 = M 0 := hF1.1 0 (by omega)
  have ok0 : ∀ i, i < 3 → okS (M 0 (3 + i)) := fun i hi => by
    by_cases hin : i < nt
    · exact hok i hin
    · have : M 0 (3 + i) = 0 := h.2.2.1.2.1 i (by show nt ≤ i; omega) hi
      rw [this]
      exact okS_0
  have r6 : ∀ (f : Nat → Option (Int32 × Tt)), rd 6 7 f = f 6 := fun f => rd_n (j := 6) (by decide) (by decide)
  have r2 : ∀ (f : Nat → Option (Int32 × Tt)), rd 2 7 f = f 2 := fun f => rd_n (j := 2) (by decide) (by decide)
  have r3 : ∀ (f : Nat → Option (Int32 × Tt)), rd 3 7 f = f 3 := fun f => rd_n (j := 3) (by decide) (by decide)
  unfold pd5L
  refine lq3 (Q := OKq) (fun d (a b : Int32) (T : Tt) => ∃ i X, i + d = 3 ∧ b = nI i ∧ a = nI (sumN (mch M M1) i) ∧ T = ((S, G, nt, nv), X, k) ∧ (∀ q, q ≠ 0 → q ≠ 5 → X q = M2 q) ∧ (∀ t, t < 3 → X 0 t = M 0 t) ∧ (∀ t, t < 3 → X 0 (3 + t) = if t < i then M1 4 t else M 0 (3 + t)) ∧ (∀ c, c < 3 * nu' → X 5 c = M2 5 c) ∧ ∀ t, t < i → X 5 (3 * nu' + t) = M 0 (3 + t)) ?_ _ 3 _ _ _ (FU_lt (by omega)) ⟨0, M2, by omega, rfl, rfl, rfl, fun _ _ _ => rfl, fun t _ => by rw [e2 0 (by decide) (by decide), m10], fun t _ => by rw [if_neg (by omega), e2 0 (by decide) (by decide), m10], fun _ _ => rfl, fun t ht => by omega⟩
  rintro d a b T g ⟨i, X, hi, rfl, rfl, rfl, x1, x0, x3, x5, x5n⟩ ih
  have x6 : X 6 = M2 6 := x1 6 (by decide) (by decide)
  by_cases h0 : d = 0
  · have e : i = 3 := by omega
    subst e
    rw [if_pos (show (3 : Int32) ≤ nI 3 from by decide), r6, r6, lt_d, htw, r2, r3, r2, lt_d, htw, hp1, hp1]
    have ex66 : X 6 6 = nI nu' := by rw [x6, h266]
    rw [ex66, nI_1]
    obtain ⟨X1, eX1⟩ : ∃ X1, X1 = w3 X 6 6 (nI (nu' + 1)) := ⟨_, rfl⟩
    obtain ⟨X2, eX2⟩ : ∃ X2, X2 = w3 X1 6 2 0 := ⟨_, rfl⟩
    rw [← eX1, ← eX2]
    have y1 : ∀ q, q ≠ 6 → X2 q = X q := fun q hq => by rw [eX2, w3_n hq, eX1, w3_n hq]
    have y16 : ∀ j, j ≠ 6 → X1 6 j = M1 6 j := fun j hj => by rw [eX1, w3_o hj, x6, e26 j hj]
    have y26 : ∀ j, j ≠ 2 → X2 6 j = X1 6 j := fun j hj => by rw [eX2, w3_o hj]
    have z3 : ∀ t, t < 3 → X2 0 (3 + t) = M1 4 t := fun t ht => by rw [y1 0 (by decide), x3 t ht, if_pos ht]
    obtain ⟨S', ep, hR'⟩ := kput_i (M' := X2) h hD hP hc h66 hnu5 (fun t ht => by rw [y1 0 (by decide)]; exact x0 t ht) z3 (by rw [y1 1 (by decide), x1 1 (by decide) (by decide), e2 1 (by decide) (by decide)]; exact hF1.1 1 (by omega)) (by rw [y26 0 (by decide), y16 0 (by decide)]; exact hF1.2 0 (by decide) (by decide)) (by rw [y26 1 (by decide), y16 1 (by decide)]; exact hF1.2 1 (by decide) (by decide)) (by rw [eX2, w3_e]) (by rw [y26 6 (by decide), eX1, w3_e, hmin]) (fun j hj t ht => by
      rw [y1 5 (by decide)]
      by_cases hjn : j = nu'
      · rw [hjn, x5n t ht, hkn]
      · rw [x5 _ (by omega)]
        exact e25 j (by omega) t ht)
    obtain ⟨L, eL, fL, vL⟩ := hR'.lay
    have hv : L 2 u = X1 6 3 := by
      have hI := vL u hu
      have e1 : VV G (TbM X2) u = VV G (fun t => ms (M1 4 t)) u := VV_mask hO (u + 1) u (Nat.lt_succ_self u) hu fun t ht _ => by
        unfold TbM
        rw [z3 t (by omega)]
      have e3 : X1 6 3 = M 6 3 := by rw [y16 3 (by decide)]; exact hF1.2 3 (by decide) (by decide)
      rw [e3]
      exact ms_ext hI.1 hD.2.2.2.1 (hI.2.trans (e1.trans (hPG hc)))
    have e2u : X1 6 2 = nI (u + 1) := by rw [y16 2 (by decide), hF1.2 2 (by decide) (by decide)]; exact hD.2.2.1
    rw [klay (by omega) eL, kcall (by omega) ep, if_pos rfl]
    show OKq (rd (X1 6 2 - 1) 10 _)
    rw [e2u, nI_pred, rd_n (by omega) (by decide)]
    show OKq (if L 2 u = X1 6 3 then _ else _)
    rw [if_pos hv, kend (by omega)]
    exact ⟨_, _, _, rfl, hR'.fr fL.s⟩
  · have hi3 : i < 3 := by omega
    have c4 : X 4 i = M1 4 i := by rw [x1 4 (by decide) (by decide), e2 4 (by decide) (by decide)]
    have c0 : X 0 (3 + i) = M 0 (3 + i) := by rw [x3 i hi3, if_neg (by omega)]
    have ecn : l_count (X 4 i ^^^ X 0 (3 + i)) = some (nI (mch M M1 i)) := by
      rw [c4, c0]
      exact count_n (okS_x (ok4 i hi3) (ok0 i hi3))
    have ex66 : X 6 6 = nI nu' := by rw [x6, h266]
    rw [if_neg (show ¬ (3 : Int32) ≤ nI i from nI_ge (b := 3) hi3 (by decide)), rd_n hi3 (by decide), show ((3 : Int32) + nI i) = nI (3 + i) from nI_add 3 i, rd_n (by omega) (by decide), kown (by omega) ecn, r6, rd_n (by omega) (by decide)]
    show OKq (rd ((3 : Int32) * (X 6 6) + nI i) 15 _)
    rw [ex66, n3, nI_add, rd_n (by omega) (by decide), lt_d, htw, rd_n hi3 (by decide), rd_n (by omega) (by decide), lt_d, htw, hp1, hp1, nI_add, nI_1]
    refine ih (d - 1) _ _ _ (by omega) ⟨i + 1, _, by omega, rfl, rfl, rfl, fun q a b => ?_, fun t ht => ?_, fun t ht => ?_, fun c hc => ?_, fun t ht => ?_⟩
    · rw [w3_n a, w3_n b]
      exact x1 q a b
    · rw [w3_o (by omega), w3_n (by decide)]
      exact x0 t ht
    · by_cases e : t = i
      · subst e
        rw [w3_e, w3_n (by decide), c4, if_pos (by omega)]
      · rw [w3_o (by omega), w3_n (by decide), x3 t ht]
        by_cases e2 : t < i
        · rw [if_pos e2, if_pos (by omega)]
        · rw [if_neg e2, if_neg (by omega)]
    · rw [w3_n (by decide), w3_o (by omega)]
      exact x5 c hc
    · rw [w3_n (by decide)]
      by_cases e : t = i
      · subst e
        rw [w3_e, c0]
      · rw [w3_o (by omega)]
        exact x5n t (by omega)
theorem pd5_n {S : St} {G : Gt} {nt nv : Nat} {M : Lt} (h : RQ (S, G, nt, nv) M) : OKq (pd5 ((S, G, nt, nv), M, 0)) := by
  have hDD : RLd G nv S M := h.2.2.2.1
  have r2 : ∀ (f : Nat → Option (Int32 × Tt)), rd 2 7 f = f 2 := fun f => rd_n (j := 2) (by decide) (by decide)
  have r4 : ∀ (f : Nat → Option (Int32 × Tt)), rd 4 7 f = f 4 := fun f => rd_n (j := 4) (by decide) (by decide)
  have r6 : ∀ (f : Nat → Option (Int32 × Tt)), rd 6 7 f = f 6 := fun f => rd_n (j := 6) (by decide) (by decide)
  obtain ⟨hb3, hb10⟩ := h.b
  rw [pd5_d, r2, jn_d]
  show OKq (if M 6 2 ≤ 0 then _ else _)
  rcases hDD with ⟨h44, h62⟩ | ⟨u, hD⟩
  · rw [if_pos (by rw [h62]; decide)]
    dsimp only
    rw [r2, jn_d, if_pos h62]
    rw [gd_t (by omega), nd_putBack h44, cb2_s, lt_d, if_pos rfl]
    exact ⟨_, _, _, rfl, h⟩
  · have hu := hD.1
    obtain ⟨S0, M1, -, hP, -, fM, hq, -⟩ := lput_n h hD
    have e62 : M1 6 2 = nI (u + 1) := (fM.2 2 (by decide) (by decide)).trans hD.2.2.1
    rw [if_neg (by rw [hD.2.2.1]; exact nI_ge (a := 0) (by omega) (by omega)), kput (by omega) hP, r2, jn_d]
    show OKq (if M1 6 2 = 0 then _ else _)
    rw [if_neg (by rw [e62]; exact nI_ne0 (by omega) (by omega)), r4]
    show OKq (if M1 6 4 ≤ 0 then _ else _)
    by_cases hc : M1 6 4 ≤ 0
    · have hc0 : M1 6 4 = 0 := by
        rcases hq.2.2.2 with ⟨z, -⟩ | z
        · exact z
        · exact absurd hc z
      obtain ⟨nu, c1, c2, c3, c4⟩ : RLu G nt S M := h.2.2.2.2
      have e66 : M1 6 6 = nI nu := (fM.2 6 (by decide) (by decide)).trans c3
      have e15 : M1 5 = M 5 := fM.1 5 (by omega)
      rw [if_pos hc, r6]
      show OKq (if M1 6 6 = 5 then _ else _)
      by_cases h5 : nu = 5
      · subst h5
        rw [if_pos (by rw [e66]; rfl)]
        refine lq2 (Q := OKq) (fun d (a : Int32) (T : Tt) => ∃ i X, i + d = 12 ∧ a = nI i ∧ T = ((S, G, nt, nv), X, 1) ∧ (∀ q, q ≠ 5 → X q = M1 q) ∧ (∀ c, c < i → X 5 c = M1 5 (c + 3)) ∧ ∀ c, i ≤ c → X 5 c = M1 5 c) ?_ _ 12 _ _ (FU_lt (by omega)) ⟨0, M1, by omega, rfl, rfl, fun _ _ => rfl, fun c hc => by omega, fun _ _ => rfl⟩
        rintro d a T g ⟨i, X, hi, rfl, rfl, x1, x2, x3⟩ ih
        by_cases h0 : d = 0
        · have e : i = 12 := by omega
          subst e
          rw [if_pos (show (12 : Int32) ≤ nI 12 from by decide), r6, r6, lt_d, htw, hp1, x1 6 (by decide), e66, nI_pred]
          refine pd5L_n (nu := 5) (nu' := 4) h hD hP fM hc0 c3 c1 (by omega) w3_e (by decide) (fun q a b => by rw [w3_n b]; exact x1 q a) (fun j hj => by rw [w3_o hj, x1 6 (by decide)]) (fun j hj t ht => ?_) (by omega)
          rw [w3_n (by decide), x2 _ (by omega), e15]
          unfold kept
          rw [if_neg (by omega), if_neg (by omega), show 3 * j + t + 3 = 3 * (j + 1) + t by omega]
        · have hi12 : i < 12 := by omega
          rw [if_neg (show ¬ (12 : Int32) ≤ nI i from nI_ge (b := 12) hi12 (by decide)), show (nI i + 3 : Int32) = nI (i + 3) from nI_add i 3, rd_n (by omega) (by decide), rd_n (by omega) (by decide), lt_d, htw, hp1, nI_1]
          refine ih (d - 1) _ _ (by omega) ⟨i + 1, _, by omega, rfl, rfl, fun q hq => by rw [w3_n hq]; exact x1 q hq, fun c hc => ?_, fun c hc => by rw [w3_o (by omega)]; exact x3 c (by omega)⟩
          by_cases e : c = i
          · subst e
            rw [w3_e, x3 _ (by omega)]
          · rw [w3_o e]
            exact x2 c (by omega)
      · rw [if_neg (by rw [e66]; exact fun z => h5 ((nI_eq (b := 5) (by omega) (by decide)).mp z))]
        refine pd5L_n (nu := nu) (nu' := nu) h hD hP fM hc0 c3 c1 (by omega) e66 (by omega) (fun _ _ _ => rfl) (fun _ _ => rfl) (fun j hj t ht => ?_) (by omega)
        rw [e15]
        unfold kept
        rw [if_pos (by omega), if_neg (by omega)]
    · rw [if_neg hc]
      obtain ⟨S1, e1, hR1⟩ := kput_x h hD hP hc
      rw [kcall (by omega) e1, if_pos rfl, kend (by omega)]
      exact ⟨_, _, _, rfl, hR1.fr fM⟩
theorem pd6_n {S : St} {G : Gt} {nt nv : Nat} {M : Lt} (h : RQ (S, G, nt, nv) M) : OKq (pd6 ((S, G, nt, nv), M, 0)) := by
  have r6 : ∀ (f : Nat → Option (Int32 × Tt)), rd 6 7 f = f 6 := fun f => rd_n (j := 6) (by decide) (by decide)
  obtain ⟨nu, c1, c2, c3, c4⟩ : RLu G nt S M := h.2.2.2.2
  unfold pd6
  rw [r6]
  show OKq (if M 6 6 = 0 then _ else _)
  by_cases h0 : nu = 0
  · subst h0
    rw [if_pos (show M 6 6 = 0 from c3), kcall (by omega) (kundo_0 h c3), if_pos rfl, kend (by omega)]
    exact ⟨_, _, _, rfl, h⟩
  · obtain ⟨j, rfl⟩ : ∃ j, nu = j + 1 := ⟨nu - 1, by omega⟩
    rw [if_neg (by rw [c3]; exact nI_ne0 (by omega) (by omega)), r6, r6, lt_d, htw, hp1, c3, nI_pred]
    refine lq2 (Q := OKq) (fun d (a : Int32) (T : Tt) => ∃ i X, i + d = 3 ∧ a = nI i ∧ T = ((S, G, nt, nv), X, 0) ∧ (∀ q, q ≠ 0 → X q = w3 M 6 6 (nI j) q) ∧ (∀ t, t < 3 → X 0 t = M 0 t) ∧ ∀ t, t < i → X 0 (3 + t) = M 5 (3 * j + t)) ?_ _ 3 _ _ (FU_lt (by omega)) ⟨0, _, by omega, rfl, rfl, fun _ _ => rfl, fun t _ => by rw [w3_n (by decide)], fun t ht => by omega⟩
    rintro d a T g ⟨i, X, hi, rfl, rfl, x1, x2, x3⟩ ih
    have x66 : X 6 6 = nI j := by rw [x1 6 (by decide), w3_e]
    have x5 : X 5 = M 5 := by rw [x1 5 (by decide), w3_n (by decide)]
    by_cases hd : d = 0
    · have e : i = 3 := by omega
      subst e
      obtain ⟨S', e1, hR1⟩ := kundo_i (M' := X) h c3 (by omega) x2 x3 (by rw [x1 1 (by decide), w3_n (by decide)]) x5 (fun q hq => by rw [x1 6 (by decide), w3_o hq]) x66
      rw [if_pos (show (3 : Int32) ≤ nI 3 from by decide), kcall (by omega) e1, r6]
      show OKq (if nI j = X 6 6 then _ else _)
      rw [if_pos x66.symm, kend (by omega)]
      exact ⟨_, _, _, rfl, hR1⟩
    · have hi3 : i < 3 := by omega
      rw [if_neg (show ¬ (3 : Int32) ≤ nI i from nI_ge (b := 3) hi3 (by decide)), r6]
      show OKq (rd ((3 : Int32) * (X 6 6) + nI i) 15 _)
      rw [x66, n3, nI_add, rd_n (by omega) (by decide), show ((3 : Int32) + nI i) = nI (3 + i) from nI_add 3 i, rd_n (by omega) (by decide), lt_d, htw, hp1, x5, nI_1]
      refine ih (d - 1) _ _ (by omega) ⟨i + 1, _, by omega, rfl, rfl, fun q hq => by rw [w3_n hq]; exact x1 q hq, fun t ht => by rw [w3_o (by omega)]; exact x2 t ht, fun t ht => ?_⟩
      by_cases e : t = i
      · subst e
        rw [w3_e]
      · rw [w3_o (by omega)]
        exact x3 t (by omega)
theorem drafts_n {S : St} {G : Gt} {nt nv : Nat} {M : Lt} {x2 x3 x4 : Int32} (h : RQ (S, G, nt, nv) M) (hx : x2 = 0 ∨ x2 = 1 ∨ x2 = 2 ∨ x2 = 3 ∨ x2 = 5 ∨ x2 = 6) : OKq (p_drafts x2 x3 x4 ((S, G, nt, nv), M, 0)) := by
  obtain ⟨hb3, hb10⟩ := h.b
  have r1 : ∀ (f : Nat → Option (Int32 × Tt)), rd 1 7 f = f 1 := fun f => rd_n (j := 1) (by decide) (by decide)
  have r2 : ∀ (f : Nat → Option (Int32 × Tt)), rd 2 7 f = f 2 := fun f => rd_n (j := 2) (by decide) (by decide)
  have r3 : ∀ (f : Nat → Option (Int32 × Tt)), rd 3 7 f = f 3 := fun f => rd_n (j := 3) (by decide) (by decide)
  have h61 : M 6 1 = nI nv := h.2.1.2.2.1
  rw [pdr_d, jn_d]
  rcases hx with rfl | rfl | rfl | rfl | rfl | rfl
  · rw [if_pos rfl, r1]
    show OKq (if M 6 1 ≤ 0 then _ else _)
    by_cases h0 : nv = 0
    · rw [if_pos (by rw [h61, h0]; decide), if_neg (by decide), if_neg (by decide)]
      exact pd1_n h (Or.inr (Or.inr (Or.inr h0)))
    · rw [if_neg (by rw [h61]; exact nI_ge (a := 0) (by omega) (by omega)), r1]
      obtain ⟨u, hu, eu⟩ := low_n x3 (n := nv) (by omega) (by omega)
      have eu' : l_low x3 (M 6 1) = some (nI u) := by rw [h61]; exact eu
      obtain ⟨L, eL, fL, vL⟩ := h.lay
      obtain ⟨S1, e1, o44, oR, o1, o2⟩ := kopen_i h hu
      have hI := vL u hu
      rw [kown (by omega) eu', klay (by omega) eL, r2, lt_d, htw, rd_n (by omega) (by decide), r3, lt_d, htw, hp1, nI_1, kcall (by omega) e1, r3]
      obtain ⟨X, eX⟩ : ∃ X, X = w3 (w3 L 6 2 (nI (u + 1))) 6 3 (w3 L 6 2 (nI (u + 1)) 2 u) := ⟨_, rfl⟩
      rw [← eX]
      have x63 : X 6 3 = L 2 u := by rw [eX, w3_e, w3_n (by decide)]
      have x62 : X 6 2 = nI (u + 1) := by rw [eX, w3_o (by decide), w3_e]
      have xn : ∀ q, q ≠ 6 → X q = L q := fun q hq => by rw [eX, w3_n hq, w3_n hq]
      have hms : ms (X 6 3) = VV G (TbM M) u := by rw [x63]; exact hI.2
      have hFV := FV_n h.st.1 h.st.2.1 hu
      have ec : l_count (X 6 3) = some (nI (VV G (TbM M) u).length) := by rw [← hms, ms_len, x63]; exact count_n hI.1
      rw [kown (by omega) ec, if_pos rfl, kend (by omega)]
      refine ⟨_, _, _, rfl, h.dr o1 o2 (fun q hq => by rw [xn q (by omega)]; exact fL q (by omega)) (fun j a b _ _ => by rw [eX, w3_o b, w3_o a, fL 6 (by decide)]) (Or.inr ⟨u, hu, o44, x62, by rw [x63]; exact hI.1, by rw [hms]; exact oR, fun r hr => ?_⟩)⟩
      rw [hms] at hr
      exact hFV.2.2.1 r hr
  · rw [if_neg (by decide), if_neg (by decide), if_neg (by decide)]
    exact pd1_n h (Or.inl rfl)
  · rw [if_neg (by decide), if_neg (by decide), if_neg (by decide)]
    exact pd1_n h (Or.inr (Or.inl rfl))
  · rw [if_neg (by decide), if_neg (by decide), if_neg (by decide)]
    exact pd1_n h (Or.inr (Or.inr (Or.inl rfl)))
  · rw [if_neg (by decide), if_pos rfl]
    exact pd5_n h
  · rw [if_neg (by decide), if_neg (by decide), if_pos rfl]
    exact pd6_n h
