theorem X3_0 : ∀ c : Fin 8, X3 c.1 0 = 0 := by decide +kernel
theorem N3_le {c : Nat} : N3 c ≤ 9 ∧ 2 ^ N3 c ≤ 512 ∧ 0 < 2 ^ N3 c := by
  rcases N3_c (c := c) with h | h <;> rw [h] <;> decide
theorem X3_bt {c m i : Nat} (hc8 : c < 8) (hc0 : c ≠ 0) (hc7 : c ≠ 7) (hi : i < 32) : bt (X3 c m) i = true ↔ ∃ j, j < N3 c ∧ bq (nI m) j = true ∧ R3 c j = i := xs3_bt hi _ fun j hj => by
  have h9 := (N3_le (c := c)).1
  have := ((six_d ⟨c, hc8⟩ hc0 hc7).2.2.1 ⟨j, by omega⟩ hj).2.1
  dsimp only at this
  omega
theorem X3_ok {c m : Nat} (hc8 : c < 8) (hc0 : c ≠ 0) (hc7 : c ≠ 7) : okS (X3 c m) := fun i h1 h2 => by
  cases hb : bt (X3 c m) i
  · rfl
  · obtain ⟨j, hj, -, he⟩ := (X3_bt hc8 hc0 hc7 h2).mp hb
    have h9 := (N3_le (c := c)).1
    have := ((six_d ⟨c, hc8⟩ hc0 hc7).2.2.1 ⟨j, by omega⟩ hj).2.1
    dsimp only at this
    omega
theorem X3_rs {c m : Nat} (hc8 : c < 8) (hc0 : c ≠ 0) (hc7 : c ≠ 7) : ms (X3 c m) = rs (tl (nI c) 6) (nI m) (tl (nI c) 6).length := by
  have h9 := (N3_le (c := c)).1
  obtain ⟨-, hl, hg, -⟩ := six_d ⟨c, hc8⟩ hc0 hc7
  dsimp only at hl hg
  refine srt_eq (Srt_pw (ms_srt _)) (Srt_pw (rs_srt _)) fun a => ?_
  rw [mem_ms, rs_mem, hl]
  constructor
  · rintro ⟨r, hr, hb, rfl⟩
    obtain ⟨j, hj, b1, b2⟩ := (X3_bt hc8 hc0 hc7 (by omega)).mp hb
    have := (hg ⟨j, by omega⟩ hj).1
    dsimp only at this
    exact ⟨j, hj, b1, by rw [this, b2]⟩
  · rintro ⟨j, hj, b1, rfl⟩
    obtain ⟨q1, q2, -⟩ := hg ⟨j, by omega⟩ hj
    dsimp only at q1 q2
    exact ⟨R3 c j, q2, (X3_bt hc8 hc0 hc7 (by omega)).mpr ⟨j, hj, b1, rfl⟩, q1⟩
theorem X3_all {c i : Nat} (hc8 : c < 8) (hc0 : c ≠ 0) (hc7 : c ≠ 7) (hi : i < 32) : bt (X3 c (2 ^ N3 c - 1)) i = true ↔ i < 27 ∧ p3 (nI c) i = i := by
  have h9 := (N3_le (c := c)).1
  obtain ⟨-, hl, hg, hs⟩ := six_d ⟨c, hc8⟩ hc0 hc7
  dsimp only at hl hg hs
  rw [X3_bt hc8 hc0 hc7 hi]
  constructor
  · rintro ⟨j, hj, b1, rfl⟩
    obtain ⟨-, q2, q3⟩ := hg ⟨j, by omega⟩ hj
    exact ⟨q2, q3⟩
  · rintro ⟨h1, h2⟩
    refine Classical.byContradiction fun hn => hs ⟨i, h1⟩ h2 fun k hk => hn ⟨k.1, hk.1, ?_, hk.2⟩
    have hk1 := hk.1
    rcases N3_c (c := c) with h | h
    · rw [h] at hk1 ⊢
      exact full_d.1 ⟨k.1, hk1⟩
    · rw [h]
      exact full_d.2 k
theorem tl_srt3 {c : Nat} (hc8 : c < 8) (hc0 : c ≠ 0) (hc7 : c ≠ 7) : Srt (tl (nI c) 6) ∧ (tl (nI c) 6).length ≤ 9 ∧ (∀ r, r ∈ tl (nI c) 6 → pt (nI c) r = r) ∧ okL (tl (nI c) 6) := by
  obtain ⟨hpc, -⟩ := six_d ⟨c, hc8⟩ hc0 hc7
  obtain ⟨hL9, hsrt, hval⟩ := tl_d ⟨c, by omega⟩ hpc
  dsimp only at hL9 hsrt hval
  have hv : ∀ r, r ∈ tl (nI c) 6 → pt (nI c) r = r := fun r hr => by
    obtain ⟨j, hj, rfl⟩ := mem_gl hr
    exact hval ⟨j, by omega⟩ hj
  exact ⟨fun i j hij hj => hsrt ⟨j, by omega⟩ ⟨i, by omega⟩ hij hj, hL9, hv, fun r hr => val_lt (hv r hr)⟩
theorem UL_unl {L : List Nat} {ks : Int32} {m : Nat} (hL : Srt L) : unl ks (rs L (nI m) L.length) ↔ UL L ks (nI m) := by
  constructor
  · intro h i j hi hj hij bi bj he
    exact hij (Srt_inj hL hi hj (h _ ((rs_mem _).mpr ⟨i, hi, bi, rfl⟩) _ ((rs_mem _).mpr ⟨j, hj, bj, rfl⟩) he))
  · intro h q hq q2 hq2 he
    obtain ⟨i, hi, bi, rfl⟩ := (rs_mem _).mp hq
    obtain ⟨j, hj, bj, rfl⟩ := (rs_mem _).mp hq2
    by_cases hij : i = j
    · rw [hij]
    · exact absurd he (h i j hi hj hij bi bj)
theorem CT_ms (x : Int32) : CT (ms x) := by
  intro r hr j hj
  obtain ⟨i, hi, -, rfl⟩ := mem_ms.mp hr
  rw [dg_nm i hi j hj]
  split
  · exact d3_le hi
  · exact Nat.zero_le _
theorem least_n {S : St} {G : Gt} {nt nv u t c : Nat} {M : Lt} (h : RQ (S, G, nt, nv) M) (hD : DL G nv S M u) (ht : t < nt) (hcs : G (20 + t) 0 = nI c) (hc8 : c < 8) (hc0 : c ≠ 0) (hc7 : c ≠ 7) (hmk : G u 3 = 1 <<< (nI t &&& 31)) : ∃ M', l_least (nI t) M = some (bst (okf (Cf G u t (tl (nI c) 6) (ms (M 6 3))) (dif (tl (nI c) 6) (TbM M t))) (2 ^ (tl (nI c) 6).length), M') ∧ FL2 M M' := by
  obtain ⟨hb3, hb10⟩ := h.b
  obtain ⟨hO, hT, hok, hK, hsm, h61⟩ := h.st
  obtain ⟨hN9, hN5, hN0⟩ := N3_le (c := c)
  obtain ⟨hpc, hll, -⟩ := six_d ⟨c, hc8⟩ hc0 hc7
  dsimp only at hpc hll
  obtain ⟨hLs, hL9, hLv, hLok⟩ := tl_srt3 hc8 hc0 hc7
  have hstep := step_d ⟨c, hc8⟩ hc0 hc7
  dsimp only at hstep
  have hX0 : X3 c 0 = 0 := X3_0 ⟨c, hc8⟩
  have htt := h.2.1.2.2.2.2 t ht
  have g7 : (M 0 t &&& 7) = nI c := htt.1.trans hcs
  have gk8 : (M 0 t >>> ((3 : Int32) &&& 31)) = G (20 + t) 1 := htt.2.1
  have hu := hD.1
  have hDs := ms_srt (M 6 3)
  have hFt := hT t ht
  have hsub : ∀ r, r ∈ TbM M t → r ∈ tl (nI c) 6 := fun r hr => tl_mem (by rw [← hcs]; exact hFt.2.2.1 r hr) (CT_ms _ r hr)
  obtain ⟨f, hf⟩ : ∃ f, f = okf (Cf G u t (tl (nI c) 6) (ms (M 6 3))) (dif (tl (nI c) 6) (TbM M t)) := ⟨_, rfl⟩
  have hfb : ∀ m d, f m = some d → d < 2 ^ 31 := fun m d hd => by
    rw [hf] at hd
    by_cases hC : Cf G u t (tl (nI c) 6) (ms (M 6 3)) m
    · rw [okf_t hC] at hd
      cases hd
      have := dif_le (L := tl (nI c) 6) (H := TbM M t) (m := m)
      omega
    · rw [okf_f hC] at hd
      cases hd
  rw [← hf, hll]
  unfold l_least
  rw [rd_n (by omega) (by decide), show ((3 : Int32) + nI t) = nI (3 + t) from nI_add 3 t, rd_n (by omega) (by decide), g7]
  refine lq2 (Q := fun o => ∃ M', o = some (bst f (2 ^ N3 c), M') ∧ FL2 M M') (fun d (a b : Int32) => ∃ r, r + d = 27 ∧ b = nI r ∧ ∀ i, i < 32 → (bt a i = true ↔ i < r ∧ p3 (nI c) i = i)) ?_ _ 27 _ _ (FU_lt (by omega)) ⟨0, by omega, rfl, fun i hi => by
    rw [bt_0 hi]
    exact ⟨fun z => (by cases z), fun z => absurd z.1 (Nat.not_lt_zero _)⟩⟩
  rintro d a b g ⟨r, hr, rfl, ha⟩ ih
  by_cases hd : d = 0
  · have e : r = 27 := by omega
    subst e
    rw [if_pos (show (27 : Int32) ≤ nI 27 from by decide)]
    have hall : a = X3 c (2 ^ N3 c - 1) := bt_ext fun i hi => by
      have h1 := ha i hi
      have h2 := X3_all (c := c) hc8 hc0 hc7 hi
      exact Bool.eq_iff_iff.mpr (h1.trans h2.symm)
    subst hall
    refine lq3 (Q := fun o => ∃ M', o = some (bst f (2 ^ N3 c), M') ∧ FL2 M M') (fun d (b x : Int32) (T : Lt) => d ≤ 2 ^ N3 c ∧ (x = if d = 0 then -1 else X3 c (d - 1)) ∧ BB (fun m => d ≤ m ∧ m < 2 ^ N3 c) f b ∧ (∀ q, q ≠ 0 → q ≠ 2 → T q = M q) ∧ ∀ j, j ≠ 3 + t → T 0 j = M 0 j) ?_ _ (2 ^ N3 c) _ _ _ (FU_lt (by omega)) ⟨Nat.le_refl _, by rw [if_neg (by omega)], Or.inl ⟨rfl, fun m hm => by omega⟩, fun _ _ _ => rfl, fun _ _ => rfl⟩
    rintro d2 b x T g2 ⟨hd2, hx, hbb, hTn, hT0⟩ ih2
    by_cases h0 : d2 = 0
    · subst h0
      rw [if_pos rfl] at hx
      subst hx
      rw [if_pos (by decide), rd_n (by omega) (by decide), lt_d]
      have hA : (fun m => 0 ≤ m ∧ m < 2 ^ N3 c) = fun m => m < 2 ^ N3 c := by
        funext m
        exact propext ⟨fun z => z.2, fun z => ⟨Nat.zero_le _, z⟩⟩
      rw [hA] at hbb
      refine ⟨w3 T 0 (3 + t) (M 0 (3 + t)), by rw [hbb.u (bst_BB hfb _)], fun q hq => ?_⟩
      by_cases hq0 : q = 0
      · subst hq0
        funext j
        by_cases hj : j = 3 + t
        · rw [hj, w3_e]
        · rw [w3_o hj, hT0 j hj]
      · rw [w3_n hq0, hTn q hq0 hq]
    · obtain ⟨m, rfl⟩ : ∃ m, d2 = m + 1 := ⟨d2 - 1, by omega⟩
      rw [if_neg h0, Nat.add_sub_cancel] at hx
      subst hx
      obtain ⟨s1, s2⟩ := hstep ⟨m, by omega⟩ (by dsimp only; omega)
      dsimp only at s1 s2
      have hAm : ∀ q, (m ≤ q ∧ q < 2 ^ N3 c) ↔ (m + 1 ≤ q ∧ q < 2 ^ N3 c) ∨ q = m := fun q => by omega
      have hgo : ∀ b' T', BB (fun q => m ≤ q ∧ q < 2 ^ N3 c) f b' → (∀ q, q ≠ 0 → q ≠ 2 → T' q = M q) → (∀ j, j ≠ 3 + t → T' 0 j = M 0 j) → ∃ M', (if X3 c m = 0 then g2 b' (-1) T' else g2 b' ((X3 c m - 1) &&& X3 c (2 ^ N3 c - 1)) T') = some (bst f (2 ^ N3 c), M') ∧ FL2 M M' := by
        intro b' T' q1 q2 q3
        by_cases hm0 : m = 0
        · subst hm0
          rw [if_pos hX0]
          exact ih2 0 _ _ _ (Nat.lt_succ_self 0) ⟨Nat.zero_le _, by rw [if_pos rfl], q1, q2, q3⟩
        · obtain ⟨s3, s4⟩ := s2 hm0
          rw [if_neg s3, s4]
          exact ih2 m _ _ _ (Nat.lt_succ_self m) ⟨by omega, by rw [if_neg hm0], q1, q2, q3⟩
      have hxo : okS (X3 c m) := X3_ok hc8 hc0 hc7
      have hrs := X3_rs (m := m) hc8 hc0 hc7
      obtain ⟨z, ez, hz⟩ := parts_n (X3 c m) (G (20 + t) 1)
      obtain ⟨zo, zc⟩ := cnt_parts hxo hz
      have hcz := cnt_le z
      have hcx := cnt_le (X3 c m)
      rw [if_neg s1, rd_n (by omega) (by decide), hT0 t (by omega), gk8, ez, cb_s, count_n zo, cb_s, count_n hxo, cb_s, jn_d]
      dsimp only
      have hUL := UL_unl (ks := G (20 + t) 1) (m := m) hLs
      rw [← hrs] at hUL
      have hnof : ¬ Cf G u t (tl (nI c) 6) (ms (M 6 3)) m → f m = none := fun hn => by rw [hf]; exact okf_f hn
      by_cases hcc : cnt z = cnt (X3 c m)
      · have hun := zc.mp hcc
        have hUL2 := hUL.mp hun
        rw [if_pos (by rw [hcc]), rd_n (by omega) (by decide), lt_d]
        obtain ⟨W, eW⟩ : ∃ W, W = w3 T 0 (3 + t) (X3 c m) := ⟨_, rfl⟩
        have Wn : ∀ q, q ≠ 0 → q ≠ 2 → W q = M q := fun q a b => by rw [eW, w3_n a]; exact hTn q a b
        have We : W 0 (3 + t) = X3 c m := by rw [eW, w3_e]
        have Wo : ∀ j, j ≠ 3 + t → W 0 j = M 0 j := fun j hj => by rw [eW, w3_o hj]; exact hT0 j hj
        have hTb : (fun t' => ms (W 0 (3 + t'))) = up (TbM M) t (ms (X3 c m)) := by
          funext t'
          by_cases e : t' = t
          · subst e
            rw [up_s, We]
          · rw [up_n e, Wo _ (by omega)]
            rfl
        have hRlen := rs_len (L := tl (nI c) 6) (x := nI m) (tl (nI c) 6).length
        have hFR : FT G t (ms (X3 c m)) := by
          refine ⟨by rw [hrs]; omega, ms_srt _, fun q hq => ?_, hun⟩
          rw [hrs] at hq
          obtain ⟨i, hi, -, rfl⟩ := (rs_mem _).mp hq
          rw [hcs]
          exact hLv _ (gl_mem hi)
        have hT' : ∀ t', t' < nt → FT G t' (up (TbM M) t (ms (X3 c m)) t') := fun t' ht' => by
          by_cases e : t' = t
          · subst e
            rw [up_s]
            exact hFR
          · rw [up_n e]
            exact hT t' ht'
        obtain ⟨L', eL, fL, vL⟩ := lay_n (M := W) (G := G) (nt := nt) (nv := nv) hO hsm (fun t' ht' => by
          by_cases e : t' = t
          · subst e
            rw [We]
            exact hxo
          · rw [Wo _ (by omega)]
            exact hok t' ht') (fun t' ht' => by
          have := hT' t' ht'
          rw [← hTb] at this
          exact this) (fun v hv => (hK v hv).fr (by rw [Wn 1 (by decide) (by decide)])) (by rw [Wn 6 (by decide) (by decide)]; exact h61)
        rw [hTb] at vL
        have Ln : ∀ q, q ≠ 0 → q ≠ 2 → L' q = M q := fun q a b => (fL q b).trans (Wn q a b)
        have Lo : ∀ j, j ≠ 3 + t → L' 0 j = M 0 j := fun j hj => by rw [fL 0 (by decide)]; exact Wo j hj
        rw [← eW, eL, cb_s, count_n (okS_x hxo (hok t ht)), cb_s, show (2 : Int32) = nI 2 from rfl, rd_n (by decide) (by decide), Ln 6 (by decide) (by decide), hD.2.2.1, nI_pred, rd_n (by omega) (by decide), show (3 : Int32) = nI 3 from rfl, rd_n (by decide) (by decide)]
        have hIs := vL u hu
        have hsh := shows_n (D := ms (M 6 3)) hO hT' ht hu hmk hDs
        have hR3 : (∀ r, r ∈ ms (X3 c m) → sn G (u + 1) u r = true → pt (G u 1) r ∈ ms (M 6 3)) ↔ ∀ i, i < (tl (nI c) 6).length → bq (nI m) i = true → sn G (u + 1) u (gl (tl (nI c) 6) i) = true → pt (G u 1) (gl (tl (nI c) 6) i) ∈ ms (M 6 3) := by
          rw [hrs]
          constructor
          · intro h i hi bi si
            exact h _ ((rs_mem _).mpr ⟨i, hi, bi, rfl⟩) si
          · intro h r hr si
            obtain ⟨i, hi, bi, rfl⟩ := (rs_mem _).mp hr
            exact h i hi bi si
        have hcnt := rs_cnt (L := tl (nI c) 6) (x := nI m) hLs (p := sn G (u + 1) u) (tl (nI c) 6).length (Nat.le_refl _)
        rw [← hrs] at hcnt
        rw [up_s, hR3, hcnt] at hsh
        have hveq : L' 2 u = M 6 3 ↔ VV G (up (TbM M) t (ms (X3 c m))) u = ms (M 6 3) := by
          constructor
          · intro he
            rw [← hIs.2, he]
          · intro he
            exact ms_ext hIs.1 hD.2.2.2.1 (hIs.2.trans he)
        have hdn := dif_n (m := m) hLs (Srt_nodup hFt.2.1) hsub
        rw [← hrs] at hdn
        have hdx : cnt (X3 c m ^^^ M 0 (3 + t)) = dif (tl (nI c) 6) (TbM M t) m := by
          rw [cnt_x, ← hdn, Nat.add_comm]
          rfl
        by_cases hv : L' 2 u = M 6 3
        · rw [if_pos hv]
          obtain ⟨c3, c4⟩ := hsh.mp (hveq.mp hv)
          have hC : Cf G u t (tl (nI c) 6) (ms (M 6 3)) m := ⟨fun i hi hl => (hi_n ⟨N3 c, by omega⟩ ⟨m, by omega⟩).mp (by dsimp only; omega) ⟨i, hi⟩ (by dsimp only; omega), hUL2, c3, c4⟩
          have hfm : f m = some (dif (tl (nI c) 6) (TbM M t) m) := by rw [hf]; exact okf_t hC
          have hy := (hbb.yes hAm hfm (hfb m _ hfm)).1
          rw [hdx]
          by_cases hb0 : b < 0
          · rw [if_pos hb0]
            rw [if_pos hb0] at hy
            exact hgo _ _ hy Ln Lo
          · rw [if_neg hb0]
            rw [if_neg hb0] at hy
            by_cases hb1 : b ≤ nI (dif (tl (nI c) 6) (TbM M t) m)
            · rw [if_pos hb1]
              rw [if_pos hb1] at hy
              exact hgo _ _ hy Ln Lo
            · rw [if_neg hb1]
              rw [if_neg hb1] at hy
              exact hgo _ _ hy Ln Lo
        · rw [if_neg hv]
          exact hgo _ _ (hbb.no hAm (hnof fun hC => hv (hveq.mpr (hsh.mpr ⟨hC.2.2.1, hC.2.2.2⟩)))) Ln Lo
      · rw [if_neg (fun e => hcc ((nI_eq (by omega) (by omega)).mp e))]
        exact hgo _ _ (hbb.no hAm (hnof fun hC => hcc (zc.mpr (hUL.mpr hC.2.1)))) hTn hT0
  · have hr27 : r < 27 := by omega
    rw [if_neg (show ¬ (27 : Int32) ≤ nI r from nI_ge (b := 27) hr27 (by decide)), part3_n hr27, cb_s, nI_1]
    have hp := p3_lt (s := nI c) hr27
    by_cases he : p3 (nI c) r = r
    · rw [if_pos (by rw [he])]
      refine ih (d - 1) _ _ (by omega) ⟨r + 1, by omega, rfl, fun i hi => ?_⟩
      rw [bt_set (by omega) hi, Bool.or_eq_true, decide_eq_true_eq, ha i hi]
      constructor
      · rintro (⟨h1, h2⟩ | rfl)
        · exact ⟨by omega, h2⟩
        · exact ⟨by omega, he⟩
      · rintro ⟨h1, h2⟩
        by_cases e : i = r
        · exact Or.inr e
        · exact Or.inl ⟨by omega, h2⟩
    · rw [if_neg (fun e => he ((nI_eq (by omega) (by omega)).mp e))]
      refine ih (d - 1) _ _ (by omega) ⟨r + 1, by omega, rfl, fun i hi => ?_⟩
      rw [ha i hi]
      constructor
      · rintro ⟨h1, h2⟩
        exact ⟨by omega, h2⟩
      · rintro ⟨h1, h2⟩
        refine ⟨?_, h2⟩
        by_cases e : i = r
        · subst e
          exact absurd h2 he
        · omega
