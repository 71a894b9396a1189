/-! ===== the law's tables ===== -/
theorem tk_d : ∀ c : Fin 8, c.1 ≠ 0 → ¬ nI c.1 < 1 ∧ ¬ 63 < nI c.1 ∧ ¬ (nI (c.1 + 8) &&& (nI c.1 ^^^ (-1))) = 0 ∧ ¬ ((-1 : Int32) &&& (nI c.1 ^^^ (-1))) = 0 := by decide +kernel
theorem tw_d : ∀ c k : Fin 8, ((nI c.1 + (8 : Int32) * nI k.1) &&& 7) = nI c.1 ∧ ((nI c.1 + (8 : Int32) * nI k.1) >>> ((3 : Int32) &&& 31)) = nI k.1 := by decide +kernel
theorem and_out {x y : Int32} : ((x &&& y) &&& (y ^^^ (-1))) = 0 := bt_ext fun i hi => by
  rw [bt_and hi, bt_and hi, bt_not hi, bt_0 hi]
  cases bt x i <;> cases bt y i <;> rfl
theorem ktab_b {S : St} {G : Gt} {nt nv : Nat} {M : Lt} {x1 x2 : Int32} (h : RQ (S, G, nt, nv) M) (hb : x1 < 1 ∨ 63 < x1 ∨ x2 = 0 ∨ ¬ (x2 &&& (x1 ^^^ (-1))) = 0) : k_table x1 x2 (S, G, nt, nv) = some (-7200, (S, G, nt, nv)) := by
  have e : d10_table G nt nv x1 x2 S = some (1, 0, S, G, nt, nv) := by
    unfold d10_table
    by_cases h1 : x1 < 1
    · rw [if_pos h1]
    · rw [if_neg h1]
      by_cases h2 : 63 < x1
      · rw [if_pos h2]
      · rw [if_neg h2]
        by_cases h3 : x2 = 0
        · rw [if_pos h3]
        · rw [if_neg h3, if_neg (((hb.resolve_left h1).resolve_left h2).resolve_left h3)]
  unfold k_table
  dsimp only
  rw [gp_i (show SX S nt nv from h.1), e]
  rfl
theorem ktab_3 {S : St} {G : Gt} {nv c : Nat} {M : Lt} {x2 : Int32} (h : RQ (S, G, 3, nv) M) (hc0 : c ≠ 0) (hc8 : c < 8) (h0 : x2 ≠ 0) (hs : (x2 &&& (nI c ^^^ (-1))) = 0) : k_table (nI c) x2 (S, G, 3, nv) = some (-7300, (S, G, 3, nv)) := by
  obtain ⟨q1, q2, -⟩ := tk_d ⟨c, hc8⟩ hc0
  have h42 : S.1 42 = nI 3 := h.s43.2.2.1
  unfold k_table d10_table
  dsimp only
  rw [gp_i (show SX S 3 nv from h.1), if_neg q1, if_neg q2, if_neg h0, if_pos hs, h42, if_neg (by decide)]
  rfl
theorem RQ.of {S : St} {G : Gt} {nt nv : Nat} {M : Lt} (h1 : SX S nt nv) (h2 : RLt G nt nv M) (h3 : RLb G nt nv S M) (h4 : RLd G nv S M) (h5 : RLu G nt S M) : RQ (S, G, nt, nv) M := ⟨h1, h2, h3, h4, h5⟩
theorem RQ.nt {S : St} {G : Gt} {nt nv c k : Nat} {M : Lt} (h : RQ (S, G, nt, nv) M) (hnt : nt < 3) (hc0 : 0 < c) (hc8 : c < 8) (hk8 : k < 8) (hsub : sub (nI k) (nI c)) : RQ (w1 (w1 (nTS S nt) 56 (nI (nt + 1))) 42 (nI (nt + 1)), nTG G nt (gL [nI c, nI k]), nt + 1, nv) (w3 (w3 (w3 M 0 nt (nI c + (8 : Int32) * nI k)) 0 (3 + nt) 0) 6 0 (nI (nt + 1))) := by
  have hb := h.b
  obtain ⟨⟨a1, a2, a3, a4, a5⟩, ⟨⟨hG, hA, hS⟩, g2, g7, gv, gt⟩, ⟨hB, hz, hV⟩, hD, nu, u1, u2, u3, u4⟩ := h
  dsimp only at a1 a2 a3 a4 a5 hG hA hS g2 g7 gv gt hB hz hV hD u2 u4
  obtain ⟨d1, d2⟩ := tw_d ⟨c, hc8⟩ ⟨k, hk8⟩
  dsimp only at d1 d2
  obtain ⟨M', eM'⟩ : ∃ M', M' = w3 (w3 (w3 M 0 nt (nI c + (8 : Int32) * nI k)) 0 (3 + nt) 0) 6 0 (nI (nt + 1)) := ⟨_, rfl⟩
  rw [← eM']
  have mn : ∀ q, q ≠ 0 → q ≠ 6 → M' q = M q := fun q a b => by rw [eM', w3_n b, w3_n a, w3_n a]
  have m6 : ∀ j, j ≠ 0 → M' 6 j = M 6 j := fun j a => by rw [eM', w3_o a, w3_n (by decide), w3_n (by decide)]
  have m60 : M' 6 0 = nI (nt + 1) := by rw [eM', w3_e]
  have m0 : ∀ j, j ≠ nt → j ≠ 3 + nt → M' 0 j = M 0 j := fun j a b => by rw [eM', w3_n (by decide), w3_o b, w3_o a]
  have m0n : M' 0 nt = nI c + (8 : Int32) * nI k := by rw [eM', w3_n (by decide), w3_o (by omega), w3_e]
  have m0z : M' 0 (3 + nt) = 0 := by rw [eM', w3_n (by decide), w3_e]
  have s1 : ∀ q, q ≠ 42 → q ≠ 56 → (q < 1 + 7 * nt ∨ 8 + 7 * nt ≤ q) → (w1 (w1 (nTS S nt) 56 (nI (nt + 1))) 42 (nI (nt + 1))).1 q = S.1 q := fun q p p2 r => by
    rw [w1_ne p, w1_ne p2]
    exact if_neg (by omega)
  have s2 : ∀ q, (q < 1 + 7 * nt ∨ 8 + 7 * nt ≤ q) → (w1 (w1 (nTS S nt) 56 (nI (nt + 1))) 42 (nI (nt + 1))).2 q = S.2 q := fun q r => if_neg (by omega)
  have s3 : ∀ q, 1 + 7 * nt ≤ q → q < 8 + 7 * nt → Rw (w1 (w1 (nTS S nt) 56 (nI (nt + 1))) 42 (nI (nt + 1))) q [] := fun q p p2 => by
    refine ⟨?_, Nat.zero_le _, Sg_nil, okL_nil⟩
    rw [w1_ne (by omega), w1_ne (by omega)]
    exact if_pos ⟨p, p2⟩
  have hGv : ∀ v, v < nv → nTG G nt (gL [nI c, nI k]) v = G v := fun v hv => nTG_n (by omega)
  have hGt : ∀ t, t < nt → nTG G nt (gL [nI c, nI k]) (20 + t) = G (20 + t) := fun t ht => nTG_n (by omega)
  have hTb : ∀ t, t < nt → TbM M' t = TbM M t := fun t ht => by
    unfold TbM
    rw [m0 _ (by omega) (by omega)]
  have hcg : ∀ v, v < nv → VV (nTG G nt (gL [nI c, nI k])) (TbM M') v = VV G (TbM M) v := fun v hv => VV_cg hG hGv hTb (v + 1) v (Nat.lt_succ_self v) hv (v + 1) (Nat.lt_succ_self v)
  refine RQ.of ⟨?_, ?_, ?_, ?_, ?_⟩ ⟨⟨⟨⟨by omega, hb.2⟩, fun v hv => WV_cg (hG.2 v hv) (hGv v hv) (by omega)⟩, fun v hv => ?_, fun v hv => by rw [hGv v hv]; exact hS v hv⟩, m60, (m6 1 (by decide)).trans g7, fun v hv => ?_, fun t ht => ?_⟩ ⟨fun t ht => ?_, fun t p q => ?_, fun v hv => ?_⟩ ?_ ⟨nu, u1, ?_, (m6 6 (by decide)).trans u3, fun j hj t ht => ?_⟩
  · rw [w1_ne (by decide), w1_eq]
  · rw [s1 55 (by decide) (by decide) (by omega)]; exact a2
  · rw [w1_eq]
  · rw [s1 43 (by decide) (by decide) (by omega)]; exact a4
  · rw [s1 44 (by decide) (by decide) (by omega)]; exact a5
  · refine GA_cg (hA v hv) (hGv v hv) (fun h6 => ?_) (fun h6 => ?_) (fun h6 => ?_)
    · have := (hG.L' hv h6).2
      exact hGv _ (by omega)
    · have := (hG.R' hv h6).2
      exact hGv _ (by omega)
    · exact hGt _ (hG.T' hv h6).2
  · obtain ⟨b1, b2, b3, b4⟩ := gv v hv
    refine ⟨?_, ?_, by rw [hGv v hv]; exact b3, fun q hq hbq => ?_⟩
    · have b1 := b1.fr (M' := M') (by rw [mn 1 (by decide) (by decide)])
      unfold KW at b1 ⊢
      rw [hGv v hv]
      exact b1
    · unfold SmV at b2 ⊢
      rw [hGv v hv]
      exact b2
    · rw [hGv v hv] at hbq
      have := b4 q hq hbq
      show q < nt + 1
      omega
  · have ht1 : t < nt + 1 := ht
    by_cases htn : t = nt
    · subst htn
      rw [nTG_s, m0n]
      exact ⟨d1, d2, hsub, ⟨c, hc0, hc8, rfl⟩, k, hk8, rfl⟩
    · rw [hGt t (by omega), m0 t htn (by omega)]
      exact gt t (by omega)
  · have ht1 : t < nt + 1 := ht
    by_cases htn : t = nt
    · subst htn
      have e : TbM M' t = [] := by
        unfold TbM
        rw [m0z]
        exact ms_0
      show okS (M' 0 (3 + t)) ∧ Rw _ (1 + 7 * t) (TbM M' t) ∧ FT _ t (TbM M' t)
      rw [e, m0z]
      exact ⟨okS_0, s3 _ (by omega) (by omega), FT_nil⟩
    · obtain ⟨b1, b2, b3⟩ := hB t (by omega)
      show okS (M' 0 (3 + t)) ∧ Rw _ (1 + 7 * t) (TbM M' t) ∧ FT _ t (TbM M' t)
      rw [hTb t (by omega), m0 _ (by omega) (by omega)]
      exact ⟨b1, b2.fr (s1 _ (by omega) (by omega) (by omega)) (s2 _ (by omega)), FT_cg b3 (hGt t (by omega))⟩
  · have p1 : nt + 1 ≤ t := p
    show M' 0 (3 + t) = 0
    rw [m0 _ (by omega) (by omega)]
    exact hz t (by omega) q
  · have hv1 : v < nv := hv
    show Rw _ (22 + 2 * v) (VV _ (TbM M') v)
    rw [hcg v hv]
    exact (hV v hv).fr (s1 _ (by omega) (by omega) (by omega)) (s2 _ (by omega))
  · rcases hD with ⟨q1, q2⟩ | ⟨u, q1, q2, q3, q4, q5, q6⟩
    · exact Or.inl ⟨(s1 44 (by decide) (by decide) (by omega)).trans q1, (m6 2 (by decide)).trans q2⟩
    · refine Or.inr ⟨u, q1, (s1 44 (by decide) (by decide) (by omega)).trans q2, (m6 2 (by decide)).trans q3, by rw [m6 3 (by decide)]; exact q4, by rw [m6 3 (by decide)]; exact q5.fr (s1 0 (by decide) (by decide) (by omega)) (s2 0 (by omega)), by
        rw [m6 3 (by decide)]
        show ∀ r, r ∈ ms (M 6 3) → pt (nTG G nt (gL [nI c, nI k]) u 1) r = r
        rw [hGv u q1]
        exact q6⟩
  · exact (s1 45 (by decide) (by decide) (by omega)).trans u2
  · obtain ⟨e1, e2, e3⟩ := u4 j hj t ht
    rw [mn 5 (by decide) (by decide)]
    refine ⟨e1, fun htn => ?_, fun htn => e3 (by have : nt + 1 ≤ t := htn; omega)⟩
    have htn1 : t < nt + 1 := htn
    by_cases hte : t = nt
    · subst hte
      rw [e3 (Nat.le_refl _), ms_0]
      exact ⟨s3 _ (by omega) (by omega), FT_nil⟩
    · obtain ⟨e5, e6⟩ := e2 (by omega)
      exact ⟨e5.fr (s1 _ (by omega) (by omega) (by omega)) (s2 _ (by omega)), FT_cg e6 (hGt t (by omega))⟩
theorem ktab_i {S : St} {G : Gt} {nt nv c k : Nat} {M : Lt} (h : RQ (S, G, nt, nv) M) (hnt : nt < 3) (hc0 : c ≠ 0) (hc8 : c < 8) (hk0 : k ≠ 0) (hk8 : k < 8) (hs : (nI k &&& (nI c ^^^ (-1))) = 0) : k_table (nI c) (nI k) (S, G, nt, nv) = some (nI nt, (w1 (w1 (nTS S nt) 56 (nI (nt + 1))) 42 (nI (nt + 1)), nTG G nt (gL [nI c, nI k]), nt + 1, nv)) := by
  obtain ⟨q1, q2, -⟩ := tk_d ⟨c, hc8⟩ hc0
  have h42 : S.1 42 = nI nt := h.s43.2.2.1
  have e42 : (w1 (nTS S nt) 56 (nI (nt + 1))).1 42 = nI nt := by
    rw [w1_ne (by decide)]
    exact (if_neg (by omega)).trans h42
  unfold k_table d10_table
  dsimp only
  rw [gp_i (show SX S nt nv from h.1), if_neg q1, if_neg q2, if_neg (nI_ne0 (by omega) (by omega)), if_pos hs, h42, if_pos (show nI nt < (3 : Int32) from nI_lt (b := 3) hnt (by decide)), gd_t hnt]
  unfold d10_tableT
  rw [lt_d, e42, nI_1, w1_eq, nI_pred]
  rfl
noncomputable def pt0 (z156 : Int32) (T : Tt) (x161 : Int32) : Option (Int32 × Tt) := gd (T.2.2 + 1 ≤ 16) <| cb2 (k_table 0 0 T.1) fun (z163 : Int32) (C165 : Cs) => lt (tc T C165) fun (S166 : Tt) => if z163 = (-7200) then (gd (S166.2.2 + 1 ≤ 16) <| cb2 (k_table 64 1 S166.1) fun (z169 : Int32) (C171 : Cs) => lt (tc S166 C171) fun (S172 : Tt) => if z169 = (-7200) then (gd (S172.2.2 + 1 ≤ 16) <| cb2 (k_table ((1 : Int32) + z156) 0 S172.1) fun (z175 : Int32) (C177 : Cs) => lt (tc S172 C177) fun (S178 : Tt) => if z175 = (-7200) then (gd (S178.2.2 + 1 ≤ 16) <| cb2 (k_table ((1 : Int32) + z156) (((1 : Int32) + z156) + 8) S178.1) fun (z181 : Int32) (C183 : Cs) => lt (tc S178 C183) fun (S184 : Tt) => if z181 = (-7200) then (gd (S184.2.2 + 1 ≤ 16) <| cb2 (k_table ((1 : Int32) + z156) (-1) S184.1) fun (z187 : Int32) (C189 : Cs) => lt (tc S184 C189) fun (S190 : Tt) => if z187 = (-7200) then (if x161 = 0 then (gd (S190.2.2 + 1 ≤ 16) <| cb2 (k_table ((1 : Int32) + z156) x161 S190.1) fun (z227 : Int32) (C229 : Cs) => lt (tc S190 C229) fun (S230 : Tt) => if z227 = (-7200) then (gd (S230.2.2 ≤ 16) <| some ((1 : Int32), S230)) else (gd (S230.2.2 ≤ 16) <| some ((0 : Int32), S230))) else (rd 0 7 fun (j193 : Nat) => if (S190.2.1 6 j193) = 3 then (gd (S190.2.2 + 1 ≤ 16) <| cb2 (k_table ((1 : Int32) + z156) x161 S190.1) fun (z220 : Int32) (C222 : Cs) => lt (tc S190 C222) fun (S223 : Tt) => if z220 = (-7300) then (gd (S223.2.2 ≤ 16) <| some ((1 : Int32), S223)) else (gd (S223.2.2 ≤ 16) <| some ((0 : Int32), S223))) else (rd 0 7 fun (j196 : Nat) => rd (S190.2.1 6 j196) 6 fun (j198 : Nat) => lt (tw S190 0 j198 (((1 : Int32) + z156) + ((8 : Int32) * x161))) fun (S200 : Tt) => rd 0 7 fun (j201 : Nat) => rd ((3 : Int32) + (S200.2.1 6 j201)) 6 fun (j203 : Nat) => lt (tw S200 0 j203 0) fun (S205 : Tt) => rd 0 7 fun (j206 : Nat) => rd 0 7 fun (j208 : Nat) => lt (tw S205 6 j208 ((S205.2.1 6 j206) + 1)) fun (S210 : Tt) => gd (S210.2.2 + 1 ≤ 16) <| cb2 (k_table ((1 : Int32) + z156) x161 S210.1) fun (z211 : Int32) (C213 : Cs) => lt (tc S210 C213) fun (S214 : Tt) => rd 0 7 fun (j215 : Nat) => if z211 = ((S214.2.1 6 j215) - 1) then (gd (S214.2.2 ≤ 16) <| some ((1 : Int32), S214)) else (gd (S214.2.2 ≤ 16) <| some ((0 : Int32), S214))))) else (gd (S190.2.2 ≤ 16) <| some ((0 : Int32), S190))) else (gd (S184.2.2 ≤ 16) <| some ((0 : Int32), S184))) else (gd (S178.2.2 ≤ 16) <| some ((0 : Int32), S178))) else (gd (S172.2.2 ≤ 16) <| some ((0 : Int32), S172))) else (gd (S166.2.2 ≤ 16) <| some ((0 : Int32), S166))
def ptI (z11 z20 x26 : Int32) (T : Tt) : Option (Int32 × Tt) := gd (T.2.2 + 1 ≤ 16) <| cb2 (k_insert z11 (-1) T.1) fun (z65 : Int32) (C67 : Cs) => lt (tc T C67) fun (S68 : Tt) => if z65 = (-7200) then (gd (S68.2.2 + 1 ≤ 16) <| cb2 (k_insert z11 1000000 S68.1) fun (z71 : Int32) (C73 : Cs) => lt (tc S68 C73) fun (S74 : Tt) => if z71 = (-7200) then (gd (S74.2.2 + 1 ≤ 16) <| cb2 (k_insert z11 1000 S74.1) fun (z77 : Int32) (C79 : Cs) => lt (tc S74 C79) fun (S80 : Tt) => if z77 = (-7200) then (if x26 = 0 then (gd (S80.2.2 ≤ 16) <| cb (l_number z20) fun (z123 : Int32) => gd (S80.2.2 + 1 ≤ 16) <| cb2 (k_insert z11 z123 S80.1) fun (z125 : Int32) (C127 : Cs) => lt (tc S80 C127) fun (S128 : Tt) => if z125 = (-7200) then (gd (S128.2.2 ≤ 16) <| some ((1 : Int32), S128)) else (gd (S128.2.2 ≤ 16) <| some ((0 : Int32), S128))) else (rd ((3 : Int32) + z11) 6 fun (j83 : Nat) => rd z11 6 fun (j85 : Nat) => gd (S80.2.2 ≤ 16) <| cb (l_like ((1 : Int32) <<< (z20 &&& 31)) (S80.2.1 0 j83) ((S80.2.1 0 j85) >>> ((3 : Int32) &&& 31)) 1) fun (z87 : Int32) => jn (gd (S80.2.2 ≤ 16) <| cb (l_number z20) fun (z90 : Int32) => gd (S80.2.2 + 1 ≤ 16) <| cb2 (k_insert z11 z90 S80.1) fun (z92 : Int32) (C94 : Cs) => lt (tc S80 C94) fun (S95 : Tt) => if z92 = (-7300) then (gd (S95.2.2 ≤ 16) <| some ((1 : Int32), S95)) else (gd (S95.2.2 ≤ 16) <| some ((0 : Int32), S95))) fun k89 => if z87 = 0 then (rd ((3 : Int32) + z11) 6 fun (j100 : Nat) => gd (S80.2.2 ≤ 16) <| cb (l_count (S80.2.1 0 j100)) fun (z102 : Int32) => if z102 = 12 then (k89) else (rd ((3 : Int32) + z11) 6 fun (j105 : Nat) => rd ((3 : Int32) + z11) 6 fun (j107 : Nat) => lt (tw S80 0 j107 ((S80.2.1 0 j105) ||| ((1 : Int32) <<< (z20 &&& 31)))) fun (S109 : Tt) => gd (S109.2.2 ≤ 16) <| cb (l_number z20) fun (z110 : Int32) => gd (S109.2.2 + 1 ≤ 16) <| cb2 (k_insert z11 z110 S109.1) fun (z112 : Int32) (C114 : Cs) => lt (tc S109 C114) fun (S115 : Tt) => rd ((3 : Int32) + z11) 6 fun (j116 : Nat) => gd (S115.2.2 ≤ 16) <| cb (l_count (S115.2.1 0 j116)) fun (z118 : Int32) => if z112 = z118 then (gd (S115.2.2 ≤ 16) <| some ((1 : Int32), S115)) else (gd (S115.2.2 ≤ 16) <| some ((0 : Int32), S115)))) else (k89))) else (gd (S80.2.2 ≤ 16) <| some ((0 : Int32), S80))) else (gd (S74.2.2 ≤ 16) <| some ((0 : Int32), S74))) else (gd (S68.2.2 ≤ 16) <| some ((0 : Int32), S68))
def ptD (z11 z20 : Int32) (T : Tt) : Option (Int32 × Tt) := rd ((3 : Int32) + z11) 6 fun (j29 : Nat) => if (((T.2.1 0 j29) >>> (z20 &&& 31)) &&& 1) = 0 then (gd (T.2.2 ≤ 16) <| cb (l_number z20) fun (z50 : Int32) => gd (T.2.2 + 1 ≤ 16) <| cb2 (k_delete z11 z50 T.1) fun (z52 : Int32) (C54 : Cs) => lt (tc T C54) fun (S55 : Tt) => if z52 = (-7400) then (gd (S55.2.2 + 1 ≤ 16) <| cb2 (k_delete z11 (-1) S55.1) fun (z58 : Int32) (C60 : Cs) => lt (tc S55 C60) fun (S61 : Tt) => if z58 = (-7400) then (gd (S61.2.2 ≤ 16) <| some ((1 : Int32), S61)) else (gd (S61.2.2 ≤ 16) <| some ((0 : Int32), S61))) else (gd (S55.2.2 ≤ 16) <| some ((0 : Int32), S55))) else (rd ((3 : Int32) + z11) 6 fun (j32 : Nat) => rd ((3 : Int32) + z11) 6 fun (j34 : Nat) => lt (tw T 0 j34 ((T.2.1 0 j32) &&& (((1 : Int32) <<< (z20 &&& 31)) ^^^ (-1)))) fun (S36 : Tt) => gd (S36.2.2 ≤ 16) <| cb (l_number z20) fun (z37 : Int32) => gd (S36.2.2 + 1 ≤ 16) <| cb2 (k_delete z11 z37 S36.1) fun (z39 : Int32) (C41 : Cs) => lt (tc S36 C41) fun (S42 : Tt) => rd ((3 : Int32) + z11) 6 fun (j43 : Nat) => gd (S42.2.2 ≤ 16) <| cb (l_count (S42.2.1 0 j43)) fun (z45 : Int32) => if z39 = z45 then (gd (S42.2.2 ≤ 16) <| some ((1 : Int32), S42)) else (gd (S42.2.2 ≤ 16) <| some ((0 : Int32), S42)))
theorem ptb_d {x2 x3 x4 : Int32} {T : Tt} : p_tables x2 x3 x4 T = if x2 = 0 then (gd (T.2.2 ≤ 16) <| cb (l_low x3 7) fun (z156 : Int32) => gd (T.2.2 ≤ 16) <| cb (l_low x4 3) fun (z158 : Int32) => lt (((1 : Int32) <<< (z158 &&& 31)) &&& ((1 : Int32) + z156)) fun (x160 : Int32) => jn (pt0 z156 T) fun k162 => if (x4 &&& 48) = 0 then (gd (T.2.2 ≤ 16) <| cb (l_low (x4 >>> ((6 : Int32) &&& 31)) 7) fun (z236 : Int32) => lt (((1 : Int32) + z156) &&& ((1 : Int32) + z236)) fun (x238 : Int32) => k162 x238) else (k162 x160)) else (rd 0 7 fun (j9 : Nat) => gd (T.2.2 ≤ 16) <| cb (l_low x3 ((T.2.1 6 j9) + 1)) fun (z11 : Int32) => rd 0 7 fun (j13 : Nat) => if z11 = (T.2.1 6 j13) then (gd (T.2.2 + 1 ≤ 16) <| cb2 (k_insert z11 0 T.1) fun (z137 : Int32) (C139 : Cs) => lt (tc T C139) fun (S140 : Tt) => if z137 = (-7100) then (gd (S140.2.2 + 1 ≤ 16) <| cb2 (k_delete z11 0 S140.1) fun (z143 : Int32) (C145 : Cs) => lt (tc S140 C145) fun (S146 : Tt) => if z143 = (-7100) then (gd (S146.2.2 + 1 ≤ 16) <| cb2 (k_insert (-1) (-1) S146.1) fun (z149 : Int32) (C151 : Cs) => lt (tc S146 C151) fun (S152 : Tt) => if z149 = (-7100) then (gd (S152.2.2 ≤ 16) <| some ((1 : Int32), S152)) else (gd (S152.2.2 ≤ 16) <| some ((0 : Int32), S152))) else (gd (S146.2.2 ≤ 16) <| some ((0 : Int32), S146))) else (gd (S140.2.2 ≤ 16) <| some ((0 : Int32), S140))) else (gd (T.2.2 ≤ 16) <| cb (l_low x4 27) fun (z16 : Int32) => jn (fun (x18 : Int32) => gd (T.2.2 ≤ 16) <| cb (l_part z16 x18) fun (z20 : Int32) => rd z11 6 fun (j22 : Nat) => gd (T.2.2 ≤ 16) <| cb (l_part z20 ((T.2.1 0 j22) &&& 7)) fun (z24 : Int32) => jn (fun (x26 : Int32) => if x2 = 1 then ptI z11 z20 x26 T else ptD z11 z20 T) fun k27 => if z24 = z20 then (k27 1) else (k27 0)) fun k19 => if (x3 &&& 768) = 0 then (k19 7) else (rd z11 6 fun (j135 : Nat) => k19 ((T.2.1 0 j135) &&& 7)))) := rfl
theorem pt0_n {S : St} {G : Gt} {nt nv a k : Nat} {M : Lt} (h : RQ (S, G, nt, nv) M) (ha : a < 7) (hk8 : k < 8) (hs : (nI k &&& (nI (1 + a) ^^^ (-1))) = 0) : OKq (pt0 (nI a) ((S, G, nt, nv), M, 0) (nI k)) := by
  obtain ⟨hb3, hb10⟩ := h.b
  have h60 : M 6 0 = nI nt := h.2.1.2.1
  obtain ⟨q1, q2, q3, q4⟩ := tk_d ⟨1 + a, by omega⟩ (by dsimp only; omega)
  dsimp only at q1 q2 q3 q4
  have r0 : ∀ (f : Nat → Option (Int32 × Tt)), rd 0 7 f = f 0 := fun f => rd_n (j := 0) (by decide) (by decide)
  have e8 : (nI (1 + a) + 8 : Int32) = nI (1 + a + 8) := nI_add (1 + a) 8
  unfold pt0
  rw [show ((1 : Int32) + nI a) = nI (1 + a) from nI_add 1 a, e8, kcall (by omega) (ktab_b h (Or.inl (by decide))), if_pos rfl, kcall (by omega) (ktab_b h (Or.inr (Or.inl (by decide)))), if_pos rfl, kcall (by omega) (ktab_b h (Or.inr (Or.inr (Or.inl rfl)))), if_pos rfl, kcall (by omega) (ktab_b h (Or.inr (Or.inr (Or.inr q3)))), if_pos rfl, kcall (by omega) (ktab_b h (Or.inr (Or.inr (Or.inr q4)))), if_pos rfl]
  by_cases hk0 : k = 0
  · subst hk0
    rw [if_pos (show nI 0 = (0 : Int32) from rfl), kcall (by omega) (ktab_b (x2 := nI 0) h (Or.inr (Or.inr (Or.inl rfl)))), if_pos rfl, kend (by omega)]
    exact ⟨_, _, _, rfl, h⟩
  · rw [if_neg (nI_ne0 (by omega) (by omega)), r0]
    show OKq (if M 6 0 = 3 then _ else _)
    rw [h60]
    by_cases h3 : nt = 3
    · subst h3
      rw [if_pos (show nI 3 = (3 : Int32) from rfl), kcall (by omega) (ktab_3 h (by omega) (by omega) (nI_ne0 (by omega) (by omega)) hs), if_pos rfl, kend (by omega)]
      exact ⟨_, _, _, rfl, h⟩
    · have hnt : nt < 3 := by omega
      have hq := h.nt hnt (c := 1 + a) (k := k) (by omega) (by omega) hk8 (sub_and hs)
      rw [if_neg (show ¬ nI nt = (3 : Int32) from fun z => h3 ((nI_eq (b := 3) (by omega) (by decide)).mp z)), r0, hp1, h60, rd_n (by omega) (by decide), lt_d, htw, r0, hp1, w3_n (by decide), h60, show ((3 : Int32) + nI nt) = nI (3 + nt) from nI_add 3 nt, rd_n (by omega) (by decide), lt_d, htw, r0, r0, lt_d, htw, hp1, w3_n (by decide), w3_n (by decide), h60, nI_1, kcall (by omega) (ktab_i h hnt (by omega) (by omega) hk0 hk8 hs), r0, hp1, w3_e, nI_pred, if_pos rfl, kend (by omega)]
      exact ⟨_, _, _, rfl, hq⟩
