/-! ===== the class and the law's arrays: the relation; putting back, in both ===== -/
def TbM (M : Lt) : Nat → List Nat := fun t => ms (M 0 (3 + t))
def RLt (G : Gt) (nt nv : Nat) (M : Lt) : Prop := OKG G nt nv ∧ M 6 0 = nI nt ∧ M 6 1 = nI nv ∧ (∀ v, v < nv → KW G M v ∧ SmV G v ∧ G v 0 = nI v ∧ ∀ c, c < 32 → bt (G v 3) c = true → c < nt) ∧
  ∀ t, t < nt → (M 0 t &&& 7) = G (20 + t) 0 ∧ (M 0 t >>> ((3 : Int32) &&& 31)) = G (20 + t) 1 ∧ sub (G (20 + t) 1) (G (20 + t) 0) ∧ (∃ c, 0 < c ∧ c < 8 ∧ G (20 + t) 0 = nI c) ∧ ∃ c, c < 8 ∧ G (20 + t) 1 = nI c
def RLb (G : Gt) (nt nv : Nat) (S : St) (M : Lt) : Prop := (∀ t, t < nt → okS (M 0 (3 + t)) ∧ Rw S (1 + 7 * t) (TbM M t) ∧ FT G t (TbM M t)) ∧ (∀ t, nt ≤ t → t < 3 → M 0 (3 + t) = 0) ∧ ∀ v, v < nv → Rw S (22 + 2 * v) (VV G (TbM M) v)
def DL (G : Gt) (nv : Nat) (S : St) (M : Lt) (u : Nat) : Prop := u < nv ∧ S.1 44 = nI u ∧ M 6 2 = nI (u + 1) ∧ okS (M 6 3) ∧ Rw S 0 (ms (M 6 3)) ∧ ∀ r, r ∈ ms (M 6 3) → pt (G u 1) r = r
def RLd (G : Gt) (nv : Nat) (S : St) (M : Lt) : Prop := (S.1 44 = -1 ∧ M 6 2 = 0) ∨ ∃ u, DL G nv S M u
def RLu (G : Gt) (nt : Nat) (S : St) (M : Lt) : Prop := ∃ nu, nu ≤ 5 ∧ S.1 45 = nI nu ∧ M 6 6 = nI nu ∧ ∀ j, j < nu → ∀ t, t < 3 → okS (M 5 (3 * j + t)) ∧ (t < nt → Rw S (3 + 7 * t + j) (ms (M 5 (3 * j + t))) ∧ FT G t (ms (M 5 (3 * j + t)))) ∧ (nt ≤ t → M 5 (3 * j + t) = 0)
def RQ (C : Cs) (M : Lt) : Prop := SX C.1 C.2.2.1 C.2.2.2 ∧ RLt C.2.1 C.2.2.1 C.2.2.2 M ∧ RLb C.2.1 C.2.2.1 C.2.2.2 C.1 M ∧ RLd C.2.1 C.2.2.2 C.1 M ∧ RLu C.2.1 C.2.2.1 C.1 M
/-- all but the law's scratch -/
def FLs (M M' : Lt) : Prop := (∀ k, (k = 0 ∨ k = 1 ∨ k = 5) → M' k = M k) ∧ ∀ j, j ≠ 4 → j ≠ 5 → M' 6 j = M 6 j
theorem FLs.rf {M : Lt} : FLs M M := ⟨fun _ _ => rfl, fun _ _ _ => rfl⟩
theorem FLs.tr {M M1 M2 : Lt} (h1 : FLs M M1) (h2 : FLs M1 M2) : FLs M M2 := ⟨fun k hk => (h2.1 k hk).trans (h1.1 k hk), fun j a b => (h2.2 j a b).trans (h1.2 j a b)⟩
theorem FL2.s {M M' : Lt} (h : FL2 M M') : FLs M M' := ⟨fun k hk => h k (by omega), fun j _ _ => by rw [h 6 (by decide)]⟩
theorem TbM.fr {M M' : Lt} (h : M' 0 = M 0) : TbM M' = TbM M := by
  unfold TbM
  rw [h]
theorem RLt.fr {G : Gt} {nt nv : Nat} {M M' : Lt} (h : RLt G nt nv M) (hF : FLs M M') : RLt G nt nv M' := by
  obtain ⟨h1, h2, h3, h4, h5⟩ := h
  have e0 := hF.1 0 (by omega)
  have e1 := hF.1 1 (by omega)
  exact ⟨h1, (hF.2 0 (by decide) (by decide)).trans h2, (hF.2 1 (by decide) (by decide)).trans h3, fun v hv => ⟨(h4 v hv).1.fr (by rw [e1]), (h4 v hv).2⟩, fun t ht => by rw [e0]; exact h5 t ht⟩
theorem RLb.fr {G : Gt} {nt nv : Nat} {S : St} {M M' : Lt} (h : RLb G nt nv S M) (hF : FLs M M') : RLb G nt nv S M' := by
  have e0 := hF.1 0 (by omega)
  unfold RLb at h ⊢
  rw [TbM.fr e0, e0]
  exact h
theorem DL.fr {G : Gt} {nv u : Nat} {S : St} {M M' : Lt} (h : DL G nv S M u) (hF : FLs M M') : DL G nv S M' u := by
  unfold DL at h ⊢
  rw [hF.2 2 (by decide) (by decide), hF.2 3 (by decide) (by decide)]
  exact h
theorem RLd.fr {G : Gt} {nv : Nat} {S : St} {M M' : Lt} (h : RLd G nv S M) (hF : FLs M M') : RLd G nv S M' := by
  rcases h with ⟨h1, h2⟩ | ⟨u, h⟩
  · exact Or.inl ⟨h1, (hF.2 2 (by decide) (by decide)).trans h2⟩
  · exact Or.inr ⟨u, h.fr hF⟩
theorem RLu.fr {G : Gt} {nt : Nat} {S : St} {M M' : Lt} (h : RLu G nt S M) (hF : FLs M M') : RLu G nt S M' := by
  obtain ⟨nu, h1, h2, h3, h4⟩ := h
  exact ⟨nu, h1, h2, (hF.2 6 (by decide) (by decide)).trans h3, fun j hj t ht => by rw [hF.1 5 (by omega)]; exact h4 j hj t ht⟩
theorem RQ.fr {C : Cs} {M M' : Lt} (h : RQ C M) (hF : FLs M M') : RQ C M' := ⟨h.1, h.2.1.fr hF, h.2.2.1.fr hF, h.2.2.2.1.fr hF, h.2.2.2.2.fr hF⟩
theorem RQ.sc {S S' : St} {G : Gt} {nt nv : Nat} {M : Lt} (h : RQ (S, G, nt, nv) M) (hC : FrC S S') : RQ (S', G, nt, nv) M := by
  obtain ⟨h1, h2, h3, h4, h5⟩ := h
  have hb := h2.1.1.1
  have h1' : SX S nt nv := h1
  have h3' : RLb G nt nv S M := h3
  have h4' : RLd G nv S M := h4
  have h5' : RLu G nt S M := h5
  have ns : ∀ k, (k = 42 ∨ k = 43 ∨ k = 44 ∨ k = 45 ∨ k = 55 ∨ k = 56) → ¬ scr k := fun k hk => by unfold scr; omega
  have rw_ : ∀ i l, i < 42 → ¬ scr i → Rw S i l → Rw S' i l := fun i l hi hs q => q.fr (hC.1 i hs) (hC.2 i hi hs)
  have s1 : ∀ t, t < 3 → ¬ scr (1 + 7 * t) := fun t ht => by unfold scr; omega
  have s2 : ∀ t j, t < 3 → j < 5 → ¬ scr (3 + 7 * t + j) := fun t j ht hj => by unfold scr; omega
  have s3 : ∀ v, v < 10 → ¬ scr (22 + 2 * v) := fun v hv => by unfold scr; omega
  have hb2 : nt ≤ 3 ∧ nv ≤ 10 := hb
  refine ⟨h1'.fr (fun k hk => hC.1 k (ns k (by omega))), h2, ⟨fun t ht => ?_, h3'.2.1, fun v hv => rw_ _ _ (by have : v < nv := hv; omega) (s3 v (by have : v < nv := hv; omega)) (h3'.2.2 v hv)⟩, ?_, ?_⟩
  · have ht2 : t < nt := ht
    obtain ⟨q1, q2, q3⟩ := h3'.1 t ht
    exact ⟨q1, rw_ _ _ (by omega) (s1 t (by omega)) q2, q3⟩
  · rcases h4' with ⟨q1, q2⟩ | ⟨u, q1, q2, q3, q4, q5, q6⟩
    · exact Or.inl ⟨(hC.1 44 (ns 44 (by omega))).trans q1, q2⟩
    · exact Or.inr ⟨u, q1, (hC.1 44 (ns 44 (by omega))).trans q2, q3, q4, rw_ _ _ (by omega) (by unfold scr; omega) q5, q6⟩
  · obtain ⟨nu, q1, q2, q3, q4⟩ := h5'
    refine ⟨nu, q1, (hC.1 45 (ns 45 (by omega))).trans q2, q3, fun j hj t ht => ?_⟩
    obtain ⟨p1, p2, p3⟩ := q4 j hj t ht
    exact ⟨p1, fun z => ⟨rw_ _ _ (by omega) (s2 t j ht (by omega)) (p2 z).1, (p2 z).2⟩, p3⟩
theorem RQ.st {S : St} {G : Gt} {nt nv : Nat} {M : Lt} (h : RQ (S, G, nt, nv) M) : OKG G nt nv ∧ (∀ t, t < nt → FT G t (TbM M t)) ∧ (∀ t, t < nt → okS (M 0 (3 + t))) ∧ (∀ v, v < nv → KW G M v) ∧ (∀ v, v < nv → SmV G v) ∧ M 6 1 = nI nv :=
  ⟨h.2.1.1, fun t ht => (h.2.2.1.1 t ht).2.2, fun t ht => (h.2.2.1.1 t ht).1, fun v hv => (h.2.1.2.2.2.1 v hv).1, fun v hv => (h.2.1.2.2.2.1 v hv).2.1, h.2.1.2.2.1⟩
theorem RQ.b {S : St} {G : Gt} {nt nv : Nat} {M : Lt} (h : RQ (S, G, nt, nv) M) : nt ≤ 3 ∧ nv ≤ 10 := h.2.1.1.1.1
theorem RQ.lay {S : St} {G : Gt} {nt nv : Nat} {M : Lt} (h : RQ (S, G, nt, nv) M) : ∃ M', l_lay M = some M' ∧ FL2 M M' ∧ ∀ v, v < nv → Is (M' 2 v) (VV G (TbM M) v) := by
  obtain ⟨h1, h2, h3, h4, h5, h6⟩ := h.st
  exact lay_n h1 h5 h3 h2 h4 h6
theorem lput_n {S : St} {G : Gt} {nt nv u : Nat} {M : Lt} (h : RQ (S, G, nt, nv) M) (hD : DL G nv S M u) : ∃ S1 M1, d10_planPutBack G nt nv S = some S1 ∧ l_put M = some M1 ∧ FrC S S1 ∧ FLs M M1 ∧ CQ S1 M1 ∧ (∀ t, t < nt → okS (M1 4 t) ∧ Rw S1 (2 + 7 * t) (ms (M1 4 t)) ∧ FT G t (ms (M1 4 t))) ∧ (∀ t, nt ≤ t → t < 3 → M1 4 t = 0) ∧ (M1 6 4 = 0 → VV G (fun t => ms (M1 4 t)) u = ms (M 6 3)) := by
  obtain ⟨hb3, hb10⟩ := h.b
  obtain ⟨hO, hT, hok, hK, hsm, h61⟩ := h.st
  obtain ⟨L, eL, fL, vL⟩ := h.lay
  obtain ⟨hu, h44, h62, h63, hR0, hval⟩ := hD
  have hSX : SX S nt nv := h.1
  have hTab : RLb G nt nv S M := h.2.2.1
  have hg0 : ∀ v, v < nv → G v 0 = nI v := fun v hv => (h.2.1.2.2.2.1 v hv).2.2.1
  have hl := hR0.2.1
  rw [dcap_0] at hl
  -- the law up to its loop
  obtain ⟨L2, eL2⟩ : ∃ L2, L2 = w3 (w3 L 6 4 0) 6 5 0 := ⟨_, rfl⟩
  have l2n : ∀ k, k ≠ 6 → L2 k = L k := fun k hk => by rw [eL2, w3_n hk, w3_n hk]
  have l26 : ∀ j, j ≠ 4 → j ≠ 5 → L2 6 j = M 6 j := fun j a b => by rw [eL2, w3_o b, w3_o a, fL 6 (by decide)]
  have l24 : L2 6 4 = 0 := by rw [eL2, w3_o (by decide), w3_e]
  have l25 : L2 6 5 = 0 := by rw [eL2, w3_e]
  obtain ⟨T, eT, t1, t2⟩ : ∃ T, l_put M = l_putT (aL T) ∧ (∀ k, k ≠ 4 → T k = L2 k) ∧ ∀ t, t < 3 → T 4 t = M 0 (3 + t) := by
    unfold l_put
    rw [eL, cb_s, show (4 : Int32) = nI 4 from rfl, rd_n (by decide) (by decide), lt_d, show (5 : Int32) = nI 5 from rfl, rd_n (by decide) (by decide), lt_d, ← eL2]
    refine lq2 (Q := fun o => ∃ T, o = l_putT (aL T) ∧ (∀ k, k ≠ 4 → T k = L2 k) ∧ ∀ t, t < 3 → T 4 t = M 0 (3 + t)) (fun d a T => ∃ k, k + d = 3 ∧ a = nI k ∧ (∀ k, k ≠ 4 → T k = L2 k) ∧ ∀ t, t < k → T 4 t = M 0 (3 + t)) ?_ _ 3 _ _ (FU_lt (by omega)) ⟨0, by omega, rfl, fun _ _ => rfl, fun t ht => absurd ht (Nat.not_lt_zero _)⟩
    rintro d a T g ⟨k, hk, rfl, h1, h2⟩ ih
    by_cases h0 : d = 0
    · have e : k = 3 := by omega
      subst e
      rw [if_pos (show (3 : Int32) ≤ nI 3 from by decide)]
      exact ⟨T, rfl, h1, h2⟩
    · rw [if_neg (show ¬ (3 : Int32) ≤ nI k from nI_ge (b := 3) (by omega) (by decide)), show ((3 : Int32) + nI k) = nI (3 + k) from nI_add 3 k, rd_n (by omega) (by decide), rd_n (by omega) (by decide), lt_d, nI_1]
      refine ih (d - 1) _ _ (by omega) ⟨k + 1, by omega, rfl, fun q hq => (w3_n hq).trans (h1 q hq), fun t ht => ?_⟩
      by_cases e : t = k
      · subst e
        rw [w3_e, h1 0 (by decide), l2n 0 (by decide), fL 0 (by decide)]
      · rw [w3_o e]
        exact h2 t (by omega)
  have aLn : ∀ k, k ≠ 7 → aL T k = T k := fun k hk => if_neg hk
  obtain ⟨U, eU⟩ : ∃ U, U = w3 (w3 (aL T) 7 0 (nI u)) 3 u (M 6 3) := ⟨_, rfl⟩
  have u62 : aL T 6 2 = nI (u + 1) := by rw [aLn 6 (by decide), t1 6 (by decide), l26 2 (by decide) (by decide), h62]
  have u63 : aL T 6 3 = M 6 3 := by rw [aLn 6 (by decide), t1 6 (by decide), l26 3 (by decide) (by decide)]
  have hput : l_put M = gLq FU (nI 1) U := by
    rw [eT, putT_d, show (2 : Int32) = nI 2 from rfl, rd_n (by decide) (by decide), show (0 : Int32) = nI 0 from rfl, rd_n (by decide) (by decide), lt_d, u62, nI_pred, rd_n (by decide) (by decide), show (3 : Int32) = nI 3 from rfl, rd_n (by decide) (by decide), w3_n (by decide), u62, nI_pred, rd_n (by omega) (by decide), lt_d, u63, eU]
    rfl
  have uF : ∀ k, k ≠ 2 → k ≠ 3 → k ≠ 4 → k ≠ 6 → k ≠ 7 → U k = M k := fun k a b c d e => by rw [eU, w3_n b, w3_n e, aLn k e, t1 k c, l2n k d, fL k a]
  have u2 : U 2 = L 2 := by rw [eU, w3_n (by decide), w3_n (by decide), aLn 2 (by decide), t1 2 (by decide), l2n 2 (by decide)]
  have u6 : ∀ j, U 6 j = L2 6 j := fun j => by rw [eU, w3_n (by decide), w3_n (by decide), aLn 6 (by decide), t1 6 (by decide)]
  have u4 : ∀ t, t < 3 → U 4 t = M 0 (3 + t) := fun t ht => by rw [eU, w3_n (by decide), w3_n (by decide), aLn 4 (by decide)]; exact t2 t ht
  have u3 : U 3 u = M 6 3 := by rw [eU, w3_e]
  have u7 : U 7 0 = nI u := by rw [eU, w3_n (by decide), w3_e]
  -- the class up to passDown
  obtain ⟨X, c1, c2, c3⟩ := ctabs_n (G := G) (nv := nv) (Tb := TbM M) hSX.2.2.1 hSX.1 hb3 (fun t ht => (hTab.1 t ht).2.1)
  have hx0 : Rw (apC X 0 (-1) (-1)) 0 (ms (M 6 3)) := hR0.fr (by
    unfold apC
    rw [w1_ne (by decide), w1_ne (by decide), w1_ne (by decide), (c2 0 (by decide)).1]) (c2 0 (by decide)).2
  obtain ⟨Y, y1, y2, y3⟩ := takeOver_n (i := 23 + 2 * u) hx0 (by rw [dcap_w]; omega) (by omega)
  have x44 : (apC X 0 (-1) (-1)).1 44 = nI u := by
    unfold apC
    rw [w1_ne (by decide), w1_ne (by decide), w1_ne (by decide), (c2 44 (by decide)).1, h44]
  have hcl : d10_planPutBack G nt nv S = cb (d10_passDown G nt nv 12 (some u) (nI 0) Y) fun (S30 : St) => some S30 := by
    rw [c1]
    unfold cpE d0_clear
    rw [tell_n, cb_s, cb_s, lt_d, x44, oid_nI (by omega), oc_s, gd_t hu, lt_d, oc_s, gd_t hu, y1, cb_s, lt_d, y3.1 44 (by omega), x44, oid_nI (by omega)]
    rfl
  have ya : ∀ k, k ≠ 46 → k ≠ 47 → k ≠ 48 → (apC X 0 (-1) (-1)).1 k = X.1 k := fun k a b c => by
    unfold apC
    rw [w1_ne c, w1_ne b, w1_ne a]
  have hStU : StH G nt nv (TbM M) U := ⟨hO, hT, fun v hv => (hK v hv).fr (by rw [uF 1 (by decide) (by decide) (by decide) (by decide) (by decide)]), hsm, fun v hv => by rw [u2]; exact vL v hv⟩
  have hC : PC3 G nt nv (TbM M) S U := ⟨hStU, hTab.2.2, hg0⟩
  have hW : Wn3 G nv (TbM M) Y U u := by
    unfold Wn3
    rw [u3]
    exact ⟨hu, h63, y2, ⟨(FV_n hO hT hu).1, ms_srt _, Nat.le_trans (List.length_filter_le _ _) hl⟩, hval⟩
  have hCQ : CQ Y U := by
    unfold CQ
    rw [u6, u6, l24, l25]
    refine ⟨?_, ?_, ?_, Or.inl ⟨rfl, rfl⟩⟩
    · rw [y3.1 46 (by omega), apC_46]
    · rw [y3.1 47 (by omega)]
      unfold apC
      rw [w1_ne (by decide), w1_eq]
      decide
    · rw [y3.1 48 (by omega)]
      unfold apC
      rw [w1_eq]
      decide
  have hRe : Re3 G nt nv (TbM M) S U (fun w => w = u) Y U := by
    refine ⟨⟨fun k hk => ?_, fun k hk2 hk => ?_⟩, fun _ _ _ _ _ => rfl, fun _ _ _ => rfl, hCQ, fun t ht => ?_, fun _ _ => rfl, fun w hw => by rw [hw]; exact hW⟩
    · have hk3 : k ≠ 23 + 2 * u := fun z => hk (by unfold scr; omega)
      rw [y3.1 k hk3, ya k (fun z => hk (by unfold scr; omega)) (fun z => hk (by unfold scr; omega)) (fun z => hk (by unfold scr; omega)), (c2 k (fun z => hk (by unfold scr; omega))).1]
    · have hk3 : k ≠ 23 + 2 * u := fun z => hk (by unfold scr; omega)
      rw [y3.2 k hk3]
      exact (c2 k (fun z => hk (by unfold scr; omega))).2
    · rw [u4 t (by omega)]
      exact ⟨hok t ht, Rw_fr ((c3 t ht).fr (ya _ (by omega) (by omega) (by omega)) rfl) y3 (by omega), hT t ht⟩
  have hu64 : U 6 4 = 0 := (u6 4).trans l24
  obtain ⟨S1, M1, c, hc, p1, p2, p3⟩ := down3 hC (u + 1) u (Nat.lt_succ_self u) hu (fun w => w = u) Y U [] 12 0 hRe rfl (fun j hj => by
    have : j = 0 := by simp at hj; omega
    subst this
    exact u7) (by simp; omega) (by omega) (by omega) hu64
  have hc9 : c ≤ 143 := by
    have h1 : cn u ≤ cn 9 := cn_mo (by omega)
    rw [cn_9] at h1
    omega
  have hfin : gLq FU (nI 1) U = some M1 := by
    rcases p3 with ⟨z1, z2, z3, -⟩ | ⟨z1, z2⟩
    · have := z3 (1000 - c)
      rw [show 1000 - c + c = FU by unfold FU; omega] at this
      rw [show (nI 1 : Int32) = nI ([].length + 1 : Nat) from rfl, this, show 1000 - c = (999 - c) + 1 by omega, gLq_s]
      unfold ptF
      rw [if_pos (by decide)]
    · have := z2 (999 - c)
      rwa [show 999 - c + c + 1 = FU by unfold FU; omega] at this
  rw [p1, cb_s] at hcl
  obtain ⟨q1, q2, q3, q4, q5, q6, q7⟩ := p2
  refine ⟨S1, M1, hcl, hput.trans hfin, q1, ⟨fun k hk => ?_, fun j a b => ?_⟩, q4, q5, fun t a b => ?_, fun hz => ?_⟩
  · rw [q2 k (by omega) (by omega) (by omega) (by omega), uF k (by omega) (by omega) (by omega) (by omega) (by omega)]
  · rw [q3 j a b, u6, l26 j a b]
  · rw [q6 t a, u4 t b]
    exact hTab.2.1 t a b
  · rcases p3 with ⟨-, -, -, -, -, z6⟩ | ⟨z1, -⟩
    · rw [z6, u3]
    · exact absurd hz z1
