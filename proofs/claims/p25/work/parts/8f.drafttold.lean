/-! ===== the class's fewest; the law's draftTold ===== -/
theorem mask_3 {S : St} {G : Gt} {nt nv u : Nat} {M : Lt} (h : RQ (S, G, nt, nv) M) (hu : u < nv) : ∃ k, 0 < k ∧ k < 8 ∧ G u 3 = nI k ∧ ∀ c, c < 3 → bt (nI k) c = true → c < nt := by
  obtain ⟨hO, hT, hok, hK, hsm, h61⟩ := h.st
  have h3 := (hK u hu).2.2.1
  obtain ⟨k, hk, he⟩ := pk_andE (M 1 u >>> ((21 : Int32) &&& 31)) (m := 7) 3 (by decide)
  have hk8 : k < 8 := hk
  have hg : G u 3 = nI k := h3.symm.trans he
  refine ⟨k, ?_, hk8, hg, fun c hc hb => ?_⟩
  · obtain ⟨c, hc, hb⟩ := mask_ne hO _ u (Nat.lt_succ_self u) hu
    rw [hg] at hb
    rcases Nat.eq_zero_or_pos k with z | z
    · rw [z, show (nI 0 : Int32) = 0 from rfl, bt_0 hc] at hb
      cases hb
    · exact z
  · exact (h.2.1.2.2.2.1 u hu).2.2.2 c (by omega) (by
      show bt (G u 3) c = true
      rw [hg]
      exact hb)
theorem sgl_d : ∀ k : Fin 8, ∀ t : Fin 3, nI k.1 = (1 : Int32) <<< (nI t.1 &&& 31) ↔ (k.1 = 1 ∧ t.1 = 0) ∨ (k.1 = 2 ∧ t.1 = 1) ∨ (k.1 = 4 ∧ t.1 = 2) := by decide +kernel
theorem sgl_b : ∀ k : Fin 8, ∀ t : Fin 3, (k.1 = 1 ∧ t.1 = 0) ∨ (k.1 = 2 ∧ t.1 = 1) ∨ (k.1 = 4 ∧ t.1 = 2) → bt (nI k.1) t.1 = true ∧ (nI k.1 &&& (nI k.1 - 1)) = 0 := by decide +kernel
theorem sgl_n : ∀ k : Fin 8, k.1 ≠ 0 → (nI k.1 &&& (nI k.1 - 1)) = 0 → k.1 = 1 ∨ k.1 = 2 ∨ k.1 = 4 := by decide +kernel
theorem kfew {S : St} {G : Gt} {nt nv u : Nat} {M : Lt} (h : RQ (S, G, nt, nv) M) (hD : DL G nv S M u) : (∃ t c, t < nt ∧ c < 8 ∧ c ≠ 0 ∧ c ≠ 7 ∧ G (20 + t) 0 = nI c ∧ G u 3 = 1 <<< (nI t &&& 31) ∧ ∃ S1, k_fewest (S, G, nt, nv) = some (bst (okf (Cf G u t (tl (nI c) 6) (ms (M 6 3))) (dif (tl (nI c) 6) (TbM M t))) (2 ^ (tl (nI c) 6).length), (S1, G, nt, nv)) ∧ RQ (S1, G, nt, nv) M ∧ DL G nv S1 M u) ∨
    ((∀ t, t < nt → G u 3 = 1 <<< (nI t &&& 31) → G (20 + t) 0 = nI 7) ∧ k_fewest (S, G, nt, nv) = some (-7300, (S, G, nt, nv))) := by
  obtain ⟨hb3, hb10⟩ := h.b
  obtain ⟨hO, hT, hok, hK, hsm, h61⟩ := h.st
  have hu := hD.1
  have hoid := hD.oid h
  rcases onlyTable_n (mk := G u 3) h.s43.2.2.1 h.s43.2.2.2 hb3 with ⟨t, ht, hmk, e1⟩ | ⟨hno, e1⟩
  · obtain ⟨c, hc0, hc8, hcs⟩ := (h.2.1.2.2.2.2 t ht).2.2.2.1
    have hc0' : c ≠ 0 := by omega
    have hcs2 : G (20 + t) 0 = nI c := hcs
    have hH : Rw S (1 + 7 * t) (TbM M t) := (h.2.2.1.1 t ht).2.1
    have hcd : d10_fewest G nt nv S = cb (d8_canTry G nt nv t S) fun (z21 : Int32) => if z21 = 0 then (some (2, 0, S)) else (cb2 (d8_fewestChanges G nt nv u t 0 S) fun (z27 : Int32) (S29 : St) => some (0, z27, S29)) := by
      unfold d10_fewest
      rw [lt_d, hoid, oc_s, gd_t hu, lt_d, oc_s, gd_t hu, e1, cb_s, oc_s, gd_t ht, lt_d, oc_s, gd_t hu]
    have hcC := canC_n (G := G) (nt := nt) (nv := nv) hH hcs2 (show c < 64 by omega)
    by_cases hc7 : c = 7
    · subst hc7
      refine Or.inr ⟨fun t' ht' hmk' => ?_, ?_⟩
      · have : t' = t := by
          obtain ⟨k, -, hk8, hg, -⟩ := mask_3 h hu
          have q1 := (sgl_d ⟨k, hk8⟩ ⟨t, by omega⟩).mp (hg.symm.trans hmk)
          have q2 := (sgl_d ⟨k, hk8⟩ ⟨t', by omega⟩).mp (hg.symm.trans hmk')
          dsimp only at q1 q2
          omega
        rw [this, hcs2]
      · rcases hcC with ⟨⟨e, -⟩, -⟩ | ⟨-, e⟩
        · exact absurd e (by decide)
        · unfold k_fewest
          dsimp only
          rw [hcd, e, cb_s, if_pos z00]
          rfl
    · obtain ⟨hpc, -⟩ := six_d ⟨c, hc8⟩ hc0' hc7
      obtain ⟨hLs, hL9, hLv, hLok⟩ := tl_srt3 hc8 hc0' hc7
      obtain ⟨S1, q1, q2⟩ := fewC_n (nt := nt) (u := u) hO hu hH (show t < 3 by omega) hD.2.2.2.2.1 hcs2 hL9 hLok
      refine Or.inl ⟨t, c, ht, hc8, hc0', hc7, hcs2, hmk, S1, ?_, h.sc q2, hD.sc q2⟩
      rcases hcC with ⟨-, e⟩ | ⟨e, -⟩
      · unfold k_fewest
        dsimp only
        rw [hcd, e, cb_s, if_neg z10, q1, cb2_s]
        rfl
      · exact absurd ⟨hpc, CT_ms _⟩ e
  · refine Or.inr ⟨fun t ht hm => absurd hm (hno t ht), ?_⟩
    unfold k_fewest d10_fewest
    dsimp only
    rw [lt_d, hoid, oc_s, gd_t hu, lt_d, oc_s, gd_t hu, e1, cb_s, oc_o]
    rfl
theorem kput {β : Type} {M' : Lt} {C : Cs} {M : Lt} {k N : Nat} {f : Tt → Option β} (hk : k + 1 ≤ N) (hx : l_put M = some M') : (gd (((C, M, k) : Tt).2.2 + 1 ≤ N) <| cb (l_put ((C, M, k) : Tt).2.1) fun (M1 : Lt) => lt (tm1 (C, M, k) M1) fun (S : Tt) => f S) = f (C, M', k + 1) := by
  rw [gd_t hk, hx]
  rfl
theorem klay {β : Type} {M' : Lt} {C : Cs} {M : Lt} {k N : Nat} {f : Tt → Option β} (hk : k ≤ N) (hx : l_lay M = some M') : (gd (((C, M, k) : Tt).2.2 ≤ N) <| cb (l_lay ((C, M, k) : Tt).2.1) fun (M1 : Lt) => lt (tm (C, M, k) M1) fun (S : Tt) => f S) = f (C, M', k) := by
  rw [gd_t hk, hx]
  rfl
theorem klst {β : Type} {x z : Int32} {M' : Lt} {C : Cs} {M : Lt} {k N : Nat} {f : Int32 → Tt → Option β} (hk : k ≤ N) (hx : l_least x M = some (z, M')) : (gd (((C, M, k) : Tt).2.2 ≤ N) <| cb2 (l_least x ((C, M, k) : Tt).2.1) fun (z : Int32) (M1 : Lt) => lt (tm (C, M, k) M1) fun (S : Tt) => f z S) = f z (C, M', k) := by
  rw [gd_t hk, hx]
  rfl
def dtA (x8 x83 : Int32) (S73 : Tt) (x84 : Int32) : Option (Int32 × Tt) := jn (fun (x86 : Int32) => jn (gd (S73.2.2 + 1 ≤ 60) <| cb2 (k_fewest S73.1) fun (z89 : Int32) (C91 : Cs) => lt (tc S73 C91) fun (S92 : Tt) => jn (fun (x93 : Int32) (S94 : Tt) => if z89 = x93 then (gd (S94.2.2 ≤ 60) <| some ((1 : Int32), S94)) else (gd (S94.2.2 ≤ 60) <| some ((0 : Int32), S94))) fun k95 => if x86 = 0 then (k95 (-7300) S92) else (gd (S92.2.2 ≤ 60) <| cb2 (l_least x84 S92.2.1) fun (z100 : Int32) (M102 : Lt) => lt (tm S92 M102) fun (S103 : Tt) => k95 z100 S103)) fun k88 => if x8 = 0 then (if x86 = 0 then (k88) else (gd (S73.2.2 ≤ 60) <| some ((1 : Int32), S73))) else (k88)) fun k87 => if (x83 &&& (x83 - 1)) = 0 then (rd x84 6 fun (j108 : Nat) => if ((S73.2.1 0 j108) &&& 7) = 7 then (k87 0) else (k87 1)) else (k87 0)
def dtT (x8 : Int32) (S73 : Tt) : Option (Int32 × Tt) := rd 2 7 fun (j79 : Nat) => rd ((S73.2.1 6 j79) - 1) 10 fun (j81 : Nat) => lt (((S73.2.1 1 j81) >>> ((21 : Int32) &&& 31)) &&& 7) fun (x83 : Int32) => jn (dtA x8 x83 S73) fun k85 => if x83 = 4 then (k85 2) else (k85 (x83 - 1))
theorem dtT_n {S : St} {G : Gt} {nt nv u k : Nat} {M : Lt} {x8 : Int32} (h : RQ (S, G, nt, nv) M) (hD : DL G nv S M u) (hk : k + 1 ≤ 60) : ∃ S' M' k', dtT x8 ((S, G, nt, nv), M, k) = some (1, ((S', G, nt, nv), M', k')) ∧ RQ (S', G, nt, nv) M' := by
  obtain ⟨hb3, hb10⟩ := h.b
  obtain ⟨hO, hT, hok, hK, hsm, h61⟩ := h.st
  have hu := hD.1
  have hk60 : k ≤ 60 := by omega
  obtain ⟨kk, hk0, hk8, hg, hkb⟩ := mask_3 h hu
  have hw : ((M 1 u >>> ((21 : Int32) &&& 31)) &&& 7) = nI kk := (hK u hu).2.2.1.trans hg
  unfold dtT
  rw [show (2 : Int32) = nI 2 from rfl, rd_n (by decide) (by decide)]
  show ∃ S' M' k', (rd ((M 6 2) - 1) 10 fun (j81 : Nat) => lt (((M 1 j81) >>> ((21 : Int32) &&& 31)) &&& 7) _) = _ ∧ _
  rw [hD.2.2.1, nI_pred, rd_n (by omega) (by decide), lt_d, hw, jn_d]
  have hcl : ∀ t, t < 3 → ((kk = 1 ∧ t = 0) ∨ (kk = 2 ∧ t = 1) ∨ (kk = 4 ∧ t = 2)) → t < nt ∧ G u 3 = 1 <<< (nI t &&& 31) ∧ (M 0 t &&& 7) = G (20 + t) 0 := fun t ht hz => by
    have htn := hkb t ht ((sgl_b ⟨kk, hk8⟩ ⟨t, ht⟩ hz).1)
    exact ⟨htn, hg.trans ((sgl_d ⟨kk, hk8⟩ ⟨t, ht⟩).mpr hz), (h.2.1.2.2.2.2 t htn).1⟩
  have hne : ∀ c, c < 8 → c ≠ 7 → ¬ (nI c : Int32) = 7 := fun c a b z => b ((nI_eq (a := c) (b := 7) (by omega) (by decide)).mp z)
  have hgo : ∀ t, t < 3 → ((kk = 1 ∧ t = 0) ∨ (kk = 2 ∧ t = 1) ∨ (kk = 4 ∧ t = 2)) → ∃ S' M' k', dtA x8 (nI kk) ((S, G, nt, nv), M, k) (nI t) = some (1, ((S', G, nt, nv), M', k')) ∧ RQ (S', G, nt, nv) M' := by
    intro t ht hz
    obtain ⟨htn, hmk, h07⟩ := hcl t ht hz
    unfold dtA
    rw [jn_d, if_pos (sgl_b ⟨kk, hk8⟩ ⟨t, ht⟩ hz).2, rd_n (by omega) (by decide), h07]
    rcases kfew h hD with ⟨t', c, ht', hc8, hc0, hc7, hcs, hmk', S1, e1, hR1, hD1⟩ | ⟨hno, e1⟩
    · have htt : t' = t := by
        have q2 := (sgl_d ⟨kk, hk8⟩ ⟨t', by omega⟩).mp (hg.symm.trans hmk')
        dsimp only at q2
        omega
      subst htt
      rw [hcs, if_neg (hne c hc8 hc7)]
      dsimp only
      rw [jn_d]
      by_cases hx8 : x8 = 0
      · rw [if_pos hx8, if_neg z10, gd_t hk60]
        exact ⟨S, M, k, rfl, h⟩
      · rw [if_neg hx8]
        obtain ⟨M2, e2, f2⟩ := least_n hR1 hD1 htn hcs hc8 hc0 hc7 hmk
        refine ⟨S1, M2, k + 1, ?_, hR1.fr f2.s⟩
        rw [gd_t hk, e1, cb2_s, lt_d, jn_d, if_neg z10]
        show (gd (k + 1 ≤ 60) <| cb2 (l_least (nI t') M) _) = _
        rw [gd_t (by omega), e2, cb2_s, lt_d]
        show (if _ = _ then gd (k + 1 ≤ 60) _ else _) = _
        rw [if_pos rfl, gd_t (by omega)]
        rfl
    · rw [hno t htn hmk, if_pos (show (nI 7 : Int32) = 7 from rfl)]
      dsimp only
      rw [jn_d]
      refine ⟨S, M, k + 1, ?_, h⟩
      by_cases hx8 : x8 = 0
      · rw [if_pos hx8, if_pos z00, gd_t hk, e1, cb2_s, lt_d, jn_d, if_pos z00]
        show (if _ = _ then gd (k + 1 ≤ 60) _ else _) = _
        rw [if_pos rfl, gd_t (by omega)]
        rfl
      · rw [if_neg hx8, gd_t hk, e1, cb2_s, lt_d, jn_d, if_pos z00]
        show (if _ = _ then gd (k + 1 ≤ 60) _ else _) = _
        rw [if_pos rfl, gd_t (by omega)]
        rfl
  by_cases h4 : kk = 4
  · rw [if_pos (by rw [h4]; rfl)]
    exact hgo 2 (by decide) (Or.inr (Or.inr ⟨h4, rfl⟩))
  · rw [if_neg (show ¬ nI kk = (4 : Int32) from fun z => h4 ((nI_eq (b := 4) (by omega) (by decide)).mp z))]
    by_cases h1 : kk = 1
    · have := hgo 0 (by decide) (Or.inl ⟨h1, rfl⟩)
      rw [show nI kk - 1 = nI 0 by rw [h1]; decide]
      exact this
    · by_cases h2 : kk = 2
      · have := hgo 1 (by decide) (Or.inr (Or.inl ⟨h2, rfl⟩))
        rw [show nI kk - 1 = nI 1 by rw [h2]; decide]
        exact this
      · have hns : ¬ (nI kk &&& (nI kk - 1)) = 0 := fun z => by
          have := sgl_n ⟨kk, hk8⟩ (by dsimp only; omega) z
          dsimp only at this
          omega
        have hno : k_fewest (S, G, nt, nv) = some (-7300, (S, G, nt, nv)) := by
          rcases kfew h hD with ⟨t', c, ht', -, -, -, -, hmk', -⟩ | ⟨-, e1⟩
          · have q2 := (sgl_d ⟨kk, hk8⟩ ⟨t', by omega⟩).mp (hg.symm.trans hmk')
            dsimp only at q2
            omega
          · exact e1
        unfold dtA
        rw [jn_d, if_neg hns]
        dsimp only
        rw [jn_d]
        refine ⟨S, M, k + 1, ?_, h⟩
        by_cases hx8 : x8 = 0
        · rw [if_pos hx8, if_pos z00, gd_t hk, hno, cb2_s, lt_d, jn_d, if_pos z00]
          show (if _ = _ then gd (k + 1 ≤ 60) _ else _) = _
          rw [if_pos rfl, gd_t (by omega)]
          rfl
        · rw [if_neg hx8, gd_t hk, hno, cb2_s, lt_d, jn_d, if_pos z00]
          show (if _ = _ then gd (k + 1 ≤ 60) _ else _) = _
          rw [if_pos rfl, gd_t (by omega)]
          rfl
theorem dtold_n {S : St} {G : Gt} {nt nv : Nat} {M : Lt} {x8 : Int32} (h : RQ (S, G, nt, nv) M) : ∃ S' M' k, p_draftTold x8 ((S, G, nt, nv), M, 0) = some (1, ((S', G, nt, nv), M', k)) ∧ RQ (S', G, nt, nv) M' := by
  obtain ⟨hb3, hb10⟩ := h.b
  have hDD : RLd G nv S M := h.2.2.2.1
  unfold p_draftTold
  have r2 : ∀ (f : Nat → Option (Int32 × Tt)), rd 2 7 f = f 2 := fun f => rd_n (j := 2) (by decide) (by decide)
  rw [r2]
  show ∃ S' M' k, (if M 6 2 = 0 then _ else _) = _ ∧ _
  rcases hDD with ⟨h44, h62⟩ | ⟨u, hD⟩
  · rw [if_pos h62, kcall (by omega) (nd_conflict h44), if_pos rfl, kcall (by omega) (nd_conflictRow h44), if_pos rfl, kcall (by omega) (nd_changes h44), if_pos rfl, kcall (by omega) (nd_fewest h44), if_pos rfl, kcall (by omega) (nd_draftRow h44), if_pos rfl, kcall (by omega) (nd_add h44), if_pos rfl, kcall (by omega) (nd_takeOut h44), if_pos rfl, kcall (by omega) (nd_change h44), if_pos rfl, kend (by omega)]
    exact ⟨S, M, _, rfl, h⟩
  · have hu := hD.1
    rw [if_neg (by rw [hD.2.2.1]; exact nI_ne0 (by omega) (by omega))]
    obtain ⟨S0, M1, -, hP, -, fM, -, -⟩ := lput_n h hD
    obtain ⟨S0, -, -, -, -, -, q2, q3, -⟩ := plan3 h hD hP
    have hlen : (ms (M 6 3)).length = flt (fun r => bt (M 6 3) r) 27 := by rw [ms_len]; rfl
    refine lq3 (Q := fun o => ∃ S' M' k, o = some (1, ((S', G, nt, nv), M', k)) ∧ RQ (S', G, nt, nv) M') (fun d a b T => ∃ m k, m + d = 27 ∧ b = nI m ∧ a = nI (flt (fun r => bt (M 6 3) r) m) ∧ T = ((S, G, nt, nv), M, k) ∧ k ≤ m) ?_ _ 27 _ _ _ (FU_lt (by omega)) ⟨0, 0, by omega, rfl, rfl, rfl, by omega⟩
    rintro d a b T g ⟨m, k, hm, rfl, rfl, rfl, hk⟩ ih
    by_cases h0 : d = 0
    · have e : m = 27 := by omega
      subst e
      rw [if_pos (show (27 : Int32) ≤ nI 27 from by decide), kput (by omega) hP]
      have hM1 : RQ (S, G, nt, nv) M1 := h.fr fM
      have ok4 : ∀ i, i < 3 → okS (M1 4 i) := fun i hi => by
        by_cases hin : i < nt
        · exact (q2 i hin).1
        · rw [q3 i (by omega) hi]
          exact okS_0
      have ok0 : ∀ i, i < 3 → okS (M1 0 (3 + i)) := fun i hi => by
        rw [fM.1 0 (by omega)]
        by_cases hin : i < nt
        · exact (h.2.2.1.1 i hin).1
        · have : M 0 (3 + i) = 0 := h.2.2.1.2.1 i (by show nt ≤ i; omega) hi
          rw [this]
          exact okS_0
      refine lq2 (Q := fun o => ∃ S' M' k, o = some (1, ((S', G, nt, nv), M', k)) ∧ RQ (S', G, nt, nv) M') (fun d (a b : Int32) => ∃ i, i + d = 3 ∧ b = nI i ∧ a = nI (sumN (mch M M1) i)) ?_ _ 3 _ _ (FU_lt (by omega)) ⟨0, by omega, rfl, rfl⟩
      rintro d2 a b g2 ⟨i, hi, rfl, rfl⟩ ih2
      by_cases h1 : d2 = 0
      · have e : i = 3 := by omega
        subst e
        obtain ⟨S1, e1, hR1, hD1⟩ := kconf h hD hP
        obtain ⟨S2, e2, hR2, hD2⟩ := kcr0 hR1 hD1 hP
        obtain ⟨S3, e3, hR3, hD3⟩ := kcr1 hR2 hD2 hP
        obtain ⟨S4, e4, hR4, hD4⟩ := kchg hR3 hD3 hP
        have r4 : ∀ (f : Nat → Option (Int32 × Tt)), rd 4 7 f = f 4 := fun f => rd_n (j := 4) (by decide) (by decide)
        have r5 : ∀ (f : Nat → Option (Int32 × Tt)), rd 5 7 f = f 5 := fun f => rd_n (j := 5) (by decide) (by decide)
        rw [if_pos (show (3 : Int32) ≤ nI 3 from by decide), ← hlen, kcall (by omega) (kdr_o h hD), if_pos rfl, kcall (by omega) (kdr_x h hD), if_pos rfl, kcall (by omega) e1, r4, if_pos rfl, kcall (by omega) e2, r5, if_pos rfl, kcall (by omega) e3, r5, if_pos rfl, kcall (by omega) (kcr2 hR3 hD3), if_pos rfl, kcall (by omega) e4, r4, jn_d]
        have hend := dtT_n (x8 := x8) (k := k + 1 + 1 + 1 + 1 + 1 + 1 + 1 + 1) (hR4.fr fM) (hD4.fr fM) (by omega)
        by_cases hc : M1 6 4 ≤ 0
        · show ∃ S' M' k, (if M1 6 4 ≤ 0 then _ else _) = _ ∧ _
          rw [if_pos hc, if_pos hc]
          dsimp only
          rw [if_pos rfl]
          exact hend
        · show ∃ S' M' k, (if M1 6 4 ≤ 0 then _ else _) = _ ∧ _
          rw [if_neg hc, if_neg hc]
          dsimp only
          rw [if_pos rfl]
          exact hend
      · have hi3 : i < 3 := by omega
        rw [if_neg (show ¬ (3 : Int32) ≤ nI i from nI_ge (b := 3) hi3 (by decide)), rd_n hi3 (by decide), show ((3 : Int32) + nI i) = nI (3 + i) from nI_add 3 i, rd_n (by omega) (by decide), kown (by omega) (count_n (okS_x (ok4 i hi3) (ok0 i hi3))), nI_add, nI_1]
        refine ih2 (d2 - 1) _ _ (by omega) ⟨i + 1, by omega, rfl, ?_⟩
        rw [fM.1 0 (by omega)]
        rfl
    · have hm27 : m < 27 := by omega
      have r3 : ∀ (f : Nat → Option (Int32 × Tt)), rd 3 7 f = f 3 := fun f => rd_n (j := 3) (by decide) (by decide)
      rw [if_neg (show ¬ (27 : Int32) ≤ nI m from nI_ge (b := 27) hm27 (by decide)), r3]
      show ∃ S' M' k, (if (((M 6 3) >>> (nI m &&& 31)) &&& 1) = 0 then _ else _) = _ ∧ _
      cases hb : bt (M 6 3) m
      · rw [if_pos (by rw [bt_f, hb]), nI_1]
        refine ih (d - 1) _ _ _ (by omega) ⟨m + 1, k, by omega, rfl, ?_, rfl, by omega⟩
        rw [flt_l, hb, if_neg (by decide), Nat.add_zero]
      · obtain ⟨g1, g3⟩ := gl_flt hm27 hb
        rw [if_neg (by rw [bt_f, hb]; decide), kcall (by omega) (kdr_i h hD g1), kown (by omega) (number_n hm27), g3, if_pos rfl, nI_1, nI_1]
        refine ih (d - 1) _ _ _ (by omega) ⟨m + 1, k + 1, by omega, rfl, ?_, rfl, by omega⟩
        rw [flt_l, hb, if_pos rfl]
