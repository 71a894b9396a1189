/-! ===== calls that only read; the law's isTold ===== -/
theorem RQ.s43 {S : St} {G : Gt} {nt nv : Nat} {M : Lt} (h : RQ (S, G, nt, nv) M) : S.1 43 = nI nv ∧ S.1 55 = nI nv ∧ S.1 42 = nI nt ∧ S.1 56 = nI nt := ⟨h.1.2.2.2.1, h.1.2.1, h.1.2.2.1, h.1.1⟩
theorem RQ.vw {S : St} {G : Gt} {nt nv u : Nat} {M : Lt} (h : RQ (S, G, nt, nv) M) (hu : u < nv) : d10_viewAt (nI u) S = some (some u) := viewAt_i h.s43.1 h.s43.2.1 h.b.2 hu
theorem RQ.vo {S : St} {G : Gt} {nt nv : Nat} {M : Lt} {x : Int32} (h : RQ (S, G, nt, nv) M) (hx : x < 0 ∨ nI nv ≤ x) : d10_viewAt x S = some none := viewAt_o h.s43.1 hx
theorem neg1 : (-1 : Int32) < 0 := by decide
theorem kcols_i {S : St} {G : Gt} {nt nv u : Nat} {M : Lt} (h : RQ (S, G, nt, nv) M) (hu : u < nv) : k_columns (nI u) (S, G, nt, nv) = some (G u 1, (S, G, nt, nv)) := by
  unfold k_columns d10_columns
  dsimp only
  rw [h.vw hu, cb_s, oc_s, gd_t hu]
  rfl
theorem kcols_o {S : St} {G : Gt} {nt nv : Nat} {M : Lt} {x : Int32} (h : RQ (S, G, nt, nv) M) (hx : x < 0 ∨ nI nv ≤ x) : k_columns x (S, G, nt, nv) = some (-7100, (S, G, nt, nv)) := by
  unfold k_columns d10_columns
  dsimp only
  rw [h.vo hx, cb_s, oc_o]
  rfl
theorem kkey_i {S : St} {G : Gt} {nt nv u : Nat} {M : Lt} (h : RQ (S, G, nt, nv) M) (hu : u < nv) : k_key (nI u) (S, G, nt, nv) = some (G u 2, (S, G, nt, nv)) := by
  unfold k_key d10_key
  dsimp only
  rw [h.vw hu, cb_s, oc_s, gd_t hu]
  rfl
theorem kkey_o {S : St} {G : Gt} {nt nv : Nat} {M : Lt} {x : Int32} (h : RQ (S, G, nt, nv) M) (hx : x < 0 ∨ nI nv ≤ x) : k_key x (S, G, nt, nv) = some (-7100, (S, G, nt, nv)) := by
  unfold k_key d10_key
  dsimp only
  rw [h.vo hx, cb_s, oc_o]
  rfl
theorem krows_o {S : St} {G : Gt} {nt nv : Nat} {M : Lt} {x : Int32} (h : RQ (S, G, nt, nv) M) (hx : x < 0 ∨ nI nv ≤ x) : k_rows x (S, G, nt, nv) = some (-7100, (S, G, nt, nv)) := by
  unfold k_rows d10_rows
  dsimp only
  rw [h.vo hx, cb_s, oc_o]
  rfl
theorem krows_i {S : St} {G : Gt} {nt nv u : Nat} {M : Lt} (h : RQ (S, G, nt, nv) M) (hu : u < nv) : k_rows (nI u) (S, G, nt, nv) = some (nI (VV G (TbM M) u).length, (S, G, nt, nv)) := by
  unfold k_rows d10_rows
  dsimp only
  rw [h.vw hu, cb_s, oc_s, gd_t hu, size_n (h.2.2.1.2.2 u hu), cb_s]
  rfl
theorem krow_i {S : St} {G : Gt} {nt nv u j : Nat} {M : Lt} (h : RQ (S, G, nt, nv) M) (hu : u < nv) (hj : j < (VV G (TbM M) u).length) : k_row (nI u) (nI j) (S, G, nt, nv) = some (nI (gl (VV G (TbM M) u) j), (S, G, nt, nv)) := by
  have hR := h.2.2.1.2.2 u hu
  have hl := Nat.le_trans hR.2.1 dcap_le
  have hl2 : (VV G (TbM M) u).length ≤ 32 := hl
  unfold k_row d10_row
  dsimp only
  rw [h.vw hu, cb_s, oc_s, gd_t hu, if_neg (nI_pos (by omega)), size_n hR, cb_s, if_pos (nI_lt hj (by omega)), at_n hR hj, cb_s]
  rfl
theorem krow_x {S : St} {G : Gt} {nt nv u : Nat} {M : Lt} {x : Int32} (h : RQ (S, G, nt, nv) M) (hu : u < nv) (hx : x < 0 ∨ nI (VV G (TbM M) u).length ≤ x) : k_row (nI u) x (S, G, nt, nv) = some (-7100, (S, G, nt, nv)) := by
  have hR := h.2.2.1.2.2 u hu
  have hl2 : (VV G (TbM M) u).length ≤ 32 := Nat.le_trans hR.2.1 dcap_le
  unfold k_row d10_row
  dsimp only
  rw [h.vw hu, cb_s, oc_s, gd_t hu]
  by_cases h0 : x < 0
  · rw [if_pos h0]
    rfl
  · rw [if_neg h0, size_n hR, cb_s]
    obtain ⟨k, hk, rfl⟩ := nI_of h0
    have := (nI_leI (by omega) hk).mp (hx.resolve_left h0)
    rw [if_neg (nI_nlt this hk)]
    rfl
theorem kopen_o {S : St} {G : Gt} {nt nv : Nat} {M : Lt} {x : Int32} (h : RQ (S, G, nt, nv) M) (hx : x < 0 ∨ nI nv ≤ x) : k_open x (S, G, nt, nv) = some (-7100, (S, G, nt, nv)) := by
  unfold k_open d10_open
  dsimp only
  rw [h.vo hx, cb_s, oc_o]
  rfl
theorem kcall {β : Type} {x : Option (Int32 × Cs)} {z : Int32} {C C' : Cs} {M : Lt} {k N : Nat} {f : Int32 → Tt → Option β} (hk : k + 1 ≤ N) (hx : x = some (z, C')) : (gd (((C, M, k) : Tt).2.2 + 1 ≤ N) <| cb2 x fun (z : Int32) (C1 : Cs) => lt (tc (C, M, k) C1) fun (S : Tt) => f z S) = f z (C', M, k + 1) := by
  rw [gd_t hk, hx]
  rfl
theorem kown {β : Type} {x : Option Int32} {z : Int32} {C : Cs} {M : Lt} {k N : Nat} {f : Int32 → Option β} (hk : k ≤ N) (hx : x = some z) : (gd (((C, M, k) : Tt).2.2 ≤ N) <| cb x f) = f z := by
  rw [gd_t hk, hx]
  rfl
theorem kend {β : Type} {x : Option β} {C : Cs} {M : Lt} {k N : Nat} (hk : k ≤ N) : gd (((C, M, k) : Tt).2.2 ≤ N) x = x := gd_t hk
/-- the place of a row in the list -/
theorem lst_s {f : Nat → Bool} {n : Nat} : ((List.range (n + 1)).filter f).map nm = ((List.range n).filter f).map nm ++ if f n = true then [nm n] else [] := by
  rw [List.range_succ, List.filter_append, List.map_append]
  congr 1
  by_cases h : f n = true
  · rw [if_pos h, List.filter_cons_of_pos h]
    rfl
  · rw [if_neg h, List.filter_cons_of_neg h]
    rfl
theorem gl_flt {x : Int32} {m : Nat} (hm : m < 27) (hb : bt x m = true) : flt (fun r => bt x r) m < (ms x).length ∧ gl (ms x) (flt (fun r => bt x r) m) = nm m := by
  have key : ∀ n, m < n → flt (fun r => bt x r) m < (((List.range n).filter (fun r => bt x r)).map nm).length ∧ gl (((List.range n).filter (fun r => bt x r)).map nm) (flt (fun r => bt x r) m) = nm m := by
    intro n
    induction n with
    | zero => intro h; omega
    | succ n ih =>
      intro h
      rw [lst_s]
      have hlen : ∀ n, (((List.range n).filter (fun r => bt x r)).map nm).length = flt (fun r => bt x r) n := fun n => List.length_map _
      by_cases e : m = n
      · subst e
        rw [if_pos hb]
        constructor
        · rw [List.length_append, hlen]
          exact Nat.lt_succ_self _
        · have := gl_append_at (l := ((List.range m).filter (fun r => bt x r)).map nm) (a := nm m)
          rw [hlen] at this
          exact this
      · obtain ⟨h1, h2⟩ := ih (by omega)
        constructor
        · rw [List.length_append]
          omega
        · rw [gl_append_l h1]
          exact h2
  exact key 27 hm
theorem told_n' {S : St} {G : Gt} {nt nv : Nat} {M : Lt} (h : RQ (S, G, nt, nv) M) : ∃ M' k, p_isTold ((S, G, nt, nv), M, 0) = some (1, ((S, G, nt, nv), M', k)) ∧ RQ (S, G, nt, nv) M' := by
  obtain ⟨hb3, hb10⟩ := h.b
  obtain ⟨L, eL, fL, vL⟩ := h.lay
  have hL : RQ (S, G, nt, nv) L := h.fr fL.s
  have eT : TbM L = TbM M := TbM.fr (fL 0 (by decide))
  obtain ⟨hO, hT, hok, hK, hsm, h61⟩ := hL.st
  have h61' : L 6 1 = nI nv := h61
  unfold p_isTold
  rw [gd_t (by show (0 : Nat) ≤ 340; omega), cb_t eL, lt_d]
  refine lq2 (Q := fun o => ∃ M' k, o = some (1, ((S, G, nt, nv), M', k)) ∧ RQ (S, G, nt, nv) M') (fun d a T => ∃ v k, v + d = nv ∧ a = nI v ∧ T = ((S, G, nt, nv), L, k) ∧ k ≤ 33 * v) ?_ _ nv _ _ (FU_lt (by omega)) ⟨0, 0, by omega, rfl, rfl, by omega⟩
  rintro d a T g ⟨v, k, hk, rfl, rfl, hk2⟩ ih
  have r7 : ∀ (f : Nat → Option (Int32 × Tt)), rd 1 7 f = f 1 := fun f => rd_n (j := 1) (by decide) (by decide)
  by_cases h0 : d = 0
  · have e : v = nv := by omega
    subst e
    have hge : nI v < 0 ∨ nI v ≤ nI v := Or.inr (Int32.le_refl _)
    rw [r7]
    show ∃ M' k, (if L 6 1 ≤ nI v then _ else _) = _ ∧ _
    rw [if_pos (by rw [h61']; exact Int32.le_refl _), r7, kcall (by omega) (show k_rows (L 6 1) (S, G, nt, v) = _ by rw [h61']; exact krows_o hL hge), if_pos rfl, kcall (by omega) (kcols_o hL (Or.inl neg1)), if_pos rfl, r7, kcall (by omega) (show k_key (L 6 1) (S, G, nt, v) = _ by rw [h61']; exact kkey_o hL hge), if_pos rfl, r7, kcall (by omega) (show k_open (L 6 1) (S, G, nt, v) = _ by rw [h61']; exact kopen_o hL hge), if_pos rfl, kend (by omega)]
    exact ⟨L, _, rfl, hL⟩
  · have hv : v < nv := by omega
    rw [r7]
    show ∃ M' k2, (if L 6 1 ≤ nI v then _ else _) = _ ∧ _
    rw [if_neg (by rw [h61']; exact nI_ge hv (by omega))]
    have hIs := vL v hv
    rw [← eT] at hIs
    have hlen : (VV G (TbM L) v).length = flt (fun r => bt (L 2 v) r) 27 := by rw [← hIs.2, ms_len]; rfl
    refine lq3 (Q := fun o => ∃ M' k, o = some (1, ((S, G, nt, nv), M', k)) ∧ RQ (S, G, nt, nv) M') (fun d2 a b T => ∃ m k2, m + d2 = 27 ∧ b = nI m ∧ a = nI (flt (fun r => bt (L 2 v) r) m) ∧ T = ((S, G, nt, nv), L, k2) ∧ k2 ≤ 33 * v + m) ?_ _ 27 _ _ _ (FU_lt (by omega)) ⟨0, k, by omega, rfl, rfl, rfl, by omega⟩
    rintro d2 a b T g2 ⟨m, k2, hm, rfl, rfl, rfl, hk3⟩ ih2
    by_cases h1 : d2 = 0
    · have e : m = 27 := by omega
      subst e
      have hge : nI (flt (fun r => bt (L 2 v) r) 27) < 0 ∨ nI (VV G (TbM L) v).length ≤ nI (flt (fun r => bt (L 2 v) r) 27) := Or.inr (by rw [hlen]; exact Int32.le_refl _)
      rw [if_pos (show (27 : Int32) ≤ nI 27 from by decide), kcall (by omega) (krows_i hL hv), if_pos (by rw [hlen]), kcall (by omega) (krow_x hL hv hge), if_pos rfl, kcall (by omega) (krow_x hL hv (Or.inl neg1)), if_pos rfl, kcall (by omega) (kcols_i hL hv), kown (by omega) (cols_n (hK v hv) (by omega)), if_pos rfl, kcall (by omega) (kkey_i hL hv), kown (by omega) (key_n (hK v hv) (by omega)), if_pos rfl, nI_1]
      exact ih (d - 1) _ _ (by omega) ⟨v + 1, _, by omega, rfl, rfl, by omega⟩
    · have hm27 : m < 27 := by omega
      have hfl := flt_le (fun r => bt (L 2 v) r) m
      rw [if_neg (show ¬ (27 : Int32) ≤ nI m from nI_ge (b := 27) (by omega) (by decide)), rd_n (by omega) (by decide)]
      show ∃ M' k, (if ((L 2 v >>> (nI m &&& 31)) &&& 1) = 0 then _ else _) = _ ∧ _
      cases hb : bt (L 2 v) m
      · rw [if_pos (by rw [bt_f, hb]), nI_1]
        refine ih2 (d2 - 1) _ _ _ (by omega) ⟨m + 1, k2, by omega, rfl, ?_, rfl, by omega⟩
        rw [flt_l, hb, if_neg (by decide), Nat.add_zero]
      · obtain ⟨g1, g3⟩ := gl_flt hm27 hb
        rw [hIs.2] at g1 g3
        rw [if_neg (by rw [bt_f, hb]; decide), kcall (by omega) (krow_i hL hv g1), kown (by omega) (number_n hm27), g3, if_pos rfl, nI_1, nI_1]
        refine ih2 (d2 - 1) _ _ _ (by omega) ⟨m + 1, k2 + 1, by omega, rfl, ?_, rfl, by omega⟩
        rw [flt_l, hb, if_pos rfl]
