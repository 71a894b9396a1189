/-! ===== the law from end to end ===== -/
noncomputable def lwK (x2 : Int32) (g4 : Int32 → Tt → Option Int32) (x13 : Int32) (S14 : Tt) : Option Int32 := if x13 = 0 then (none) else (jn (fun (S18 : Tt) => if (x2 - x2 / 2 * 2) = 0 then (jn (fun (x23 : Int32) => gd (S18.2.2 + 60 ≤ 30000) <| cb2 (p_draftTold x23 (S18.1, S18.2.1, 0)) fun (z25 : Int32) (T27 : Tt) => lt (tn S18 T27 60) fun (S28 : Tt) => if z25 = 0 then (none) else (g4 (x2 + 1) S28)) fun k24 => if (x2 - x2 / 20 * 20) = 0 then (k24 1) else (k24 0)) else (g4 (x2 + 1) S18)) fun k19 => if (x2 - x2 / 4 * 4) = 3 then (gd (S14.2.2 + 340 ≤ 30000) <| cb2 (p_isTold (S14.1, S14.2.1, 0)) fun (z32 : Int32) (T34 : Tt) => lt (tn S14 T34 340) fun (S35 : Tt) => if z32 = 0 then (none) else (k19 S35)) else (k19 S14))
noncomputable def lwB (xs : Nat → Int32) (L : Nat) (x2 : Int32) (g4 : Int32 → Tt → Option Int32) (S3 : Tt) (x7 : Int32) : Option Int32 := gd (S3.2.2 ≤ 30000) <| cb (l_cell xs L (((3 : Int32) * x2) + 1)) fun (z10 : Int32) => gd (S3.2.2 ≤ 30000) <| cb (l_cell xs L (((3 : Int32) * x2) + 2)) fun (z12 : Int32) => jn (lwK x2 g4) fun k15 => if 1 ≤ x7 then (if 12 ≤ x7 then (if 21 ≤ x7 then (jn (fun (x40 : Int32) => gd (S3.2.2 + 16 ≤ 30000) <| cb2 (p_drafts x40 z10 z12 (S3.1, S3.2.1, 0)) fun (z42 : Int32) (T44 : Tt) => lt (tn S3 T44 16) fun (S45 : Tt) => k15 z42 S45) fun k41 => if 25 ≤ x7 then (if 31 ≤ x7 then (if 34 ≤ x7 then (if 38 ≤ x7 then (if 42 ≤ x7 then (k41 6) else (k41 5)) else (k41 3)) else (k41 2)) else (k41 1)) else (k41 0)) else (jn (fun (x51 : Int32) => gd (S3.2.2 + 16 ≤ 30000) <| cb2 (p_views x51 z10 z12 (S3.1, S3.2.1, 0)) fun (z53 : Int32) (T55 : Tt) => lt (tn S3 T55 16) fun (S56 : Tt) => k15 z53 S56) fun k52 => if 14 ≤ x7 then (if 16 ≤ x7 then (if 18 ≤ x7 then (k52 3) else (k52 2)) else (k52 1)) else (k52 0))) else (jn (fun (x60 : Int32) => gd (S3.2.2 + 16 ≤ 30000) <| cb2 (p_tables x60 z10 z12 (S3.1, S3.2.1, 0)) fun (z62 : Int32) (T64 : Tt) => lt (tn S3 T64 16) fun (S65 : Tt) => k15 z62 S65) fun k61 => if 11 ≤ x7 then (k61 2) else (k61 1))) else (gd (S3.2.2 + 16 ≤ 30000) <| cb2 (p_tables 0 z10 z12 (S3.1, S3.2.1, 0)) fun (z67 : Int32) (T69 : Tt) => lt (tn S3 T69 16) fun (S70 : Tt) => k15 z67 S70)
theorem law_d {xs : Nat → Int32} {L : Nat} {T : Tt} : p_law xs L T = lp (fun _ _ => none) (fun (g4 : Int32 → Tt → Option Int32) (x2 : Int32) (S3 : Tt) => if 140 ≤ x2 then (gd (S3.2.2 ≤ 30000) <| some 1) else (jn (lwB xs L x2 g4 S3) fun k8 => if 3 ≤ x2 then (gd (S3.2.2 ≤ 30000) <| cb (l_cell xs L ((3 : Int32) * x2)) fun (z73 : Int32) => if 20 ≤ x2 then (gd (S3.2.2 ≤ 30000) <| cb (l_low z73 44) fun (z75 : Int32) => k8 z75) else (gd (S3.2.2 ≤ 30000) <| cb (l_low z73 21) fun (z77 : Int32) => k8 z77)) else (k8 0))) FU 0 T := rfl
theorem cell_n {xs : Nat → Int32} {L q : Nat} (hL : L ≤ 260) (hq : q < 1000) : ∃ v, l_cell xs L (nI q) = some v := by
  unfold l_cell
  by_cases h : L ≤ q
  · rw [if_pos (show Int32.ofNat L ≤ nI q from nI_le (a := L) h (by omega))]
    exact ⟨_, rfl⟩
  · rw [if_neg (show ¬ Int32.ofNat L ≤ nI q from nI_ge (a := q) (b := L) (by omega) (by omega)), rd_n (by omega) (by omega)]
    exact ⟨_, rfl⟩
theorem rq00 : RQ (S00, G00, 0, 0) M00 := RQ.of ⟨rfl, rfl, rfl, rfl, Or.inl rfl⟩ ⟨⟨⟨⟨by omega, by omega⟩, fun v hv => absurd hv (Nat.not_lt_zero _)⟩, fun v hv => absurd hv (Nat.not_lt_zero _), fun v hv => absurd hv (Nat.not_lt_zero _)⟩, rfl, rfl, fun v hv => absurd hv (Nat.not_lt_zero _), fun t ht => absurd ht (Nat.not_lt_zero _)⟩ ⟨fun t ht => absurd ht (Nat.not_lt_zero _), fun _ _ _ => rfl, fun v hv => absurd hv (Nat.not_lt_zero _)⟩ (Or.inl ⟨rfl, rfl⟩) ⟨0, by omega, rfl, rfl, fun j hj => absurd hj (Nat.not_lt_zero _)⟩
def bd (t : Nat) : Nat := 20 + 16 * t + 340 * (t / 4) + 60 * ((t + 1) / 2)
theorem bd_le {t : Nat} (h : t ≤ 140) : bd t ≤ 18360 := by unfold bd; omega
def IL (t : Nat) (T : Tt) : Prop := ∃ C M k, T = (C, M, k) ∧ RQ C M ∧ k ≤ bd t
theorem lwK_n {t k : Nat} {g : Int32 → Tt → Option Int32} {C : Cs} {M : Lt} (ht : t < 140) (hR : RQ C M) (hk : k ≤ bd t + 16) (hg : ∀ T, IL (t + 1) T → ∃ r, g (nI (t + 1)) T = some r) : ∃ r, lwK (nI t) g 1 (C, M, k) = some r := by
  have hbt := bd_le (t := t) (by omega)
  obtain ⟨S, G, nt, nv⟩ := C
  unfold lwK
  rw [if_neg z10, jn_d, show nI t - nI t / 4 * 4 = nI (t % 4) from pk_rem (d := 4) (by omega) (by decide) (by decide)]
  have hgo : ∀ S' M' k', RQ (S', G, nt, nv) M' → k' ≤ bd t + 16 + (if t % 4 = 3 then 340 else 0) → ∃ r, (if (nI t - nI t / 2 * 2) = 0 then (jn (fun (x23 : Int32) => gd (((((S', G, nt, nv), M', k') : Tt)).2.2 + 60 ≤ 30000) <| cb2 (p_draftTold x23 ((((S', G, nt, nv), M', k') : Tt).1, (((S', G, nt, nv), M', k') : Tt).2.1, 0)) fun (z25 : Int32) (T27 : Tt) => lt (tn ((S', G, nt, nv), M', k') T27 60) fun (S28 : Tt) => if z25 = 0 then (none) else (g (nI t + 1) S28)) fun k24 => if (nI t - nI t / 20 * 20) = 0 then (k24 1) else (k24 0)) else (g (nI t + 1) ((S', G, nt, nv), M', k'))) = some r := by
    intro S' M' k' hR' hk'
    have hk2 : k' ≤ bd t + 16 + 340 := by
      split at hk' <;> omega
    rw [show nI t - nI t / 2 * 2 = nI (t % 2) from pk_rem (d := 2) (by omega) (by decide) (by decide), nI_1]
    by_cases h2 : t % 2 = 0
    · have hx : ∀ x23 : Int32, ∃ r, (gd (((((S', G, nt, nv), M', k') : Tt)).2.2 + 60 ≤ 30000) <| cb2 (p_draftTold x23 ((((S', G, nt, nv), M', k') : Tt).1, (((S', G, nt, nv), M', k') : Tt).2.1, 0)) fun (z25 : Int32) (T27 : Tt) => lt (tn ((S', G, nt, nv), M', k') T27 60) fun (S28 : Tt) => if z25 = 0 then (none) else (g (nI (t + 1)) S28)) = some r := by
        intro x23
        obtain ⟨S2, M2, k2, e2, hR2⟩ := dtold_n (x8 := x23) hR'
        have e2' : p_draftTold x23 ((((S', G, nt, nv), M', k') : Tt).1, (((S', G, nt, nv), M', k') : Tt).2.1, 0) = some (1, ((S2, G, nt, nv), M2, k2)) := e2
        rw [gd_t (show k' + 60 ≤ 30000 by omega), e2', cb2_s, lt_d, if_neg z10]
        refine hg _ ⟨(S2, G, nt, nv), M2, k' + 60, rfl, hR2, ?_⟩
        unfold bd at hk' ⊢
        split at hk' <;> omega
      rw [if_pos (by rw [h2]; rfl), jn_d]
      by_cases h20 : (nI t - nI t / 20 * 20) = 0
      · rw [if_pos h20]
        exact hx 1
      · rw [if_neg h20]
        exact hx 0
    · rw [if_neg (nI_ne0 (by omega) (by omega))]
      refine hg _ ⟨(S', G, nt, nv), M', k', rfl, hR', ?_⟩
      unfold bd at hk' ⊢
      split at hk' <;> omega
  by_cases h4 : t % 4 = 3
  · obtain ⟨M1, k1, e1, hR1⟩ := told_n' hR
    have e1' : p_isTold ((((S, G, nt, nv), M, k) : Tt).1, (((S, G, nt, nv), M, k) : Tt).2.1, 0) = some (1, ((S, G, nt, nv), M1, k1)) := e1
    rw [if_pos (by rw [h4]; rfl), gd_t (show k + 340 ≤ 30000 by omega), e1', cb2_s, lt_d, if_neg z10]
    exact hgo S M1 (k + 340) hR1 (by rw [if_pos h4]; omega)
  · rw [if_neg (show ¬ nI (t % 4) = (3 : Int32) from fun z => h4 ((nI_eq (b := 3) (by omega) (by decide)).mp z))]
    exact hgo S M k hR (by rw [if_neg h4]; omega)
theorem lwB_n {xs : Nat → Int32} {L t a k : Nat} {g : Int32 → Tt → Option Int32} {C : Cs} {M : Lt} (hL : L ≤ 260) (ht : t < 140) (hR : RQ C M) (hk : k ≤ bd t) (hg : ∀ T, IL (t + 1) T → ∃ r, g (nI (t + 1)) T = some r) : ∃ r, lwB xs L (nI t) g (C, M, k) (nI a) = some r := by
  have hbt := bd_le (t := t) (by omega)
  obtain ⟨S, G, nt, nv⟩ := C
  obtain ⟨v1, c1⟩ := cell_n (xs := xs) (L := L) (q := 3 * t + 1) hL (by omega)
  obtain ⟨v2, c2⟩ := cell_n (xs := xs) (L := L) (q := 3 * t + 2) hL (by omega)
  have q1 : ((3 : Int32) * nI t + 1) = nI (3 * t + 1) := by rw [n3]; exact nI_add (3 * t) 1
  have q2 : ((3 : Int32) * nI t + 2) = nI (3 * t + 2) := by rw [n3]; exact nI_add (3 * t) 2
  have gk : (((S, G, nt, nv), M, k) : Tt).2.2 ≤ 30000 := by show k ≤ 30000; omega
  unfold lwB
  rw [gd_t gk, q1, c1, cb_s, gd_t gk, q2, c2, cb_s, jn_d]
  have hend : ∀ {o : Option (Int32 × Tt)}, OKq o → ∃ r, (gd ((((S, G, nt, nv), M, k) : Tt).2.2 + 16 ≤ 30000) <| cb2 o fun (z42 : Int32) (T44 : Tt) => lt (tn ((S, G, nt, nv), M, k) T44 16) fun (S45 : Tt) => lwK (nI t) g z42 S45) = some r := by
    rintro o ⟨C', M', k', rfl, hR'⟩
    rw [gd_t (show k + 16 ≤ 30000 by omega), cb2_s, lt_d]
    exact lwK_n (k := k + 16) ht hR' (by omega) hg
  by_cases h1 : (1 : Int32) ≤ nI a
  · rw [if_pos h1]
    by_cases h12 : (12 : Int32) ≤ nI a
    · rw [if_pos h12]
      by_cases h21 : (21 : Int32) ≤ nI a
      · rw [if_pos h21, jn_d]
        by_cases h25 : (25 : Int32) ≤ nI a
        · rw [if_pos h25]
          by_cases h31 : (31 : Int32) ≤ nI a
          · rw [if_pos h31]
            by_cases h34 : (34 : Int32) ≤ nI a
            · rw [if_pos h34]
              by_cases h38 : (38 : Int32) ≤ nI a
              · rw [if_pos h38]
                by_cases h42 : (42 : Int32) ≤ nI a
                · rw [if_pos h42]
                  exact hend (drafts_n hR (by decide))
                · rw [if_neg h42]
                  exact hend (drafts_n hR (by decide))
              · rw [if_neg h38]
                exact hend (drafts_n hR (by decide))
            · rw [if_neg h34]
              exact hend (drafts_n hR (by decide))
          · rw [if_neg h31]
            exact hend (drafts_n hR (by decide))
        · rw [if_neg h25]
          exact hend (drafts_n hR (by decide))
      · rw [if_neg h21, jn_d]
        by_cases h14 : (14 : Int32) ≤ nI a
        · rw [if_pos h14]
          by_cases h16 : (16 : Int32) ≤ nI a
          · rw [if_pos h16]
            by_cases h18 : (18 : Int32) ≤ nI a
            · rw [if_pos h18]
              exact hend (views_n hR (by decide))
            · rw [if_neg h18]
              exact hend (views_n hR (by decide))
          · rw [if_neg h16]
            exact hend (views_n hR (by decide))
        · rw [if_neg h14]
          exact hend (views_n hR (by decide))
    · rw [if_neg h12, jn_d]
      by_cases h11 : (11 : Int32) ≤ nI a
      · rw [if_pos h11]
        exact hend (tables_n hR)
      · rw [if_neg h11]
        exact hend (tables_n hR)
  · rw [if_neg h1]
    exact hend (tables_n hR)
theorem law_n (xs : Nat → Int32) (L : Nat) (hL : L ≤ 260) : ∃ r, p_law xs L T00 = some r := by
  rw [law_d]
  refine lq2 (Q := fun o => ∃ r, o = some r) (fun d (a : Int32) (T : Tt) => ∃ t, t + d = 140 ∧ a = nI t ∧ IL t T) ?_ _ 140 _ _ (FU_lt (by omega)) ⟨0, by omega, rfl, _, _, 20, rfl, rq00, by decide⟩
  rintro d a T g ⟨t, ht, rfl, C, M, k, rfl, hR, hk⟩ ih
  have hbt := bd_le (t := t) (by omega)
  have gk : ((C, M, k) : Tt).2.2 ≤ 30000 := by show k ≤ 30000; omega
  by_cases h0 : d = 0
  · rw [if_pos (show (140 : Int32) ≤ nI t from nI_le (a := 140) (by omega) (by omega)), gd_t gk]
    exact ⟨_, rfl⟩
  · have ht140 : t < 140 := by omega
    have hg : ∀ T, IL (t + 1) T → ∃ r, g (nI (t + 1)) T = some r := fun T hT => ih (d - 1) _ _ (by omega) ⟨t + 1, by omega, rfl, hT⟩
    have hB : ∀ a, ∃ r, lwB xs L (nI t) g (C, M, k) (nI a) = some r := fun a => lwB_n hL ht140 hR hk hg
    obtain ⟨v0, c0⟩ := cell_n (xs := xs) (L := L) (q := 3 * t) hL (by omega)
    rw [if_neg (show ¬ (140 : Int32) ≤ nI t from nI_ge (b := 140) ht140 (by decide)), jn_d]
    by_cases h3 : (3 : Int32) ≤ nI t
    · rw [if_pos h3, gd_t gk, n3, c0, cb_s]
      by_cases h20 : (20 : Int32) ≤ nI t
      · obtain ⟨a, ha, ea⟩ := low_n v0 (n := 44) (by decide) (by decide)
        have ea' : l_low v0 44 = some (nI a) := ea
        rw [if_pos h20, gd_t gk, ea', cb_s]
        exact hB a
      · obtain ⟨a, ha, ea⟩ := low_n v0 (n := 21) (by decide) (by decide)
        have ea' : l_low v0 21 = some (nI a) := ea
        rw [if_neg h20, gd_t gk, ea', cb_s]
        exact hB a
    · rw [if_neg h3]
      exact hB 0
