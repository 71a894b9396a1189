/-! ===== what is kept for undo ===== -/
def shf (nu : Nat) (L : Nat → List Nat) (T : List Nat) (j : Nat) : List Nat := if nu < 5 then (if j = nu then T else L j) else (if j = 4 then T else L (j + 1))
theorem forget_n {S : St} {t : Nat} {L : Nat → List Nat} (ht : t < 3) (h : ∀ j, j < 5 → Rw S (3 + 7 * t + j) (L j)) : ∃ S', d6_forgetOldest t S = some S' ∧ (∀ j, j < 4 → Rw S' (3 + 7 * t + j) (L (j + 1))) ∧ ∀ k, ¬ (3 + 7 * t ≤ k ∧ k < 8 + 7 * t) → S'.1 k = S.1 k ∧ S'.2 k = S.2 k := by
  unfold d6_forgetOldest
  refine lq2 (Q := fun x => ∃ S' : St, x = some S' ∧ (∀ j, j < 4 → Rw S' (3 + 7 * t + j) (L (j + 1))) ∧ ∀ k, ¬ (3 + 7 * t ≤ k ∧ k < 8 + 7 * t) → S'.1 k = S.1 k ∧ S'.2 k = S.2 k) (fun d (a : Int32) (T : St) => ∃ i, i + d = 4 ∧ a = nI i ∧ (∀ j, j < i → Rw T (3 + 7 * t + j) (L (j + 1))) ∧ (∀ j, i ≤ j → j < 5 → Rw T (3 + 7 * t + j) (L j)) ∧ ∀ k, ¬ (3 + 7 * t ≤ k ∧ k < 8 + 7 * t) → T.1 k = S.1 k ∧ T.2 k = S.2 k) ?_ _ 4 _ _ (FU_lt (by omega)) ⟨0, by omega, rfl, fun j hj => by omega, fun j _ hj => h j hj, fun _ _ => ⟨rfl, rfl⟩⟩
  rintro d a T g ⟨i, hi, rfl, hlo, hhi, hF⟩ ih
  rw [nI_1]
  by_cases h0 : d = 0
  · rw [if_pos (show (5 : Int32) ≤ nI (i + 1) from nI_le (a := 5) (by omega) (by omega))]
    exact ⟨T, rfl, fun j hj => hlo j (by omega), hF⟩
  · have hs := hhi (i + 1) (by omega) (by omega)
    have hl := hs.2.1
    rw [dcap_t (by omega)] at hl
    obtain ⟨T1, e1, s1, f1⟩ := takeOver_n (i := 3 + 7 * t + i) hs (by rw [dcap_t (by omega)]; exact hl) (by omega)
    rw [if_neg (show ¬ (5 : Int32) ≤ nI (i + 1) from nI_ge (b := 5) (by omega) (by decide)), rd_n (show i < 5 by omega) (by decide), rd_n (show i + 1 < 5 by omega) (by decide), rd_n (show i < 5 by omega) (by decide), rd_n (show i + 1 < 5 by omega) (by decide), e1, cb_s]
    refine ih (d - 1) _ _ (by omega) ⟨i + 1, by omega, rfl, fun j hj => ?_, fun j h1 h2 => Rw_fr (hhi j (by omega) h2) f1 (by omega), fun k hk => ⟨(f1.1 k (by omega)).trans (hF k hk).1, (f1.2 k (by omega)).trans (hF k hk).2⟩⟩
    by_cases hji : j = i
    · rw [hji]; exact s1
    · exact Rw_fr (hlo j (by omega)) f1 (by omega)
theorem remember_n {S : St} {t nu : Nat} {L : Nat → List Nat} {T : List Nat} (ht : t < 3) (hnu : nu ≤ 5) (h : ∀ j, j < nu → Rw S (3 + 7 * t + j) (L j)) (hT : Rw S (1 + 7 * t) T) : ∃ S', d6_remember t (nI nu) S = some S' ∧ (∀ j, j < min (nu + 1) 5 → Rw S' (3 + 7 * t + j) (shf nu L T j)) ∧ ∀ k, ¬ (3 + 7 * t ≤ k ∧ k < 8 + 7 * t) → S'.1 k = S.1 k ∧ S'.2 k = S.2 k := by
  have hTl := hT.2.1
  rw [dcap_t (by omega)] at hTl
  unfold d6_remember shf
  by_cases h5 : nu < 5
  · obtain ⟨S1, e1, s1, f1⟩ := takeOver_n (i := 3 + 7 * t + nu) hT (by rw [dcap_t (by omega)]; exact hTl) (by omega)
    rw [jn_d, if_pos (show nI nu < (5 : Int32) from nI_lt (b := 5) h5 (by decide))]
    dsimp only
    rw [if_neg (nI_pos (by omega)), rd_n h5 (by decide), rd_n h5 (by decide), e1, cb_s]
    refine ⟨S1, rfl, fun j hj => ?_, fun k hk => ⟨f1.1 k (by omega), f1.2 k (by omega)⟩⟩
    rw [if_pos h5]
    by_cases hjn : j = nu
    · rw [if_pos hjn, hjn]; exact s1
    · rw [if_neg hjn]
      exact Rw_fr (h j (by omega)) f1 (by omega)
  · have hn5 : nu = 5 := by omega
    subst hn5
    obtain ⟨S0, e0, s0, f0⟩ := forget_n ht h
    have hT0 : Rw S0 (1 + 7 * t) T := hT.fr (f0 _ (by omega)).1 (f0 _ (by omega)).2
    obtain ⟨S1, e1, s1, f1⟩ := takeOver_n (i := 3 + 7 * t + 4) hT0 (by rw [dcap_t (by omega)]; exact hTl) (by omega)
    rw [jn_d, if_neg (show ¬ nI 5 < (5 : Int32) by decide), e0, cb_s, show (5 : Int32) - 1 = nI 4 by decide]
    dsimp only
    rw [if_neg (nI_pos (by omega)), rd_n (show 4 < 5 by omega) (by decide), rd_n (show 4 < 5 by omega) (by decide), e1, cb_s]
    refine ⟨S1, rfl, fun j hj => ?_, fun k hk => ⟨(f1.1 k (by omega)).trans (f0 k hk).1, (f1.2 k (by omega)).trans (f0 k hk).2⟩⟩
    rw [if_neg (by omega)]
    by_cases hjn : j = 4
    · rw [if_pos hjn, hjn]; exact s1
    · rw [if_neg hjn]
      exact Rw_fr (s0 j (by omega)) f1 (by omega)
theorem carry_n {S : St} {G : Gt} {nt nv nu : Nat} {Tb N : Nat → List Nat} {Un : Nat → Nat → List Nat} (h42 : S.1 42 = nI nt) (h56 : S.1 56 = nI nt) (hnt : nt ≤ 3) (h45 : S.1 45 = nI nu) (hnu : nu ≤ 5) (hT : ∀ t, t < nt → Rw S (1 + 7 * t) (Tb t)) (hN : ∀ t, t < nt → Rw S (2 + 7 * t) (N t)) (hU : ∀ t, t < nt → ∀ j, j < nu → Rw S (3 + 7 * t + j) (Un j t)) : ∃ T, d10_carryOut G nt nv S = (cb (d10_showViews G nt nv (w1 T 45 (nI (min (nu + 1) 5)))) fun (S19 : St) => some S19) ∧ (∀ t, t < nt → Rw T (1 + 7 * t) (N t) ∧ ∀ j, j < min (nu + 1) 5 → Rw T (3 + 7 * t + j) (shf nu (fun j => Un j t) (Tb t) j)) ∧ ∀ k, (k = 0 ∨ 22 ≤ k) → T.1 k = S.1 k ∧ T.2 k = S.2 k := by
  unfold d10_carryOut
  refine lq2 (Q := fun x => ∃ T : St, x = (cb (d10_showViews G nt nv (w1 T 45 (nI (min (nu + 1) 5)))) fun (S19 : St) => some S19) ∧ (∀ t, t < nt → Rw T (1 + 7 * t) (N t) ∧ ∀ j, j < min (nu + 1) 5 → Rw T (3 + 7 * t + j) (shf nu (fun j => Un j t) (Tb t) j)) ∧ ∀ k, (k = 0 ∨ 22 ≤ k) → T.1 k = S.1 k ∧ T.2 k = S.2 k) (fun d (a : Int32) (T : St) => ∃ i, i + d = nt ∧ a = nI i ∧ (∀ t, t < i → Rw T (1 + 7 * t) (N t) ∧ ∀ j, j < min (nu + 1) 5 → Rw T (3 + 7 * t + j) (shf nu (fun j => Un j t) (Tb t) j)) ∧ (∀ k, (k = 0 ∨ 1 + 7 * i ≤ k) → T.1 k = S.1 k ∧ T.2 k = S.2 k)) ?_ _ nt _ _ (FU_lt (by omega)) ⟨0, by omega, rfl, fun t ht => by omega, fun _ _ => ⟨rfl, rfl⟩⟩
  rintro d a T g ⟨i, hi, rfl, hlo, hF⟩ ih
  have t42 : T.1 42 = nI nt := (hF 42 (by omega)).1.trans h42
  have t56 : T.1 56 = nI nt := (hF 56 (by omega)).1.trans h56
  have t45 : T.1 45 = nI nu := (hF 45 (by omega)).1.trans h45
  rw [t42, t45]
  by_cases h0 : d = 0
  · rw [if_pos (nI_le (by omega) (by omega)), nI_1]
    have hz : (if (5 : Int32) < nI (nu + 1) then (5 : Int32) else nI (nu + 1)) = nI (min (nu + 1) 5) := by
      by_cases h5 : nu < 5
      · rw [if_neg (show ¬ (5 : Int32) < nI (nu + 1) from nI_nlt (a := 5) (by omega) (by decide)), Nat.min_eq_left (by omega)]
      · have hn5 : nu = 5 := by omega
        subst hn5
        decide
    rw [lt_d, hz, lt_d]
    exact ⟨T, rfl, fun t ht => hlo t (by omega), fun k hk => hF k (by omega)⟩
  · have hin : i < nt := by omega
    obtain ⟨T1, e1, s1, f1⟩ := remember_n (t := i) (L := fun j => Un j i) (by omega) hnu (fun j hj => (hU i hin j hj).fr (hF _ (by omega)).1 (hF _ (by omega)).2) ((hT i hin).fr (hF _ (by omega)).1 (hF _ (by omega)).2)
    have hNi : Rw T1 (2 + 7 * i) (N i) := ((hN i hin).fr (hF _ (by omega)).1 (hF _ (by omega)).2).fr (f1 _ (by omega)).1 (f1 _ (by omega)).2
    have hNl := hNi.2.1
    rw [dcap_t (by omega)] at hNl
    obtain ⟨T2, e2, s2, f2⟩ := takeOver_n (i := 1 + 7 * i) hNi (by rw [dcap_t (by omega)]; exact hNl) (by omega)
    rw [if_neg (nI_ge hin (by omega)), tableAt_i t42 t56 hnt hin, cb_s, oc_s, gd_t hin, e1, cb_s, e2, cb_s, nI_1]
    refine ih (d - 1) _ _ (by omega) ⟨i + 1, by omega, rfl, fun t ht => ?_, fun k hk => ⟨((f2.1 k (by omega)).trans (f1 k (by omega)).1).trans (hF k (by omega)).1, ((f2.2 k (by omega)).trans (f1 k (by omega)).2).trans (hF k (by omega)).2⟩⟩
    by_cases hti : t = i
    · rw [hti]
      exact ⟨s2, fun j hj => Rw_fr (s1 j hj) f2 (by omega)⟩
    · obtain ⟨b1, b2⟩ := hlo t (by omega)
      exact ⟨Rw_fr (b1.fr (f1 _ (by omega)).1 (f1 _ (by omega)).2) f2 (by omega), fun j hj => Rw_fr ((b2 j hj).fr (f1 _ (by omega)).1 (f1 _ (by omega)).2) f2 (by omega)⟩
/-! the reference's keeps -/
def mkS (S : St) : Option St := lp (fun _ _ => none) (fun (g5 : Int32 → St → Option St) (x3 : Int32) (S4 : St) => if 3 ≤ x3 then (lp (fun _ _ => none) (fun (g9 : Int32 → St → Option St) (x7 : Int32) (S8 : St) => if 36 ≤ x7 then (lt (w1 S8 32 ((S8.1 32) + 1)) fun (S11 : St) => some S11) else (rd x7 36 fun (j12 : Nat) => rd ((36 * (S8.1 32)) + x7) 180 fun (j14 : Nat) => lt (w2 S8 34 j14 (S8.2 6 j12)) fun (S16 : St) => g9 (x7 + 1) S16)) FU 0 S4) else (if (S4.1 2) ≤ x3 then (rd ((3 * (S4.1 32)) + x3) 15 fun (j18 : Nat) => lt (w2 S4 33 j18 0) fun (S20 : St) => g5 (x3 + 1) S20) else (rd x3 3 fun (j21 : Nat) => rd ((3 * (S4.1 32)) + x3) 15 fun (j23 : Nat) => lt (w2 S4 33 j23 (S4.2 5 j21)) fun (S25 : St) => g5 (x3 + 1) S25))) FU 0 S
theorem store_n {M : St} {q nt : Nat} (h32 : M.1 32 = nI q) (hq : q < 5) (h2 : M.1 2 = nI nt) (hnt : nt ≤ 3) : ∃ M', mkS M = some M' ∧ M'.1 32 = nI (q + 1) ∧ (∀ k, k ≠ 32 → M'.1 k = M.1 k) ∧ (∀ k, k ≠ 33 → k ≠ 34 → M'.2 k = M.2 k) ∧ (∀ t, t < 3 → M'.2 33 (3 * q + t) = if t < nt then M.2 5 t else 0) ∧ (∀ i, i < 36 → M'.2 34 (36 * q + i) = M.2 6 i) ∧ (∀ c, ¬ (3 * q ≤ c ∧ c < 3 * q + 3) → M'.2 33 c = M.2 33 c) ∧ ∀ c, ¬ (36 * q ≤ c ∧ c < 36 * q + 36) → M'.2 34 c = M.2 34 c := by
  unfold mkS
  refine lq2 (Q := fun x => ∃ M' : St, x = some M' ∧ M'.1 32 = nI (q + 1) ∧ (∀ k, k ≠ 32 → M'.1 k = M.1 k) ∧ (∀ k, k ≠ 33 → k ≠ 34 → M'.2 k = M.2 k) ∧ (∀ t, t < 3 → M'.2 33 (3 * q + t) = if t < nt then M.2 5 t else 0) ∧ (∀ i, i < 36 → M'.2 34 (36 * q + i) = M.2 6 i) ∧ (∀ c, ¬ (3 * q ≤ c ∧ c < 3 * q + 3) → M'.2 33 c = M.2 33 c) ∧ ∀ c, ¬ (36 * q ≤ c ∧ c < 36 * q + 36) → M'.2 34 c = M.2 34 c) (fun d (a : Int32) (T : St) => ∃ k, k + d = 3 ∧ a = nI k ∧ T.1 = M.1 ∧ (∀ k, k ≠ 33 → T.2 k = M.2 k) ∧ (∀ t, t < k → T.2 33 (3 * q + t) = if t < nt then M.2 5 t else 0) ∧ ∀ c, ¬ (3 * q ≤ c ∧ c < 3 * q + 3) → T.2 33 c = M.2 33 c) ?_ _ 3 _ _ (FU_lt (by omega)) ⟨0, by omega, rfl, rfl, fun _ _ => rfl, fun t ht => by omega, fun _ _ => rfl⟩
  rintro d a T g ⟨k, hk, rfl, hT1, hT2, hT33, hTo⟩ ih
  by_cases h0 : d = 0
  · rw [if_pos (show (3 : Int32) ≤ nI k from nI_le (a := 3) (by omega) (by omega))]
    refine lq2 (Q := fun x => ∃ M' : St, x = some M' ∧ M'.1 32 = nI (q + 1) ∧ (∀ k, k ≠ 32 → M'.1 k = M.1 k) ∧ (∀ k, k ≠ 33 → k ≠ 34 → M'.2 k = M.2 k) ∧ (∀ t, t < 3 → M'.2 33 (3 * q + t) = if t < nt then M.2 5 t else 0) ∧ (∀ i, i < 36 → M'.2 34 (36 * q + i) = M.2 6 i) ∧ (∀ c, ¬ (3 * q ≤ c ∧ c < 3 * q + 3) → M'.2 33 c = M.2 33 c) ∧ ∀ c, ¬ (36 * q ≤ c ∧ c < 36 * q + 36) → M'.2 34 c = M.2 34 c) (fun d (a : Int32) (U : St) => ∃ i, i + d = 36 ∧ a = nI i ∧ U.1 = M.1 ∧ (∀ k, k ≠ 34 → U.2 k = T.2 k) ∧ (∀ c, c < i → U.2 34 (36 * q + c) = M.2 6 c) ∧ ∀ c, ¬ (36 * q ≤ c ∧ c < 36 * q + 36) → U.2 34 c = M.2 34 c) ?_ _ 36 _ _ (FU_lt (by omega)) ⟨0, by omega, rfl, hT1, fun _ _ => rfl, fun t ht => by omega, fun c _ => by rw [hT2 34 (by decide)]⟩
    rintro d2 a U g2 ⟨i, hi, rfl, hU1, hU2, hU34, hUo⟩ ih2
    have u32 : U.1 32 = nI q := by rw [hU1, h32]
    rw [u32]
    by_cases h1 : d2 = 0
    · rw [if_pos (show (36 : Int32) ≤ nI i from nI_le (a := 36) (by omega) (by omega)), nI_1, lt_d]
      refine ⟨_, rfl, w1_eq, fun k hk => by rw [w1_ne hk, hU1], fun k a b => ?_, fun t ht => ?_, fun c hc => hU34 c (by omega), fun c hc => ?_, hUo⟩
      · rw [w1_2, hU2 k b, hT2 k a]
      · rw [w1_2, hU2 33 (by decide)]
        exact hT33 t (by omega)
      · rw [w1_2, hU2 33 (by decide)]
        exact hTo c hc
    · have e6 : U.2 6 i = M.2 6 i := by rw [hU2 6 (by decide), hT2 6 (by decide)]
      rw [if_neg (show ¬ (36 : Int32) ≤ nI i from nI_ge (b := 36) (by omega) (by decide)), rd_n (show i < 36 by omega) (by decide), n36, nI_add, rd_n (show 36 * q + i < 180 by omega) (by decide), lt_d, e6, nI_1]
      refine ih2 (d2 - 1) _ _ (by omega) ⟨i + 1, by omega, rfl, hU1, fun k hk => (w2_ne hk).trans (hU2 k hk), fun c hc => ?_, fun c hc => (w2_nj (by omega)).trans (hUo c hc)⟩
      by_cases hci : c = i
      · rw [hci, w2_at]
      · rw [w2_nj (by omega)]
        exact hU34 c (by omega)
  · have hk3 : k < 3 := by omega
    have t2 : T.1 2 = nI nt := by rw [hT1, h2]
    have t32 : T.1 32 = nI q := by rw [hT1, h32]
    rw [if_neg (show ¬ (3 : Int32) ≤ nI k from nI_ge (b := 3) hk3 (by decide)), t2, t32, n3, nI_add, nI_1]
    have hgo : ∀ x, x = (if k < nt then M.2 5 k else 0) → ∃ M' : St, g (nI (k + 1)) (w2 T 33 (3 * q + k) x) = some M' ∧ M'.1 32 = nI (q + 1) ∧ (∀ k, k ≠ 32 → M'.1 k = M.1 k) ∧ (∀ k, k ≠ 33 → k ≠ 34 → M'.2 k = M.2 k) ∧ (∀ t, t < 3 → M'.2 33 (3 * q + t) = if t < nt then M.2 5 t else 0) ∧ (∀ i, i < 36 → M'.2 34 (36 * q + i) = M.2 6 i) ∧ (∀ c, ¬ (3 * q ≤ c ∧ c < 3 * q + 3) → M'.2 33 c = M.2 33 c) ∧ ∀ c, ¬ (36 * q ≤ c ∧ c < 36 * q + 36) → M'.2 34 c = M.2 34 c := by
      intro x hx
      refine ih (d - 1) _ _ (by omega) ⟨k + 1, by omega, rfl, hT1, fun k hk => (w2_ne hk).trans (hT2 k hk), fun t ht => ?_, fun c hc => (w2_nj (by omega)).trans (hTo c hc)⟩
      by_cases htk : t = k
      · rw [htk, w2_at, hx]
      · rw [w2_nj (by omega)]
        exact hT33 t (by omega)
    by_cases hkn : k < nt
    · rw [if_neg (nI_ge hkn (by omega)), rd_n hk3 (by decide), rd_n (show 3 * q + k < 15 by omega) (by decide), lt_d, hT2 5 (by decide)]
      exact hgo _ (by rw [if_pos hkn])
    · rw [if_pos (nI_le (by omega) (by omega)), rd_n (show 3 * q + k < 15 by omega) (by decide), lt_d]
      exact hgo _ (by rw [if_neg hkn])