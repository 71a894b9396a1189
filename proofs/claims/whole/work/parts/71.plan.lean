/-! ===== planPutBack and goes ===== -/
def mgE (S8 : St) : Option St := rd (S8.1 22) 10 fun (j11 : Nat) => lt (w2 S8 19 j11 0) fun (S13 : St) => lp (fun _ _ => none) (fun (g16 : Int32 → St → Option St) (x14 : Int32) (S15 : St) => if (S15.1 23) ≤ x14 then (lt (w1 S15 30 0) fun (S18 : St) => cb (m_comes (S18.1 22) S18) fun (S20 : St) => gLp FU S20) else (rd x14 20 fun (j33 : Nat) => cb (m_putsRow (S15.1 22) (S15.2 24 j33) S15) fun (S36 : St) => g16 (x14 + 1) S36)) FU 0 S13
theorem goes_d {S : St} : m_goes S = cb (m_laysViews S) fun (S3 : St) => lt (w1 S3 25 0) fun (S4 : St) => lt (w1 S4 26 (-1)) fun (S5 : St) => lt (w1 S5 27 (-1)) fun (S6 : St) => lp (fun _ _ => none) (fun (g9 : Int32 → St → Option St) (x7 : Int32) (S8 : St) => if (S8.1 2) ≤ x7 then mgE S8 else (rd x7 3 fun (j37 : Nat) => rd x7 3 fun (j39 : Nat) => lt (w2 S8 28 j39 (S8.2 5 j37)) fun (S41 : St) => lp (fun _ _ => none) (fun (g44 : Int32 → St → Option St) (x42 : Int32) (S43 : St) => rd x7 3 fun (j45 : Nat) => if (S43.2 5 j45) ≤ x42 then (g9 (x7 + 1) S43) else (rd ((12 * x7) + x42) 36 fun (j48 : Nat) => rd ((12 * x7) + x42) 36 fun (j50 : Nat) => lt (w2 S43 29 j50 (S43.2 6 j48)) fun (S52 : St) => g44 (x42 + 1) S52)) FU 0 S41)) FU 0 S6 := rfl
theorem mtabs_n {M : St} {nt : Nat} {Tb : Nat → List Nat} (h2 : M.1 2 = nI nt) (hnt : nt ≤ 3) (hT : ∀ t, t < nt → Tm M t (Tb t) ∧ (Tb t).length ≤ 12) : ∃ T, lp (fun _ _ => none) (fun (g9 : Int32 → St → Option St) (x7 : Int32) (S8 : St) => if (S8.1 2) ≤ x7 then mgE S8 else (rd x7 3 fun (j37 : Nat) => rd x7 3 fun (j39 : Nat) => lt (w2 S8 28 j39 (S8.2 5 j37)) fun (S41 : St) => lp (fun _ _ => none) (fun (g44 : Int32 → St → Option St) (x42 : Int32) (S43 : St) => rd x7 3 fun (j45 : Nat) => if (S43.2 5 j45) ≤ x42 then (g9 (x7 + 1) S43) else (rd ((12 * x7) + x42) 36 fun (j48 : Nat) => rd ((12 * x7) + x42) 36 fun (j50 : Nat) => lt (w2 S43 29 j50 (S43.2 6 j48)) fun (S52 : St) => g44 (x42 + 1) S52)) FU 0 S41)) FU 0 M = mgE T ∧ T.1 = M.1 ∧ (∀ k, k ≠ 28 → k ≠ 29 → T.2 k = M.2 k) ∧ ∀ t, t < nt → Tn T t (Tb t) := by
  refine lq2 (Q := fun x => ∃ T : St, x = mgE T ∧ T.1 = M.1 ∧ (∀ k, k ≠ 28 → k ≠ 29 → T.2 k = M.2 k) ∧ ∀ t, t < nt → Tn T t (Tb t)) (fun d (a : Int32) (T : St) => ∃ k, k + d = nt ∧ a = nI k ∧ T.1 = M.1 ∧ (∀ k, k ≠ 28 → k ≠ 29 → T.2 k = M.2 k) ∧ ∀ t, t < k → Tn T t (Tb t)) ?_ _ nt _ _ (FU_lt (by omega)) ⟨0, by omega, rfl, rfl, fun _ _ _ => rfl, fun t ht => by omega⟩
  rintro d a T g ⟨k, hk, rfl, hT1, hT2, hTt⟩ ih
  rw [show T.1 2 = nI nt by rw [hT1, h2]]
  by_cases h0 : d = 0
  · rw [if_pos (nI_le (by omega) (by omega))]
    exact ⟨T, rfl, hT1, hT2, fun t ht => hTt t (by omega)⟩
  · have hkn : k < nt := by omega
    obtain ⟨⟨t5, t6⟩, hl12⟩ := hT k hkn
    generalize hL : Tb k = l at *
    have e5 : T.2 5 k = nI l.length := by rw [hT2 5 (by decide) (by decide)]; exact t5
    rw [if_neg (nI_ge hkn (by omega)), rd_n (by omega) (by decide), rd_n (by omega) (by decide), lt_d, e5]
    refine lq2 (Q := fun x => ∃ T : St, x = mgE T ∧ T.1 = M.1 ∧ (∀ k, k ≠ 28 → k ≠ 29 → T.2 k = M.2 k) ∧ ∀ t, t < nt → Tn T t (Tb t)) (fun d (a : Int32) (U : St) => ∃ i, i + d = l.length ∧ a = nI i ∧ U.1 = M.1 ∧ (∀ k, k ≠ 28 → k ≠ 29 → U.2 k = M.2 k) ∧ (∀ t, t < k → Tn U t (Tb t)) ∧ U.2 28 k = nI l.length ∧ ∀ j, j < i → U.2 29 (12 * k + j) = nI (gl l j)) ?_ _ l.length _ _ (FU_lt (by omega)) ⟨0, by omega, rfl, hT1, fun q a b => (w2_ne a).trans (hT2 q a b), fun t ht => ⟨by rw [w2_nj (by omega)]; exact (hTt t ht).1, by rw [w2_ne (by decide)]; exact (hTt t ht).2⟩, w2_at, fun j hj => by omega⟩
    rintro d2 a U g2 ⟨i, hi, rfl, hU1, hU2, hUt, hU28, hU29⟩ ih2
    have u5 : U.2 5 k = nI l.length := by rw [hU2 5 (by decide) (by decide)]; exact t5
    rw [rd_n (by omega) (by decide), u5]
    by_cases h1 : d2 = 0
    · rw [if_pos (nI_le (by omega) (by omega)), nI_1]
      refine ih (d - 1) _ _ (by omega) ⟨k + 1, by omega, rfl, hU1, hU2, fun t ht => ?_⟩
      by_cases htk : t = k
      · subst htk
        rw [hL]
        exact ⟨hU28, fun j hj => hU29 j (by omega)⟩
      · exact hUt t (by omega)
    · have hil : i < l.length := by omega
      have u6 : U.2 6 (12 * k + i) = nI (gl l i) := by rw [hU2 6 (by decide) (by decide)]; exact t6 i hil
      rw [if_neg (nI_ge hil (by omega)), n12, nI_add, rd_n (by omega) (by decide), rd_n (by omega) (by decide), lt_d, u6, nI_1]
      refine ih2 (d2 - 1) _ _ (by omega) ⟨i + 1, by omega, rfl, hU1, fun q a b => (w2_ne b).trans (hU2 q a b), fun t ht => ⟨by rw [w2_ne (by decide)]; exact (hUt t ht).1, fun j hj => ?_⟩, by rw [w2_ne (by decide)]; exact hU28, fun j hj => ?_⟩
      · have := (hT t (by omega)).2
        rw [w2_nj (by omega)]
        exact (hUt t ht).2 j hj
      · by_cases hji : j = i
        · rw [hji, w2_at]
        · rw [w2_nj (by omega)]
          exact hU29 j (by omega)
theorem mdraft_n {T : St} {u : Nat} {l : List Nat} (h22 : T.1 22 = nI u) (hu : u < 10) (h23 : T.1 23 = nI l.length) (h24 : Sg (T.2 24) 0 l) (hs : Srt l) (hok : okL l) (hl : l.length ≤ 20) : ∃ U, mgE T = gLp FU U ∧ Stk U [u] ∧ Vm U 20 19 u l ∧ (∀ k, k ≠ 30 → U.1 k = T.1 k) ∧ ∀ k, k ≠ 19 → k ≠ 20 → k ≠ 31 → k ≠ 35 → U.2 k = T.2 k := by
  obtain ⟨c1, c2⟩ := clrP (M := T) (v := u)
  have hfs := fold_srt hs
  unfold mgE
  rw [h22, rd_n hu (by decide), lt_d]
  refine lq2 (Q := fun x => ∃ U, x = gLp FU U ∧ Stk U [u] ∧ Vm U 20 19 u l ∧ (∀ k, k ≠ 30 → U.1 k = T.1 k) ∧ ∀ k, k ≠ 19 → k ≠ 20 → k ≠ 31 → k ≠ 35 → U.2 k = T.2 k) (fun d (a : Int32) (W : St) => ∃ k, k + d = l.length ∧ a = nI k ∧ Vm W 20 19 u ((l.take k).foldl (fun acc r => insR r acc) []) ∧ FrP u T W) ?_ _ l.length _ _ (FU_lt (by omega)) ⟨0, by omega, rfl, c2, c1⟩
  rintro d a W g ⟨k, hk, rfl, hW, hF⟩ ih
  have w23 : W.1 23 = nI l.length := by rw [hF.1, h23]
  have w22 : W.1 22 = nI u := by rw [hF.1, h22]
  rw [w23]
  by_cases h0 : d = 0
  · have hkl : k = l.length := by omega
    rw [hkl, List.take_length, hfs] at hW
    have hst : Stk (w1 W 30 0) [] := ⟨by rw [w1_eq]; rfl, Sg_nil⟩
    obtain ⟨U, e1, s1, f1, g1⟩ := comes_n (v := u) hst (by decide)
    rw [if_pos (nI_le (by omega) (by omega)), lt_d, w1_ne (by decide), w22, e1, cb_s]
    exact ⟨U, rfl, s1, Vm_W hW (g1 19 (by decide)) (g1 20 (by decide)), fun q hq => by rw [f1 q hq, w1_ne hq, hF.1], fun q a b c d => by rw [g1 q c]; exact hF.2.1 q b a d⟩
  · have hkl : k < l.length := by omega
    have hrk := hok _ (gl_mem hkl)
    have hle := fold_le (f := fun acc r => insR r acc) (fun _ _ => insR_le) (l.take k) []
    rw [List.length_take, List.length_nil] at hle
    have e24 : W.2 24 k = nI (gl l k) := by
      have := h24 k hkl
      rw [hF.2.1 24 (by decide) (by decide) (by decide)]
      rwa [Nat.zero_add] at this
    obtain ⟨W2, e2, h2, f2⟩ := putsRow_n hW hu hrk (Or.inr (by omega))
    rw [if_neg (nI_ge hkl (by omega)), rd_n (by omega) (by decide), w22, e24, e2, cb_s, nI_1]
    refine ih (d - 1) _ _ (by omega) ⟨k + 1, by omega, rfl, ?_, hF.tr f2⟩
    rw [fold_take (f := fun acc r => insR r acc) hkl]
    exact h2
def cpE (G : Gt) (nt nv : Nat) (S12 : St) : Option St := cb (d0_clear S12) fun (S17 : St) => lt (oid (S17.1 44)) fun (o18 : Option Nat) => oc o18 (some S17) fun (u19 : Nat) => gd (u19 < nv) <| lt (oid (S17.1 44)) fun (o21 : Option Nat) => oc o21 none fun (u22 : Nat) => gd (u22 < nv) <| cb (d4_takeOver (23 + 2 * u22) 0 S17) fun (S26 : St) => lt (oid (S26.1 44)) fun (o27 : Option Nat) => cb (d10_passDown G nt nv 12 o27 0 S26) fun (S30 : St) => some S30
theorem plan_d {G : Gt} {nt nv : Nat} {S : St} : d10_planPutBack G nt nv S = lp (fun _ _ => none) (fun (g13 : Int32 → St → Option St) (x11 : Int32) (S12 : St) => if (S12.1 42) ≤ x11 then cpE G nt nv S12 else (cb (d10_tableAt x11 S12) fun (z31 : Option Nat) => oc z31 (g13 (x11 + 1) S12) fun (u33 : Nat) => gd (u33 < nt) <| cb (d4_takeOver (2 + 7 * u33) (1 + 7 * u33) S12) fun (S37 : St) => g13 (x11 + 1) S37)) FU 0 S := rfl
theorem ctabs_n {S : St} {G : Gt} {nt nv : Nat} {Tb : Nat → List Nat} (h42 : S.1 42 = nI nt) (h56 : S.1 56 = nI nt) (hnt : nt ≤ 3) (hR : ∀ t, t < nt → Rw S (1 + 7 * t) (Tb t)) : ∃ T, d10_planPutBack G nt nv S = cpE G nt nv T ∧ (∀ k, ¬ (k = 2 ∨ k = 9 ∨ k = 16) → T.1 k = S.1 k ∧ T.2 k = S.2 k) ∧ ∀ t, t < nt → Rw T (2 + 7 * t) (Tb t) := by
  rw [plan_d]
  refine lq2 (Q := fun x => ∃ T : St, x = cpE G nt nv T ∧ (∀ k, ¬ (k = 2 ∨ k = 9 ∨ k = 16) → T.1 k = S.1 k ∧ T.2 k = S.2 k) ∧ ∀ t, t < nt → Rw T (2 + 7 * t) (Tb t)) (fun d (a : Int32) (T : St) => ∃ k, k + d = nt ∧ a = nI k ∧ (∀ k, ¬ (k = 2 ∨ k = 9 ∨ k = 16) → T.1 k = S.1 k ∧ T.2 k = S.2 k) ∧ ∀ t, t < k → Rw T (2 + 7 * t) (Tb t)) ?_ _ nt _ _ (FU_lt (by omega)) ⟨0, by omega, rfl, fun _ _ => ⟨rfl, rfl⟩, fun t ht => by omega⟩
  rintro d a T g ⟨k, hk, rfl, hF, hT⟩ ih
  have t42 : T.1 42 = nI nt := (hF 42 (by decide)).1.trans h42
  have t56 : T.1 56 = nI nt := (hF 56 (by decide)).1.trans h56
  rw [t42]
  by_cases h0 : d = 0
  · rw [if_pos (nI_le (by omega) (by omega))]
    exact ⟨T, rfl, hF, fun t ht => hT t (by omega)⟩
  · have hkn : k < nt := by omega
    have hl := (hR k hkn).2.1
    rw [dcap_t (by omega)] at hl
    obtain ⟨T1, e1, s1, f1⟩ := takeOver_n (i := 2 + 7 * k) ((hR k hkn).fr (hF _ (by omega)).1 (hF _ (by omega)).2) (by rw [dcap_t (by omega)]; exact hl) (by omega)
    rw [if_neg (nI_ge hkn (by omega)), tableAt_i t42 t56 hnt hkn, cb_s, oc_s, gd_t hkn, e1, cb_s, nI_1]
    refine ih (d - 1) _ _ (by omega) ⟨k + 1, by omega, rfl, fun q hq => ⟨(f1.1 q (by omega)).trans (hF q hq).1, (f1.2 q (by omega)).trans (hF q hq).2⟩, fun t ht => ?_⟩
    by_cases htk : t = k
    · rw [htk]; exact s1
    · exact Rw_fr (hT t (by omega)) f1 (by omega)
theorem cn_9 : cn 9 = 143 := by decide
theorem plan_n {S M : St} {G : Gt} {nt nv u : Nat} {l : List Nat} (h : RR S G nt nv M) (hD : DD G nv S M u l) : ∃ S1 M1 Tb, d10_planPutBack G nt nv S = some S1 ∧ m_goes M = some M1 ∧ RB G nt S M Tb ∧ RR S1 G nt nv M1 ∧ M1.1 0 = M.1 0 ∧ FrC S S1 ∧ FrX M M1 ∧ S1.1 46 = M1.1 25 ∧ S1.1 47 = M1.1 26 ∧ S1.1 48 = M1.1 27 ∧ (M1.1 25 = 0 ∨ ¬ M1.1 25 ≤ 0) ∧ ∀ t, t < nt → ∃ l, Rw S1 (2 + 7 * t) l ∧ Tn M1 t l ∧ FT G t l := by
  have hb := h.b
  obtain ⟨Tb, hB, hV⟩ := h.tb
  obtain ⟨M0, e0, f0, v0⟩ := h.lays hB
  have hR0 : RR S G nt nv M0 := h.m f0.X
  have hC : PC G nt nv Tb S M0 := ⟨hR0, hB.fr (fun _ _ => ⟨rfl, rfl⟩) (f0.2 5 (by decide) (by decide)) (f0.2 6 (by decide) (by decide)), hV, v0⟩
  obtain ⟨hu, h44, h21, h22, hR, h23, h24, hs, hv⟩ := hD
  have hl := hR.2.1
  rw [dcap_0] at hl
  -- the reference up to its loop
  have hz : ∀ k, k ≠ 25 → k ≠ 26 → k ≠ 27 → (w1 (w1 (w1 M0 25 0) 26 (-1)) 27 (-1)).1 k = M.1 k := fun k a b c => by rw [w1_ne c, w1_ne b, w1_ne a, f0.1]
  have hz2 : ∀ k, k ≠ 17 → k ≠ 18 → (w1 (w1 (w1 M0 25 0) 26 (-1)) 27 (-1)).2 k = M.2 k := fun k a b => f0.2 k a b
  obtain ⟨T, e1, t1, t2, t3⟩ := mtabs_n (M := w1 (w1 (w1 M0 25 0) 26 (-1)) 27 (-1)) (Tb := Tb) ((hz 2 (by decide) (by decide) (by decide)).trans h.m2) hb.1 (fun t ht => ⟨⟨by rw [hz2 5 (by decide) (by decide)]; exact (hB t ht).2.1.1, by rw [hz2 6 (by decide) (by decide)]; exact (hB t ht).2.1.2⟩, (hB t ht).2.2.1⟩)
  obtain ⟨U, e2, u1, u2, u3, u4⟩ := mdraft_n (T := T) (u := u) (l := l) (by rw [t1, hz 22 (by decide) (by decide) (by decide), h22]) (by omega) (by rw [t1, hz 23 (by decide) (by decide) (by decide), h23]) (by rw [t2 24 (by decide) (by decide), hz2 24 (by decide) (by decide)]; exact h24) hs hR.2.2.2 hl
  have hg : m_goes M = gLp FU U := by
    rw [goes_d, e0, cb_s, lt_d, lt_d, lt_d, e1, e2]
  -- the class up to passDown
  obtain ⟨X, c1, c2, c3⟩ := ctabs_n (G := G) (nv := nv) h.s42 h.s56 hb.1 (fun t ht => (hB t ht).1)
  have hx0 : Rw (apC X 0 (-1) (-1)) 0 l := hR.fr (by
    unfold apC
    rw [w1_ne (by decide), w1_ne (by decide), w1_ne (by decide), (c2 0 (by decide)).1]) (c2 0 (by decide)).2
  obtain ⟨Y, y1, y2, y3⟩ := takeOver_n (i := 23 + 2 * u) hx0 (by rw [dcap_w]; omega) (by omega)
  have x44 : (apC X 0 (-1) (-1)).1 44 = nI u := by
    unfold apC
    rw [w1_ne (by decide), w1_ne (by decide), w1_ne (by decide), (c2 44 (by decide)).1, h44]
  have hcl : d10_planPutBack G nt nv S = cb (d10_passDown G nt nv 12 (some u) (nI 0) Y) fun (S30 : St) => some S30 := by
    rw [c1]
    unfold cpE d0_clear
    rw [tell_n, cb_s, cb_s, lt_d, x44, oid_nI (by omega), oc_s, gd_t hu, lt_d, oc_s, gd_t hu, y1, cb_s, lt_d, y3.1 44 (by omega), x44, oid_nI (by omega)]
    rfl
  -- the relation at the start
  have ya : ∀ k, k ≠ 46 → k ≠ 47 → k ≠ 48 → (apC X 0 (-1) (-1)).1 k = X.1 k := fun k a b c => by
    unfold apC
    rw [w1_ne c, w1_ne b, w1_ne a]
  have hW : ∀ w, w = u → Wn G nv Tb Y U w := by
    rintro w rfl
    refine ⟨hu, l, y2, u2, ⟨(hC.fv hu).1, hs, ?_⟩, hv⟩
    exact Nat.le_trans (List.length_filter_le _ _) hl
  have hRel : Rel G nt nv Tb S M0 (fun w => w = u) Y U := by
    refine ⟨⟨fun k hk => ?_, fun k hk2 hk => ?_⟩, ⟨fun k a b c d e => ?_, fun k hk => ?_⟩, ⟨?_, ?_, ?_⟩, ⟨?_, ?_, ?_, Or.inl (by rw [u3 25 (by decide), t1, w1_ne (by decide), w1_ne (by decide), w1_eq])⟩, fun t ht => ⟨Tb t, ?_, ?_, (hB t ht).2.2⟩, hW⟩
    · have hk3 : k ≠ 23 + 2 * u := fun z => hk (by unfold scr; omega)
      rw [y3.1 k hk3, ya k (fun z => hk (by unfold scr; omega)) (fun z => hk (by unfold scr; omega)) (fun z => hk (by unfold scr; omega)), (c2 k (fun z => hk (by unfold scr; omega))).1]
    · have hk3 : k ≠ 23 + 2 * u := fun z => hk (by unfold scr; omega)
      rw [y3.2 k hk3]
      exact (c2 k (fun z => hk (by unfold scr; omega))).2
    · rw [u3 k e, t1, w1_ne d, w1_ne c, w1_ne b]
    · rw [u4 k (by omega) (by omega) (by omega) (by omega), t2 k (by omega) (by omega)]
      rfl
    · rw [u4 17 (by decide) (by decide) (by decide) (by decide), t2 17 (by decide) (by decide)]
      rfl
    · rw [u4 18 (by decide) (by decide) (by decide) (by decide), t2 18 (by decide) (by decide)]
      rfl
    · rw [u3 0 (by decide), t1, w1_ne (by decide), w1_ne (by decide), w1_ne (by decide)]
    · rw [y3.1 46 (by omega), apC_46, u3 25 (by decide), t1, w1_ne (by decide), w1_ne (by decide), w1_eq]
    · rw [y3.1 47 (by omega), u3 26 (by decide), t1, w1_ne (by decide), w1_eq]
      unfold apC
      rw [w1_ne (by decide), w1_eq]
    · rw [y3.1 48 (by omega), u3 27 (by decide), t1, w1_eq]
      unfold apC
      rw [w1_eq]
    · refine Rw_fr ((c3 t ht).fr (ya _ (by omega) (by omega) (by omega)) rfl) y3 (by omega)
    · exact (t3 t ht).fr (u4 28 (by decide) (by decide) (by decide) (by decide)) (u4 29 (by decide) (by decide) (by decide) (by decide))
  have hu25 : U.1 25 = 0 := by rw [u3 25 (by decide), t1, w1_ne (by decide), w1_ne (by decide), w1_eq]
  obtain ⟨S1, M1, c, hc, p1, p2, p3⟩ := down_n hC (u + 1) u (Nat.lt_succ_self u) hu (fun w => w = u) Y U [] 12 0 hRel rfl u1 (by simp; omega) (by omega) (by omega) hu25
  have hc9 : c ≤ 143 := by
    have h1 : cn u ≤ cn 9 := cn_mo (by omega)
    rw [cn_9] at h1
    omega
  have hfin : gLp FU U = some M1 := by
    rcases p3 with ⟨z1, z2, z3⟩ | ⟨z1, z2⟩
    · have := z3 (1000 - c)
      rw [show 1000 - c + c = FU by unfold FU; omega] at this
      rw [this, show 1000 - c = (999 - c) + 1 by omega, gLp_s]
      refine gF_end (Or.inl ?_)
      rw [z2.1]
      decide
    · have := z2 (999 - c)
      rwa [show 999 - c + c + 1 = FU by unfold FU; omega] at this
  rw [p1, cb_s] at hcl
  exact ⟨S1, M1, Tb, hcl, hg.trans hfin, hB, hR0.sc p2.1 p2.2.1, p2.2.2.1.2.2.trans (by rw [f0.1]), p2.1, f0.X.tr p2.2.1, p2.2.2.2.1.1, p2.2.2.2.1.2.1, p2.2.2.2.1.2.2.1, p2.2.2.2.1.2.2.2, p2.2.2.2.2.1⟩
