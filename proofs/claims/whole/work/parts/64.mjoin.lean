/-! ===== the reference passes on through a join, and to a table ===== -/
theorem join_k {G : Gt} {M : St} {v : Nat} (hK : KM G M v) (k6 : G v 6 = 2) : M.2 8 v = 3 ∧ M.2 9 v = G v 4 ∧ M.2 10 v = G v 5 := by
  rcases hK.2.2.2 with z | z | z | z
  · exact absurd (k6.symm.trans z.1) (by decide)
  · exact absurd (k6.symm.trans z.1) (by decide)
  · exact absurd (k6.symm.trans z.1) (by decide)
  · exact z.2
theorem mright_n {M : St} {G : Gt} {v : Nat} {l V : List Nat} (hP : PW M) (h10 : M.2 10 v = nI (vr G v)) (q14 : M.2 14 (vr G v) = G (vr G v) 1) (q15 : M.2 15 (vr G v) = G (vr G v) 2) (hv : v < 10) (hrv : vr G v < v) (h : Vm M 20 19 v l) (hV : Vm M 18 17 (vr G v) V) (hl : l.length ≤ 32) (hC : okC V (wP (G (vr G v) 1) l)) : ∃ M', m_putsRight (nI v) M = some M' ∧ Vm M' 20 19 (vr G v) (paR G V v l) ∧ FrP (vr G v) M M' := by
  have hV12 := hC.1
  obtain ⟨c1, c2⟩ := clrP (M := M) (v := vr G v)
  unfold m_putsRight
  rw [rd_n hv (by decide), h10, rd_n (by omega) (by decide), lt_d]
  refine lq2 (Q := fun x => ∃ M', x = some M' ∧ Vm M' 20 19 (vr G v) (paR G V v l) ∧ FrP (vr G v) M M') (fun d (a : Int32) (T : St) => ∃ k, k + d = l.length ∧ a = nI k ∧ Vm T 20 19 (vr G v) ((l.take k).foldl (fun acc r => insR (pt (G (vr G v) 1) r) acc) []) ∧ FrP (vr G v) M T) ?_ _ l.length _ _ (FU_lt (by omega)) ⟨0, by omega, rfl, c2, c1⟩
  rintro d a T g ⟨k, hk, rfl, hT, hF⟩ ih
  have hTl := hF.vm h (by omega)
  have hTP := hF.pw hP
  rw [rd_n hv (by decide), hTl.1]
  by_cases h0 : d = 0
  · have hkl : k = l.length := by omega
    rw [if_pos (nI_le (by omega) (by omega)), rd_n (by omega) (by decide)]
    rw [hkl, List.take_length] at hT
    have hT' : Vm T 20 19 (vr G v) (wP (G (vr G v) 1) l) := hT
    have hT4 := hT'.2.2.2
    rw [hT'.1]
    generalize hA : wP (G (vr G v) 1) l = acc0 at *
    have hpa : paR G V v l = (V.filter (free (G (vr G v) 2) acc0)).foldl (fun acc r => insR r acc) acc0 := by
      unfold paR
      rw [hA]
      exact filt_fold fun acc r => rfl
    have hfl : (V.filter (free (G (vr G v) 2) acc0)).length ≤ V.length := List.length_filter_le _ _
    -- collect, then put
    refine lq3 (Q := fun x => ∃ M', x = some M' ∧ Vm M' 20 19 (vr G v) (paR G V v l) ∧ FrP (vr G v) M M') (fun d (a b : Int32) (U : St) => ∃ i, i + d = V.length ∧ b = nI i ∧ a = nI ((V.take i).filter (free (G (vr G v) 2) acc0)).length ∧ Vm U 20 19 (vr G v) acc0 ∧ FrP (vr G v) M U ∧ Sg (U.2 35) 0 ((V.take i).filter (free (G (vr G v) 2) acc0))) ?_ _ V.length _ _ _ (FU_lt (by omega)) ⟨0, by omega, rfl, rfl, hT', hF, Sg_nil⟩
    rintro d2 a b U g2 ⟨i, hi, rfl, rfl, hU, hFU, hC35⟩ ih2
    have hUP := hFU.pw hP
    have hUV := hFU.vs hV
    have hfi : ((V.take i).filter (free (G (vr G v) 2) acc0)).length ≤ i := Nat.le_trans (List.length_filter_le _ _) (by rw [List.length_take]; omega)
    rw [rd_n (by omega) (by decide), hUV.1]
    by_cases h1 : d2 = 0
    · have hil : i = V.length := by omega
      rw [if_pos (nI_le (by omega) (by omega))]
      rw [hil, List.take_length] at hC35 hfi ⊢
      generalize hB : V.filter (free (G (vr G v) 2) acc0) = B at *
      have hBV : ∀ r, r ∈ B → r ∈ V := fun r hr => (List.mem_filter.mp (hB ▸ hr)).1
      refine lq2 (Q := fun x => ∃ M', x = some M' ∧ Vm M' 20 19 (vr G v) (paR G V v l) ∧ FrP (vr G v) M M') (fun d (a : Int32) (W : St) => ∃ j, j + d = B.length ∧ a = nI j ∧ Vm W 20 19 (vr G v) ((B.take j).foldl (fun acc r => insR r acc) acc0) ∧ FrP (vr G v) M W ∧ Sg (W.2 35) 0 B) ?_ _ B.length _ _ (FU_lt (by omega)) ⟨0, by omega, rfl, hU, hFU, hC35⟩
      rintro d3 a W g3 ⟨j, hj, rfl, hW, hFW, hW35⟩ ih3
      by_cases h2 : d3 = 0
      · have hjl : j = B.length := by omega
        rw [if_pos (nI_le (by omega) (by omega))]
        rw [hjl, List.take_length] at hW
        refine ⟨W, rfl, ?_, hFW⟩
        rw [hpa]
        exact hW
      · have hjl : j < B.length := by omega
        have hrk : gl B j < 1000000 := hV.2.2.1 _ (hBV _ (gl_mem hjl))
        have ft := fold_takeA (f := fun acc r => insR r acc) (acc := acc0) hjl
        have hok : okC V ((B.take (j + 1)).foldl (fun acc r => insR r acc) acc0) := add_okC (fun _ _ => Or.inr rfl) (fun r hr => hBV r (List.mem_of_mem_take hr)) hC
        rw [ft] at hok
        have e35 : W.2 35 j = nI (gl B j) := by
          have := hW35 j hjl
          rwa [Nat.zero_add] at this
        obtain ⟨W2, e2, s2, f2⟩ := putsRow_n hW (by omega) hrk (hok.room.imp id (by omega))
        rw [if_neg (nI_ge hjl (by omega)), rd_n (by omega) (by decide), e35, e2, cb_s, nI_1]
        refine ih3 (d3 - 1) _ _ (by omega) ⟨j + 1, by omega, rfl, ?_, hFW.tr f2, ?_⟩
        · rw [ft]
          exact s2
        · have : W2.2 35 = W.2 35 := by
            unfold m_putsRow at e2
            rw [rd_n (show vr G v < 10 by omega) (by decide), hW.1] at e2
            obtain ⟨X, x1, x2, x3⟩ := layV_n hW rfl (by decide) (by omega) hrk (hok.room.imp id (by omega))
            rw [x1, cb2_s, rd_n (show vr G v < 10 by omega) (by decide), lt_d] at e2
            have e3 := Option.some.inj e2
            rw [← e3]
            exact x3.2.1 35 (by decide) (by decide)
          rw [this]
          exact hW35
    · have hil : i < V.length := by omega
      have hrk := hV.2.2.1 _ (gl_mem hil)
      have e18 : U.2 18 (40 * vr G v + i) = nI (gl V i) := hUV.2.1 i hil
      have e15 : U.2 15 (vr G v) = G (vr G v) 2 := by rw [hFU.2.1 15 (by decide) (by decide) (by decide), q15]
      have htk : (V.take (i + 1)).filter (free (G (vr G v) 2) acc0) = (V.take i).filter (free (G (vr G v) 2) acc0) ++ (if free (G (vr G v) 2) acc0 (gl V i) = true then [gl V i] else []) := by
        rw [take_gl hil, List.filter_append]
        congr 1
        by_cases he : free (G (vr G v) 2) acc0 (gl V i) = true
        · rw [if_pos he, List.filter_cons_of_pos he]; rfl
        · rw [if_neg he, List.filter_cons_of_neg he]; rfl
      rw [if_neg (nI_ge hil (by omega)), n40, nI_add, rd_n (by omega) (by decide), rd_n (by omega) (by decide), rd_n (by omega) (by decide), e18, e15, mpart_n hUP (by omega), cb_s, ← n40, rowV_n hUP hU rfl (by omega) pt31, cb_s]
      rcases oN_free (k := G (vr G v) 2) (r := gl V i) hU.2.2.1 with ⟨z1, z2⟩ | ⟨z1, z2⟩
      · rw [if_pos z1, rd_n (by omega) (by decide), lt_d, nI_1, nI_1]
        rw [if_pos z2] at htk
        have hlen : ((V.take i).filter (free (G (vr G v) 2) acc0)).length + 1 = ((V.take (i + 1)).filter (free (G (vr G v) 2) acc0)).length := by
          rw [htk, List.length_append]; rfl
        rw [hlen]
        refine ih2 (d2 - 1) _ _ _ (by omega) ⟨i + 1, by omega, rfl, rfl, ⟨?_, ?_, hU.2.2⟩, hFU.tr ⟨rfl, fun q _ _ hq => w2_ne hq, fun q _ => by rw [w2_ne (by decide)], fun q _ => by rw [w2_ne (by decide)]⟩, fun q hq => ?_⟩
        · rw [w2_ne (by decide)]; exact hU.1
        · rw [w2_ne (by decide)]; exact hU.2.1
        · rw [htk, List.length_append, List.length_singleton] at hq
          rw [htk, Nat.zero_add]
          by_cases hqe : q = ((V.take i).filter (free (G (vr G v) 2) acc0)).length
          · rw [hqe, w2_at, gl_append_at]
          · rw [w2_nj hqe, gl_append_l (by omega)]
            have := hC35 q (by omega)
            rwa [Nat.zero_add] at this
      · rw [if_neg z1, nI_1]
        rw [if_neg z2, List.append_nil] at htk
        refine ih2 (d2 - 1) _ _ _ (by omega) ⟨i + 1, by omega, rfl, by rw [htk], hU, hFU, by rw [htk]; exact hC35⟩
  · have hkl : k < l.length := by omega
    have hrk := h.2.2.1 _ (gl_mem hkl)
    have hle := fold_le (f := fun acc r => insR (pt (G (vr G v) 1) r) acc) (fun _ _ => insR_le) (l.take k) []
    rw [List.length_take, List.length_nil] at hle
    have e20 : T.2 20 (40 * v + k) = nI (gl l k) := hTl.2.1 k hkl
    obtain ⟨T2, e2, h2, f2⟩ := putsRow_n hT (by omega) (pt_lt (G (vr G v) 1) (gl l k)) (Or.inr (by omega))
    rw [if_neg (nI_ge hkl (by omega)), n40, nI_add, rd_n (by omega) (by decide), rd_n (by omega) (by decide), e20, hF.2.1 14 (by decide) (by decide) (by decide), q14, mpart_n hTP (by omega), cb_s, e2, cb_s, nI_1]
    refine ih (d - 1) _ _ (by omega) ⟨k + 1, by omega, rfl, ?_, hF.tr f2⟩
    rw [fold_take (f := fun acc r => insR (pt (G (vr G v) 1) r) acc) hkl]
    exact h2
theorem both_n {M : St} {G : Gt} {v : Nat} (h9 : M.2 9 v = nI (vl G v)) (h10 : M.2 10 v = nI (vr G v)) (l14 : M.2 14 (vl G v) = G (vl G v) 1) (r14 : M.2 14 (vr G v) = G (vr G v) 1) (hv : v < 10) (hlv : vl G v < v) (hrv : vr G v < v) (a10 : G v 10 = (G (vl G v) 1 &&& G (vr G v) 1)) : m_both (nI v) M = some (G v 10) := by
  unfold m_both
  rw [rd_n hv (by decide), h9, rd_n (by omega) (by decide), rd_n hv (by decide), h10, rd_n (by omega) (by decide), l14, r14, a10]
theorem mleft_n {M : St} {G : Gt} {v : Nat} {l W V : List Nat} (hP : PW M) (h9 : M.2 9 v = nI (vl G v)) (h10 : M.2 10 v = nI (vr G v)) (l14 : M.2 14 (vl G v) = G (vl G v) 1) (r14 : M.2 14 (vr G v) = G (vr G v) 1) (q15 : M.2 15 v = G v 2) (a2 : G v 2 = G (vl G v) 2) (a10 : G v 10 = (G (vl G v) 1 &&& G (vr G v) 1)) (hsub : sub (G (vl G v) 2) (G (vl G v) 1)) (hv : v < 10) (hlv : vl G v < v) (hrv : vr G v < v) (hne : vl G v ≠ vr G v) (h : Vm M 20 19 v l) (hW : Vm M 20 19 (vr G v) W) (hV : Vm M 18 17 (vl G v) V) (hl : l.length ≤ 32) (hC : okC V (wP (G (vl G v) 1) l)) : ∃ M', m_putsLeft (nI v) M = some M' ∧ Vm M' 20 19 (vl G v) (paL G V W v l) ∧ FrP (vl G v) M M' := by
  have hV12 := hC.1
  obtain ⟨c1, c2⟩ := clrP (M := M) (v := vl G v)
  unfold m_putsLeft
  rw [rd_n hv (by decide), rd_n hv (by decide), h9, rd_n (by omega) (by decide), lt_d]
  refine lq2 (Q := fun x => ∃ M', x = some M' ∧ Vm M' 20 19 (vl G v) (paL G V W v l) ∧ FrP (vl G v) M M') (fun d (a : Int32) (T : St) => ∃ k, k + d = l.length ∧ a = nI k ∧ Vm T 20 19 (vl G v) ((l.take k).foldl (fun acc r => insR (pt (G (vl G v) 1) r) acc) []) ∧ FrP (vl G v) M T) ?_ _ l.length _ _ (FU_lt (by omega)) ⟨0, by omega, rfl, c2, c1⟩
  rintro d a T g ⟨k, hk, rfl, hT, hF⟩ ih
  have hTl := hF.vm h (by omega)
  have hTP := hF.pw hP
  rw [rd_n hv (by decide), hTl.1]
  by_cases h0 : d = 0
  · have hkl : k = l.length := by omega
    rw [if_pos (nI_le (by omega) (by omega))]
    rw [hkl, List.take_length] at hT
    have hT' : Vm T 20 19 (vl G v) (wP (G (vl G v) 1) l) := hT
    refine lq2 (Q := fun x => ∃ M', x = some M' ∧ Vm M' 20 19 (vl G v) (paL G V W v l) ∧ FrP (vl G v) M M') (fun d (a : Int32) (U : St) => ∃ i, i + d = V.length ∧ a = nI i ∧ Vm U 20 19 (vl G v) ((V.take i).foldl (adL (G (vl G v) 2) (G v 10) (wP (G (vl G v) 1) l) W) (wP (G (vl G v) 1) l)) ∧ FrP (vl G v) M U) ?_ _ V.length _ _ (FU_lt (by omega)) ⟨0, by omega, rfl, hT', hF⟩
    rintro d2 a U g2 ⟨i, hi, rfl, hU, hFU⟩ ih2
    have hUP := hFU.pw hP
    have ev := fun k (a : k ≠ 20) (b : k ≠ 19) (c : k ≠ 35) => hFU.2.1 k a b c
    have hUl := hFU.vm h (by omega)
    have hUW := hFU.vm hW (Ne.symm hne)
    have hUV := hFU.vs hV
    rw [rd_n (by omega) (by decide), hUV.1]
    by_cases h1 : d2 = 0
    · have hil : i = V.length := by omega
      rw [if_pos (nI_le (by omega) (by omega))]
      rw [hil, List.take_length] at hU
      exact ⟨U, rfl, hU, hFU⟩
    · have hil : i < V.length := by omega
      have hrk := hV.2.2.1 _ (gl_mem hil)
      have ft := fold_takeA (f := adL (G (vl G v) 2) (G v 10) (wP (G (vl G v) 1) l) W) (acc := wP (G (vl G v) 1) l) hil
      have hok := pre_okC (f := adL (G (vl G v) 2) (G v 10) (wP (G (vl G v) 1) l) W) adL_or hC (i + 1)
      rw [ft] at hok
      have e18 : U.2 18 (40 * vl G v + i) = nI (gl V i) := hUV.2.1 i hil
      have hbo : m_both (nI v) U = some (G v 10) := both_n (by rw [ev 9 (by decide) (by decide) (by decide), h9]) (by rw [ev 10 (by decide) (by decide) (by decide), h10]) (by rw [ev 14 (by decide) (by decide) (by decide), l14]) (by rw [ev 14 (by decide) (by decide) (by decide), r14]) hv hlv hrv a10
      have hfq : free (G v 2) l (gl V i) = free (G (vl G v) 2) (wP (G (vl G v) 1) l) (gl V i) := by rw [free_wP hsub, a2]
      rw [if_neg (nI_ge hil (by omega)), n40, nI_add, rd_n (by omega) (by decide), h10, rd_n (by omega) (by decide), hbo, cb_s, cb_s, e18, mpart_n hUP (by omega), cb_s, hUW.1, rowV_n hUP hUW rfl (by omega) pt31, cb_s, jn_d]
      have hpl : ∀ (x : Int32), ((x = 0 ∧ free (G v 10) W (gl V i) = true) ∨ (¬ x = 0 ∧ ¬ free (G v 10) W (gl V i) = true)) → ∃ M', (cb (m_isFree (nI v) (nI (gl V i)) U) fun (z32 : Int32) => if z32 = 0 then (g2 (nI i + 1) U) else (if x = 0 then (cb (m_putsRow (nI (vl G v)) (nI (gl V i)) U) fun (S36 : St) => g2 (nI i + 1) S36) else (g2 (nI i + 1) U))) = some M' ∧ Vm M' 20 19 (vl G v) (paL G V W v l) ∧ FrP (vl G v) M M' := by
        intro x hx
        rw [isFree_n hUP hUl (by rw [ev 15 (by decide) (by decide) (by decide), q15]) hv (by omega), cb_s, hfq]
        by_cases hfr : free (G (vl G v) 2) (wP (G (vl G v) 1) l) (gl V i) = true
        · rw [if_pos hfr, if_neg z10]
          rcases hx with ⟨x0, xf⟩ | ⟨x0, xf⟩
          · have e : ∀ acc, adL (G (vl G v) 2) (G v 10) (wP (G (vl G v) 1) l) W acc (gl V i) = insR (gl V i) acc := fun acc => if_pos ⟨hfr, xf⟩
            rw [if_pos x0]
            rw [e] at hok
            obtain ⟨U2, e2, h2, f2⟩ := putsRow_n hU (by omega) hrk (hok.room.imp id (by omega))
            rw [e2, cb_s, nI_1]
            refine ih2 (d2 - 1) _ _ (by omega) ⟨i + 1, by omega, rfl, ?_, hFU.tr f2⟩
            rw [ft, e]
            exact h2
          · have e : ∀ acc, adL (G (vl G v) 2) (G v 10) (wP (G (vl G v) 1) l) W acc (gl V i) = acc := fun acc => if_neg (fun z => xf z.2)
            rw [if_neg x0, nI_1]
            refine ih2 (d2 - 1) _ _ (by omega) ⟨i + 1, by omega, rfl, ?_, hFU⟩
            rw [ft, e]
            exact hU
        · have e : ∀ acc, adL (G (vl G v) 2) (G v 10) (wP (G (vl G v) 1) l) W acc (gl V i) = acc := fun acc => if_neg (fun z => hfr z.1)
          rw [if_neg hfr, if_pos z00, nI_1]
          refine ih2 (d2 - 1) _ _ (by omega) ⟨i + 1, by omega, rfl, ?_, hFU⟩
          rw [ft, e]
          exact hU
      rcases oN_free (k := G v 10) (r := gl V i) hUW.2.2.1 with ⟨z1, z2⟩ | ⟨z1, z2⟩
      · rw [if_pos z1]
        exact hpl 0 (Or.inl ⟨rfl, z2⟩)
      · rw [if_neg z1]
        exact hpl 1 (Or.inr ⟨z10, z2⟩)
  · have hkl : k < l.length := by omega
    have hrk := h.2.2.1 _ (gl_mem hkl)
    have hle := fold_le (f := fun acc r => insR (pt (G (vl G v) 1) r) acc) (fun _ _ => insR_le) (l.take k) []
    rw [List.length_take, List.length_nil] at hle
    have e20 : T.2 20 (40 * v + k) = nI (gl l k) := hTl.2.1 k hkl
    obtain ⟨T2, e2, h2, f2⟩ := putsRow_n hT (by omega) (pt_lt (G (vl G v) 1) (gl l k)) (Or.inr (by omega))
    rw [if_neg (nI_ge hkl (by omega)), n40, nI_add, rd_n (by omega) (by decide), rd_n (by omega) (by decide), e20, hF.2.1 14 (by decide) (by decide) (by decide), l14, mpart_n hTP (by omega), cb_s, e2, cb_s, nI_1]
    refine ih (d - 1) _ _ (by omega) ⟨k + 1, by omega, rfl, ?_, hF.tr f2⟩
    rw [fold_take (f := fun acc r => insR (pt (G (vl G v) 1) r) acc) hkl]
    exact h2
/-- a table's new rows -/
def Tn (M : St) (t : Nat) (l : List Nat) : Prop := M.2 28 t = nI l.length ∧ Sg (M.2 29) (12 * t) l
theorem mtable_n {M : St} {v t : Nat} {l : List Nat} (h9 : M.2 9 v = nI t) (hv : v < 10) (ht : t < 3) (h : Vm M 20 19 v l) (hl : l.length ≤ 12) : ∃ M', m_putsTable (nI v) M = some M' ∧ Tn M' t l ∧ M'.1 = M.1 ∧ (∀ k, k ≠ 28 → k ≠ 29 → M'.2 k = M.2 k) ∧ (∀ j, j ≠ t → M'.2 28 j = M.2 28 j) ∧ ∀ j, (j < 12 * t ∨ 12 * t + 12 ≤ j) → M'.2 29 j = M.2 29 j := by
  unfold m_putsTable
  rw [rd_n hv (by decide), rd_n hv (by decide), h9, rd_n ht (by decide), h.1, lt_d]
  refine lq2 (Q := fun x => ∃ M', x = some M' ∧ Tn M' t l ∧ M'.1 = M.1 ∧ (∀ k, k ≠ 28 → k ≠ 29 → M'.2 k = M.2 k) ∧ (∀ j, j ≠ t → M'.2 28 j = M.2 28 j) ∧ ∀ j, (j < 12 * t ∨ 12 * t + 12 ≤ j) → M'.2 29 j = M.2 29 j) (fun d (a : Int32) (U : St) => ∃ k, k + d = l.length ∧ a = nI k ∧ U.2 28 t = nI l.length ∧ (∀ j, j < k → U.2 29 (12 * t + j) = nI (gl l j)) ∧ U.1 = M.1 ∧ (∀ k, k ≠ 28 → k ≠ 29 → U.2 k = M.2 k) ∧ (∀ j, j ≠ t → U.2 28 j = M.2 28 j) ∧ ∀ j, (j < 12 * t ∨ 12 * t + 12 ≤ j) → U.2 29 j = M.2 29 j) ?_ _ l.length _ _ (FU_lt (by omega)) ⟨0, by omega, rfl, w2_at, fun j hj => by omega, rfl, fun k a b => w2_ne a, fun j hj => w2_nj hj, fun j hj => by rw [w2_ne (by decide)]⟩
  rintro d a U g ⟨k, hk, rfl, h28, hlo, hU1, hU2, hU28, hU29⟩ ih
  have e19 : U.2 19 v = nI l.length := by rw [hU2 19 (by decide) (by decide), h.1]
  rw [rd_n hv (by decide), e19]
  by_cases h0 : d = 0
  · rw [if_pos (nI_le (by omega) (by omega))]
    exact ⟨U, rfl, ⟨h28, fun j hj => hlo j (by omega)⟩, hU1, hU2, hU28, hU29⟩
  · have hkl : k < l.length := by omega
    have e20 : U.2 20 (40 * v + k) = nI (gl l k) := by
      rw [hU2 20 (by decide) (by decide)]
      exact h.2.1 k hkl
    rw [if_neg (nI_ge hkl (by omega)), n40, nI_add, rd_n (by omega) (by decide), n12, nI_add, rd_n (by omega) (by decide), lt_d, e20, nI_1]
    refine ih (d - 1) _ _ (by omega) ⟨k + 1, by omega, rfl, ?_, fun j hj => ?_, hU1, fun q a b => (w2_ne b).trans (hU2 q a b), fun j hj => ?_, fun j hj => ?_⟩
    · rw [w2_ne (by decide)]; exact h28
    · by_cases hjk : j = k
      · rw [hjk, w2_at]
      · rw [w2_nj (by omega)]
        exact hlo j (by omega)
    · rw [w2_ne (by decide)]
      exact hU28 j hj
    · rw [w2_nj (by omega)]
      exact hU29 j hj
