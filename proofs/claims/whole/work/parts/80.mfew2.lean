/-! ===== fewest: the reference's loop ===== -/
theorem Srt_inj {L : List Nat} {i j : Nat} (h : Srt L) (hi : i < L.length) (hj : j < L.length) (he : gl L i = gl L j) : i = j := by
  rcases Nat.lt_trichotomy i j with z | z | z
  · have := h i j z hj; omega
  · exact z
  · have := h j i z hi; omega
theorem rs_hi {L : List Nat} {x : Int32} {n : Nat} : ∀ {k : Nat}, n ≤ k → (∀ i, n ≤ i → i < k → bq x i = false) → rs L x k = rs L x n := by
  intro k
  induction k with
  | zero => intro h _; rw [show n = 0 by omega]
  | succ k ih =>
    intro h hz
    by_cases hn : n = k + 1
    · rw [hn]
    · show (if bq x k then _ else _ : List Nat) = _
      rw [hz k (by omega) (Nat.lt_succ_self k), if_neg (by simp)]
      exact ih (by omega) fun i a b => hz i a (by omega)
theorem gk_iff {L : List Nat} {ks x : Int32} (hL : L.length ≤ 9) : gk L ks x 9 ↔ (∀ i, i < 9 → L.length ≤ i → bq x i = false) ∧ UL L ks x := by
  constructor
  · rintro ⟨a, b⟩
    refine ⟨fun i hi hli => ?_, fun i j hi hj hij bi bj => ?_⟩
    · cases hb : bq x i
      · rfl
      · have := a i hi hb
        omega
    · rcases Nat.lt_or_ge i j with z | z
      · exact b i j z (by omega) bi bj
      · exact fun he => b j i (by omega) (by omega) bj bi he.symm
  · rintro ⟨a, b⟩
    refine ⟨fun i hi bi => ?_, fun i j hij hj bi bj => ?_⟩
    · rcases Nat.lt_or_ge i L.length with z | z
      · exact z
      · rw [a i hi z] at bi; cases bi
    · have hjl : j < L.length := by
        rcases Nat.lt_or_ge j L.length with z | z
        · exact z
        · rw [a j hj z] at bj; cases bj
      exact b i j (by omega) hjl (by omega) bi bj
theorem sum_add {f g : Nat → Nat} : ∀ n, sumN f n + sumN g n = sumN (fun i => f i + g i) n := by
  intro n
  induction n with
  | zero => rfl
  | succ n ih =>
    show sumN f n + f n + (sumN g n + g n) = sumN (fun i => f i + g i) n + (f n + g n)
    rw [← ih]
    omega
theorem filt_sum {L : List Nat} {p : Nat → Bool} : ∀ k, k ≤ L.length → ((L.take k).filter p).length = sumN (fun i => if p (gl L i) = true then 1 else 0) k := by
  intro k
  induction k with
  | zero => intro _; rfl
  | succ k ih =>
    intro hk
    show _ = sumN _ k + (if p (gl L k) = true then 1 else 0)
    rw [← ih (by omega), take_gl (by omega), List.filter_append, List.length_append]
    congr 1
    cases hp : p (gl L k)
    · rw [List.filter_cons_of_neg (by simp [hp])]
      rfl
    · rw [List.filter_cons_of_pos (by simp [hp])]
      rfl
theorem dif_n {L H : List Nat} {m : Nat} (hL : Srt L) (hH : H.Nodup) (hsub : ∀ r, r ∈ H → r ∈ L) : (nw (rs L (nI m) L.length) H).length + (nw H (rs L (nI m) L.length)).length = dif L H m := by
  have h1 : (nw H (rs L (nI m) L.length)).length = sumN (fun i => if bq (nI m) i = true ∧ decide (gl L i ∉ H) = true then 1 else 0) L.length := rs_cnt hL (p := fun r => decide (r ∉ H)) L.length (Nat.le_refl _)
  have h2 : (nw (rs L (nI m) L.length) H).length = (L.filter (fun r => decide (r ∈ H ∧ r ∉ rs L (nI m) L.length))).length := by
    refine Nat.le_antisymm (sub_len (hH.filter _) fun y hy => ?_) (sub_len ((Srt_nodup hL).filter _) fun y hy => ?_)
    · obtain ⟨a, b⟩ := nw_mem.mp hy
      exact List.mem_filter.mpr ⟨hsub y a, decide_eq_true ⟨a, b⟩⟩
    · obtain ⟨-, a⟩ := List.mem_filter.mp hy
      have := of_decide_eq_true a
      exact nw_mem.mpr this
  have h3 := filt_sum (L := L) (p := fun r => decide (r ∈ H ∧ r ∉ rs L (nI m) L.length)) L.length (Nat.le_refl _)
  rw [List.take_length] at h3
  rw [h1, h2, h3, sum_add]
  unfold dif
  refine sum_cg fun i hi => ?_
  have hR : gl L i ∈ rs L (nI m) L.length ↔ bq (nI m) i = true := by
    rw [rs_mem]
    constructor
    · rintro ⟨j, a, b, c⟩
      rw [Srt_inj hL hi a c]
      exact b
    · intro b
      exact ⟨i, hi, b, rfl⟩
  by_cases hm : gl L i ∈ H
  · rw [decide_eq_true hm]
    have hd : decide (gl L i ∉ H) = false := decide_eq_false fun z => z hm
    rw [hd, if_neg (show ¬ (bq (nI m) i = true ∧ false = true) from fun z => by cases z.2)]
    cases hb : bq (nI m) i
    · rw [if_neg (show ¬ false = true by simp), if_pos (decide_eq_true ⟨hm, fun z => by rw [hR.mp z] at hb; cases hb⟩)]
    · rw [if_pos rfl, if_neg (fun z => (of_decide_eq_true z).2 (hR.mpr hb))]
  · rw [decide_eq_false hm]
    have hd : decide (gl L i ∉ H) = true := decide_eq_true hm
    rw [hd, if_neg (fun z => hm (of_decide_eq_true z).1)]
    cases hb : bq (nI m) i
    · rw [if_neg (fun z => by cases z.1), if_pos rfl]
    · rw [if_pos ⟨rfl, rfl⟩, if_neg (show ¬ true = false by simp)]
theorem bst_hi {f : Nat → Option Nat} {n : Nat} : ∀ {N : Nat}, n ≤ N → (∀ m, n ≤ m → m < N → f m = none) → bst f N = bst f n := by
  intro N
  induction N with
  | zero => intro h _; rw [show n = 0 by omega]
  | succ N ih =>
    intro h hz
    by_cases hn : n = N + 1
    · rw [hn]
    · rw [bst_o (hz N (by omega) (Nat.lt_succ_self N))]
      exact ih (by omega) fun m a b => hz m a (by omega)
def fwR (z6 n0 x13 : Int32) (S15 : St) : Option (Int32 × St) := rd z6 3 fun (j18 : Nat) => lt (w2 S15 5 j18 n0) fun (S20 : St) => lp (fun _ _ => none) (fun (g23 : Int32 → St → Option (Int32 × St)) (x21 : Int32) (S22 : St) => if n0 ≤ x21 then (some (x13, S22)) else (rd x21 12 fun (j25 : Nat) => rd ((12 * z6) + x21) 36 fun (j27 : Nat) => lt (w2 S22 6 j27 (S22.2 35 j25)) fun (S29 : St) => g23 (x21 + 1) S29)) FU 0 S20
def fwL (z6 n0 : Int32) (S10 : St) : Option (Int32 × St) := lp (fun _ _ _ => none) (fun (g16 : Int32 → Int32 → St → Option (Int32 × St)) (x13 : Int32) (x14 : Int32) (S15 : St) => if 512 ≤ x14 then fwR z6 n0 x13 S15 else (cb2 (m_laysTable z6 x14 S15) fun (z30 : Int32) (S31 : St) => if z30 = 0 then (g16 x13 (x14 + 1) S31) else (cb2 (m_isDraft S31) fun (z33 : Int32) (S34 : St) => if z33 = 0 then (g16 x13 (x14 + 1) S34) else (cb (m_differs z6 n0 S34) fun (z36 : Int32) => jn (g16 z36 (x14 + 1) S34) fun k37 => if x13 = (-1) then (k37) else (if x13 ≤ z36 then (g16 x13 (x14 + 1) S34) else (k37)))))) FU (-1) 0 S10
def fwC (z6 n0 : Int32) (S4 : St) : Option (Int32 × St) := lp (fun _ _ => none) (fun (g11 : Int32 → St → Option (Int32 × St)) (x9 : Int32) (S10 : St) => if n0 ≤ x9 then fwL z6 n0 S10 else (rd ((12 * z6) + x9) 36 fun (j40 : Nat) => rd x9 12 fun (j42 : Nat) => lt (w2 S10 35 j42 (S10.2 6 j40)) fun (S44 : St) => g11 (x9 + 1) S44)) FU 0 S4
theorem fewest_d {S : St} : m_fewest S = jn (fun (x2 : Int32) => lt (w1 S 0 x2) fun (S4 : St) => if (S4.1 0) ≤ 0 then (cb (m_tableOf (S4.1 22) S4) fun (z6 : Int32) => rd z6 3 fun (j7 : Nat) => fwC z6 (S4.2 5 j7) S4) else (some (0, S4))) fun k3 => if (S.1 21) = 0 then (k3 1) else (cb (m_canTry S) fun (z46 : Int32) => if z46 = 0 then (k3 1) else (k3 0)) := rfl
def IV (t : Nat) (H : List Nat) (M T : St) : Prop := T.1 = M.1 ∧ (∀ k, k ≠ 5 → k ≠ 6 → k ≠ 17 → k ≠ 18 → k ≠ 35 → T.2 k = M.2 k) ∧ (∀ j, j ≠ t → T.2 5 j = M.2 5 j) ∧ (∀ c, (c < 12 * t ∨ 12 * t + 12 ≤ c) → T.2 6 c = M.2 6 c) ∧ Sg (T.2 35) 0 H
theorem IV.t {t : Nat} {H : List Nat} {M T T1 : St} (h : IV t H M T) (hF : FrT t T T1) : IV t H M T1 := ⟨hF.1.trans h.1, fun k a b c d e => (hF.2.1 k a b).trans (h.2.1 k a b c d e), fun j hj => (hF.2.2.1 j hj).trans (h.2.2.1 j hj), fun c hc => (hF.2.2.2 c hc).trans (h.2.2.2.1 c hc), by rw [hF.2.1 35 (by decide) (by decide)]; exact h.2.2.2.2⟩
theorem IV.l {t : Nat} {H : List Nat} {M T T1 : St} (h : IV t H M T) (hF : FrL T T1) : IV t H M T1 := ⟨hF.1.trans h.1, fun k a b c d e => (hF.2 k c d).trans (h.2.1 k a b c d e), fun j hj => by rw [hF.2 5 (by decide) (by decide)]; exact h.2.2.1 j hj, fun c hc => by rw [hF.2 6 (by decide) (by decide)]; exact h.2.2.2.1 c hc, by rw [hF.2 35 (by decide) (by decide)]; exact h.2.2.2.2⟩
theorem fwR_n {M T : St} {t : Nat} {H : List Nat} {x13 : Int32} (ht : t < 3) (hH : H.length ≤ 12) (h : IV t H M T) : ∃ M', fwR (nI t) (nI H.length) x13 T = some (x13, M') ∧ IV t H M M' ∧ Tm M' t H := by
  unfold fwR
  rw [rd_n ht (by decide), lt_d]
  have h0 : IV t H M (w2 T 5 t (nI H.length)) := h.t FrT.w5
  refine lq2 (Q := fun y => ∃ M', y = some (x13, M') ∧ IV t H M M' ∧ Tm M' t H) (fun d (a : Int32) (U : St) => ∃ i, i + d = H.length ∧ a = nI i ∧ IV t H M U ∧ U.2 5 t = nI H.length ∧ ∀ j, j < i → U.2 6 (12 * t + j) = nI (gl H j)) ?_ _ H.length _ _ (FU_lt (by omega)) ⟨0, by omega, rfl, h0, w2_at, fun j hj => by omega⟩
  rintro d a U g ⟨i, hi, rfl, hU, h5, hlo⟩ ih
  by_cases hd : d = 0
  · rw [if_pos (nI_le (by omega) (by omega))]
    exact ⟨U, rfl, hU, h5, fun j hj => hlo j (by omega)⟩
  · have hil : i < H.length := by omega
    have e35 : U.2 35 i = nI (gl H i) := by
      have := hU.2.2.2.2 i hil
      rwa [Nat.zero_add] at this
    rw [if_neg (nI_ge hil (by omega)), rd_n (show i < 12 by omega) (by decide), n12, nI_add, rd_n (show 12 * t + i < 36 by omega) (by decide), lt_d, e35, nI_1]
    refine ih (d - 1) _ _ (by omega) ⟨i + 1, by omega, rfl, hU.t ⟨rfl, fun k _ b => w2_ne b, fun j _ => by rw [w2_ne (by decide)], fun c hc => w2_nj (by omega)⟩, by rw [w2_ne (by decide)]; exact h5, fun j hj => ?_⟩
    by_cases hji : j = i
    · rw [hji, w2_at]
    · rw [w2_nj (by omega)]
      exact hlo j (by omega)
theorem fewM_n {M : St} {G : Gt} {Tb : Nat → List Nat} {nt nv u t c : Nat} {D : List Nat} (hP : PW M) (hO : OKG G nt nv) (hK : ∀ v, v < nv → KM G M v) (h7 : M.1 7 = nI nv) (hT : ∀ t, t < nt → FT G t (Tb t)) (hTm : ∀ t, t < nt → Tm M t (Tb t)) (hu : u < nv) (h22 : M.1 22 = nI u) (h23 : M.1 23 = nI D.length) (h24 : Sg (M.2 24) 0 D) (hD : D.length ≤ 20) (hDs : Srt D) (hDok : okL D) (ht : t < nt) (h3 : M.2 3 t = G (20 + t) 0) (h4 : M.2 4 t = G (20 + t) 1) (hc : c < 64) (hcs : G (20 + t) 0 = nI c) (hpc : pc c ≤ 2) (hmask : G u 3 = 1 <<< (nI t &&& 31)) (hcan : ∀ r, r ∈ Tb t → ∀ j, j < 6 → dg r j ≤ 2) : ∃ M', fwC (nI t) (nI (Tb t).length) M = some (bst (okf (Cf G u t (tl (nI c) 6) D) (dif (tl (nI c) 6) (Tb t))) 512, M') ∧ IV t (Tb t) M M' ∧ Tm M' t (Tb t) := by
  have h33 := hO.1.1.1
  have ht3 : t < 3 := by omega
  have hF := hT t ht
  have hH12 := hF.1
  obtain ⟨hL9, hsrt, hval⟩ := tl_d ⟨c, hc⟩ hpc
  have hrb := rb_d ⟨c, hc⟩ hpc
  dsimp only at hL9 hsrt hval hrb
  have hsub : ∀ r, r ∈ Tb t → r ∈ tl (nI c) 6 := fun r hr => tl_mem (by rw [← hcs]; exact hF.2.2.1 r hr) (hcan r hr)
  generalize hLL : tl (nI c) 6 = L at *
  generalize hHH : Tb t = H at *
  have hLs : Srt L := fun i j hij hj => hsrt ⟨j, by omega⟩ ⟨i, by omega⟩ hij hj
  have hLv : ∀ r, r ∈ L → pt (nI c) r = r := fun r hr => by
    obtain ⟨j, hj, rfl⟩ := mem_gl hr
    exact hval ⟨j, by omega⟩ hj
  have hLok : okL L := fun r hr => val_lt (hLv r hr)
  have hrow : ∀ T, PW T → ∀ k, k < 9 → m_rowBy (nI c) (nI k) T = some (if k < L.length then nI (gl L k) else -1) := fun T hPT k hk => by
    rw [rowBy_n hPT hk]
    by_cases hkl : k < L.length
    · obtain ⟨a, b⟩ := (hrb ⟨k, hk⟩).1 hkl
      dsimp only at a b
      rw [if_pos a, if_pos hkl, b]
    · have := (hrb ⟨k, hk⟩).2 (by dsimp only; omega)
      dsimp only at this
      rw [if_neg this, if_neg hkl]
  obtain ⟨t5, t6⟩ := hTm t ht
  rw [hHH] at t5 t6
  unfold fwC
  refine lq2 (Q := fun y => ∃ M', y = some (bst (okf (Cf G u t L D) (dif L H)) 512, M') ∧ IV t H M M' ∧ Tm M' t H) (fun d (a : Int32) (U : St) => ∃ i, i + d = H.length ∧ a = nI i ∧ U.1 = M.1 ∧ (∀ k, k ≠ 35 → U.2 k = M.2 k) ∧ ∀ j, j < i → U.2 35 j = nI (gl H j)) ?_ _ H.length _ _ (FU_lt (by omega)) ⟨0, by omega, rfl, rfl, fun _ _ => rfl, fun j hj => by omega⟩
  rintro d a U g ⟨i, hi, rfl, hU1, hU2, hU35⟩ ih
  by_cases hd : d = 0
  · rw [if_pos (nI_le (by omega) (by omega))]
    have hIV : IV t H M U := ⟨hU1, fun k _ _ _ _ e => hU2 k e, fun j _ => by rw [hU2 5 (by decide)], fun c _ => by rw [hU2 6 (by decide)], fun j hj => by
      rw [Nat.zero_add]
      exact hU35 j (by omega)⟩
    unfold fwL
    refine lq3 (Q := fun y => ∃ M', y = some (bst (okf (Cf G u t L D) (dif L H)) 512, M') ∧ IV t H M M' ∧ Tm M' t H) (fun d (a b : Int32) (T : St) => ∃ m, m + d = 512 ∧ b = nI m ∧ a = bst (okf (Cf G u t L D) (dif L H)) m ∧ IV t H M T) ?_ _ 512 _ _ _ (FU_lt (by omega)) ⟨0, by omega, rfl, rfl, hIV⟩
    rintro d2 a b T g2 ⟨m, hm, rfl, rfl, hT0⟩ ih2
    by_cases h0 : d2 = 0
    · have hm5 : m = 512 := by omega
      subst hm5
      rw [if_pos (show (512 : Int32) ≤ nI 512 by decide)]
      exact fwR_n ht3 hH12 hT0
    · have hm5 : m < 512 := by omega
      have hTP : PW T := fun c hc => by rw [hT0.2.1 1 (by decide) (by decide) (by decide) (by decide) (by decide)]; exact hP c hc
      obtain ⟨z, T1, e1, f1, hz⟩ := laysT_n (M := T) (x := nI m) (s := nI c) (ks := G (20 + t) 1) (L := L) hTP ht3 (by rw [hT0.2.1 3 (by decide) (by decide) (by decide) (by decide) (by decide), h3, hcs]) (by rw [hT0.2.1 4 (by decide) (by decide) (by decide) (by decide) (by decide), h4]) hLok (hrow T hTP) (fun T' k hF' hk => hrow T' (fun c hc => by rw [hF'.2.1 1 (by decide) (by decide)]; exact hTP c hc) k hk)
      have hT1 := hT0.t f1
      have hno : ∀ X, IV t H M X → ¬ Cf G u t L D m → ∃ M', g2 (bst (okf (Cf G u t L D) (dif L H)) m) (nI m + 1) X = some (bst (okf (Cf G u t L D) (dif L H)) 512, M') ∧ IV t H M M' ∧ Tm M' t H := by
        intro X hX hC
        rw [nI_1]
        exact ih2 (d2 - 1) _ _ _ (by omega) ⟨m + 1, by omega, rfl, (bst_o (okf_f hC)).symm, hX⟩
      rw [if_neg (show ¬ (512 : Int32) ≤ nI m from nI_ge (b := 512) hm5 (by decide)), e1, cb2_s]
      rcases hz with ⟨rfl, hg, hTmR⟩ | ⟨rfl, hg⟩
      · obtain ⟨g1, hUL⟩ := (gk_iff hL9).mp hg
        have hRe : rs L (nI m) 9 = rs L (nI m) L.length := rs_hi hL9 fun i a b => g1 i b a
        rw [hRe] at hTmR
        have hRlen := rs_len (L := L) (x := nI m) L.length
        have hRmem : ∀ q, q ∈ rs L (nI m) L.length → ∃ i, i < L.length ∧ bq (nI m) i = true ∧ q = gl L i := fun q hq => (rs_mem _).mp hq
        have hFR : FT G t (rs L (nI m) L.length) := by
          refine ⟨by omega, rs_srt _, fun q hq => ?_, fun q hq q2 hq2 he => ?_⟩
          · obtain ⟨i, hi, -, rfl⟩ := hRmem q hq
            rw [hcs]
            exact hLv _ (gl_mem hi)
          · obtain ⟨i, hi, bi, rfl⟩ := hRmem q hq
            obtain ⟨j, hj, bj, rfl⟩ := hRmem q2 hq2
            by_cases hij : i = j
            · rw [hij]
            · exact absurd he (hUL i j hi hj hij bi bj)
        have hcnt := rs_cnt (L := L) (x := nI m) hLs (p := sn G (u + 1) u) L.length (Nat.le_refl _)
        have hdif := dif_n (m := m) hLs (Srt_nodup hF.2.1) hsub
        have hR3 : (∀ r, r ∈ rs L (nI m) L.length → sn G (u + 1) u r = true → pt (G u 1) r ∈ D) ↔ ∀ i, i < L.length → bq (nI m) i = true → sn G (u + 1) u (gl L i) = true → pt (G u 1) (gl L i) ∈ D := by
          constructor
          · intro h i hi bi si
            exact h _ ((rs_mem _).mpr ⟨i, hi, bi, rfl⟩) si
          · intro h r hr si
            obtain ⟨i, hi, bi, rfl⟩ := hRmem r hr
            exact h i hi bi si
        generalize hRR : rs L (nI m) L.length = R at *
        have hT' : ∀ t', t' < nt → FT G t' (up Tb t R t') := fun t' ht' => by
          by_cases htt : t' = t
          · subst htt; rw [up_s]; exact hFR
          · rw [up_n htt]; exact hT t' ht'
        have hTm' : ∀ t', t' < nt → Tm T1 t' (up Tb t R t') := fun t' ht' => by
          by_cases htt : t' = t
          · subst htt; rw [up_s]; exact hTmR
          · rw [up_n htt]
            obtain ⟨a, b⟩ := hTm t' ht'
            have hl12 := (hT t' ht').1
            refine ⟨(hT1.2.2.1 t' htt).trans a, fun j hj => ?_⟩
            rw [hT1.2.2.2.1 _ (by omega)]
            exact b j hj
        have e1k := fun k (a : k ≠ 5) (b : k ≠ 6) (c : k ≠ 17) (d : k ≠ 18) (e : k ≠ 35) => hT1.2.1 k a b c d e
        obtain ⟨z2, T2, e2, f2, hz2⟩ := isDraft_n (T := T1) (Tb := up Tb t R) (D := D) (fun c hc => by rw [e1k 1 (by decide) (by decide) (by decide) (by decide) (by decide)]; exact hP c hc) hO (fun v hv => KM_fr (hK v hv) fun k a b => e1k k (by omega) (by omega) (by omega) (by omega) (by omega)) (by rw [hT1.1]; exact h7) hT' hTm' hu (by rw [hT1.1]; exact h22) (by rw [hT1.1]; exact h23) (by rw [e1k 24 (by decide) (by decide) (by decide) (by decide) (by decide)]; exact h24) hD hDok
        have hT2 := hT1.l f2
        have hsh := shows_n (D := D) hO hT' ht hu hmask hDs
        rw [up_s, hR3, hcnt] at hsh
        rw [if_neg z10, e2, cb2_s]
        rcases hz2 with ⟨rfl, hVD⟩ | ⟨rfl, hVD⟩
        · obtain ⟨c3, c4⟩ := hsh.mp hVD
          have hC : Cf G u t L D m := ⟨g1, hUL, c3, c4⟩
          have hdf := differs_n (T := T2) (t := t) (R := R) (H := H) ht3 ⟨by rw [f2.2 5 (by decide) (by decide)]; exact hTmR.1, by rw [f2.2 6 (by decide) (by decide)]; exact hTmR.2⟩ hFR.1 hFR.ok hT2.2.2.2.2 hH12 hF.ok
          rw [hdif] at hdf
          have hbs := bst_s (okf_t (dif := dif L H) hC)
          rw [if_neg z10, hdf, cb_s, jn_d, nI_1]
          by_cases hbm : bst (okf (Cf G u t L D) (dif L H)) m = -1
          · rw [if_pos hbm]
            rw [if_pos hbm] at hbs
            exact ih2 (d2 - 1) _ _ _ (by omega) ⟨m + 1, by omega, rfl, hbs.symm, hT2⟩
          · rw [if_neg hbm]
            rw [if_neg hbm] at hbs
            by_cases hle : bst (okf (Cf G u t L D) (dif L H)) m ≤ nI (dif L H m)
            · have hnlt : ¬ nI (dif L H m) < bst (okf (Cf G u t L D) (dif L H)) m := fun z => by
                rw [Int32.le_iff_toInt_le] at hle
                rw [Int32.lt_iff_toInt_lt] at z
                omega
              rw [if_neg hnlt] at hbs
              rw [if_pos hle]
              exact ih2 (d2 - 1) _ _ _ (by omega) ⟨m + 1, by omega, rfl, hbs.symm, hT2⟩
            · have hlt : nI (dif L H m) < bst (okf (Cf G u t L D) (dif L H)) m := by
                rw [Int32.le_iff_toInt_le] at hle
                rw [Int32.lt_iff_toInt_lt]
                omega
              rw [if_pos hlt] at hbs
              rw [if_neg hle]
              exact ih2 (d2 - 1) _ _ _ (by omega) ⟨m + 1, by omega, rfl, hbs.symm, hT2⟩
        · rw [if_pos z00]
          exact hno T2 hT2 fun z => hVD (hsh.mpr ⟨z.2.2.1, z.2.2.2⟩)
      · rw [if_pos z00]
        exact hno T1 hT1 fun z => hg ((gk_iff hL9).mpr ⟨z.1, z.2.1⟩)
  · have hil : i < H.length := by omega
    have e6 : U.2 6 (12 * t + i) = nI (gl H i) := by rw [hU2 6 (by decide)]; exact t6 i hil
    rw [if_neg (nI_ge hil (by omega)), n12, nI_add, rd_n (show 12 * t + i < 36 by omega) (by decide), rd_n (show i < 12 by omega) (by decide), lt_d, e6, nI_1]
    refine ih (d - 1) _ _ (by omega) ⟨i + 1, by omega, rfl, hU1, fun k hk => (w2_ne hk).trans (hU2 k hk), fun j hj => ?_⟩
    by_cases hji : j = i
    · rw [hji, w2_at]
    · rw [w2_nj hji]
      exact hU35 j (by omega)
