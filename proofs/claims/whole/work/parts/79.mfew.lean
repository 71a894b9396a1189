/-! ===== fewest: the reference's rows, tables and tests ===== -/
def rbk (s : Int32) (k : Nat) : Nat → Nat
  | 0 => k
  | c + 1 => if bt s c then rbk s k c / 3 else rbk s k c
def rbr (s : Int32) (k : Nat) : Nat → Nat
  | 0 => 0
  | c + 1 => rbr s k c + (if bt s c then (rbk s k c % 3) * 10 ^ c else 0)
theorem rb_d : ∀ m : Fin 64, pc m.1 ≤ 2 → ∀ k : Fin 9, (k.1 < (tl (nI m.1) 6).length → rbk (nI m.1) k.1 6 = 0 ∧ rbr (nI m.1) k.1 6 = gl (tl (nI m.1) 6) k.1) ∧ ((tl (nI m.1) 6).length ≤ k.1 → rbk (nI m.1) k.1 6 ≠ 0) := by decide +kernel
theorem rbk_le {s : Int32} {k : Nat} : ∀ c, rbk s k c ≤ k := by
  intro c
  induction c with
  | zero => exact Nat.le_refl _
  | succ c ih =>
    show (if bt s c then rbk s k c / 3 else rbk s k c) ≤ k
    split
    · exact Nat.le_trans (Nat.div_le_self _ _) ih
    · exact ih
theorem rowBy_n {M : St} (hP : PW M) {s : Int32} {k : Nat} (hk : k < 9) : m_rowBy s (nI k) M = some (if rbk s k 6 = 0 then nI (rbr s k 6) else -1) := by
  unfold m_rowBy
  refine lq3 (Q := fun x => x = some (if rbk s k 6 = 0 then nI (rbr s k 6) else -1)) (fun d (a b e : Int32) => ∃ c, c + d = 6 ∧ e = nI c ∧ a = nI (rbk s k c) ∧ b = nI (rbr s k c)) ?_ _ 6 _ _ _ (FU_lt (by omega)) ⟨0, by omega, rfl, rfl, rfl⟩
  rintro d a b e g ⟨c, hc, rfl, rfl, rfl⟩ ih
  have hb := rbk_le (s := s) (k := k) c
  by_cases h0 : d = 0
  · have hc6 : c = 6 := by omega
    subst hc6
    rw [if_pos (show (6 : Int32) ≤ nI 6 by decide)]
    by_cases hz : rbk s k 6 = 0
    · rw [if_pos hz, hz, if_pos (show nI 0 ≤ (0 : Int32) by decide)]
    · rw [if_neg hz, if_neg (nI_nle (by omega) (by omega))]
  · rw [if_neg (show ¬ (6 : Int32) ≤ nI c from nI_ge (b := 6) (by omega) (by decide)), nI_1]
    have e1 : rbk s k (c + 1) = if bt s c then rbk s k c / 3 else rbk s k c := rfl
    have e2 : rbr s k (c + 1) = rbr s k c + (if bt s c then (rbk s k c % 3) * 10 ^ c else 0) := rfl
    cases hbt : bt s c
    · rw [if_neg (of_decide_eq_false hbt)]
      rw [hbt] at e1 e2
      exact ih (d - 1) _ _ _ (by omega) ⟨c + 1, by omega, rfl, by rw [e1]; rfl, by rw [e2]; rfl⟩
    · rw [if_pos (of_decide_eq_true hbt), rd_n (by omega) (by decide), hP c (by omega), show nI (rbk s k c) / 3 = nI (rbk s k c / 3) from pk_div (d := 3) (by omega) (by decide) (by decide), show nI (rbk s k c) - nI (rbk s k c / 3) * 3 = nI (rbk s k c % 3) by
        have := pk_rem (a := rbk s k c) (d := 3) (by omega) (by decide) (by decide)
        rw [pk_div (a := rbk s k c) (d := 3) (by omega) (by decide) (by decide)] at this
        exact this, pk_mul, nI_add]
      rw [hbt] at e1 e2
      exact ih (d - 1) _ _ _ (by omega) ⟨c + 1, by omega, rfl, by rw [e1]; rfl, by rw [e2]; rfl⟩
def FrT (t : Nat) (M M' : St) : Prop := M'.1 = M.1 ∧ (∀ k, k ≠ 5 → k ≠ 6 → M'.2 k = M.2 k) ∧ (∀ j, j ≠ t → M'.2 5 j = M.2 5 j) ∧ ∀ c, (c < 12 * t ∨ 12 * t + 12 ≤ c) → M'.2 6 c = M.2 6 c
theorem FrT.rf {t : Nat} {M : St} : FrT t M M := ⟨rfl, fun _ _ _ => rfl, fun _ _ => rfl, fun _ _ => rfl⟩
theorem FrT.tr {t : Nat} {M M1 M2 : St} (h1 : FrT t M M1) (h2 : FrT t M1 M2) : FrT t M M2 := ⟨h2.1.trans h1.1, fun k a b => (h2.2.1 k a b).trans (h1.2.1 k a b), fun j hj => (h2.2.2.1 j hj).trans (h1.2.2.1 j hj), fun c hc => (h2.2.2.2 c hc).trans (h1.2.2.2 c hc)⟩
theorem FrT.w5 {t : Nat} {M : St} {x : Int32} : FrT t M (w2 M 5 t x) := ⟨rfl, fun k a _ => w2_ne a, fun j hj => w2_nj hj, fun c _ => by rw [w2_ne (by decide)]⟩
def gk (L : List Nat) (ks x : Int32) (k : Nat) : Prop := (∀ i, i < k → bq x i = true → i < L.length) ∧ ∀ i j, i < j → j < k → bq x i = true → bq x j = true → pt ks (gl L i) ≠ pt ks (gl L j)
theorem laysT_n {M : St} {t : Nat} {s ks x : Int32} {L : List Nat} (hP : PW M) (ht : t < 3) (h3 : M.2 3 t = s) (h4 : M.2 4 t = ks) (hok : okL L) (hrow : ∀ k, k < 9 → m_rowBy s (nI k) M = some (if k < L.length then nI (gl L k) else -1)) (hrowT : ∀ T k, FrT t M T → k < 9 → m_rowBy s (nI k) T = some (if k < L.length then nI (gl L k) else -1)) : ∃ z M', m_laysTable (nI t) x M = some (z, M') ∧ FrT t M M' ∧ ((z = 1 ∧ gk L ks x 9 ∧ Tm M' t (rs L x 9)) ∨ (z = 0 ∧ ¬ gk L ks x 9)) := by
  unfold m_laysTable
  rw [rd_n ht (by decide), lt_d]
  refine lq3 (Q := fun y => ∃ z M', y = some (z, M') ∧ FrT t M M' ∧ ((z = 1 ∧ gk L ks x 9 ∧ Tm M' t (rs L x 9)) ∨ (z = 0 ∧ ¬ gk L ks x 9))) (fun d (a b : Int32) (T : St) => ∃ k, k + d = 9 ∧ b = nI k ∧ FrT t M T ∧ ((a = 1 ∧ gk L ks x k ∧ Tm T t (rs L x k)) ∨ (a = 0 ∧ ¬ gk L ks x k))) ?_ _ 9 _ _ _ (FU_lt (by omega)) ⟨0, by omega, rfl, FrT.w5, Or.inl ⟨rfl, ⟨fun i hi => by omega, fun i j _ hj => by omega⟩, w2_at, Sg_nil⟩⟩
  rintro d a b T g ⟨k, hk, rfl, hF, hT⟩ ih
  by_cases h0 : d = 0
  · have hk9 : k = 9 := by omega
    subst hk9
    rw [if_pos (show (9 : Int32) ≤ nI 9 by decide), gd_t (by rcases hT with ⟨z, -⟩ | ⟨z, -⟩ <;> rw [z] <;> decide)]
    exact ⟨a, T, rfl, hF, hT⟩
  · have hk9 : k < 9 := by omega
    have t3 : T.2 3 t = s := by rw [hF.2.1 3 (by decide) (by decide)]; exact h3
    have t4 : T.2 4 t = ks := by rw [hF.2.1 4 (by decide) (by decide)]; exact h4
    have hTP : PW T := fun c hc => by rw [hF.2.1 1 (by decide) (by decide)]; exact hP c hc
    have hbt : bt x k = bq x k := bt_bq (by omega)
    rw [if_neg (show ¬ (9 : Int32) ≤ nI k from nI_ge (b := 9) hk9 (by decide)), rd_n ht (by decide), t3, hrowT T k hF hk9, cb_s, nI_1]
    have hrsS : rs L x (k + 1) = if bq x k then insR (gl L k) (rs L x k) else rs L x k := rfl
    by_cases hb : ((x >>> (nI k &&& 31)) &&& 1) = 1
    · have hbq : bq x k = true := by rw [← hbt]; exact decide_eq_true hb
      rw [hbq, if_pos rfl] at hrsS
      rw [if_pos hb, jn_d]
      -- refused
      have hbad : ¬ gk L ks x (k + 1) → ∃ z M', (if (0 : Int32) = 0 then (rd (nI t) 3 fun (j20 : Nat) => rd (nI t) 3 fun (j22 : Nat) => lt (w2 T 5 j22 (T.2 5 j20)) fun (S24 : St) => g 0 (nI (k + 1)) S24) else (rd (nI t) 3 fun (j25 : Nat) => cb2 (m_lays 6 (12 * nI t) (T.2 5 j25) (if k < L.length then nI (gl L k) else -1) T) fun (z27 : Int32) (S28 : St) => rd (nI t) 3 fun (j29 : Nat) => lt (w2 S28 5 j29 z27) fun (S31 : St) => g 0 (nI (k + 1)) S31)) = some (z, M') ∧ FrT t M M' ∧ ((z = 1 ∧ gk L ks x 9 ∧ Tm M' t (rs L x 9)) ∨ (z = 0 ∧ ¬ gk L ks x 9)) := by
        intro hg
        rw [if_pos z00, rd_n ht (by decide), rd_n ht (by decide), lt_d]
        exact ih (d - 1) _ _ _ (by omega) ⟨k + 1, by omega, rfl, hF.tr FrT.w5, Or.inr ⟨rfl, hg⟩⟩
      rcases hT with ⟨rfl, hg, hTm⟩ | ⟨rfl, hg⟩
      · rw [if_neg z10]
        by_cases hkl : k < L.length
        · have hr := hok _ (gl_mem hkl)
          have hlen := rs_len (L := L) (x := x) k
          have hokR : okL (rs L x k) := fun q hq => by
            obtain ⟨i, hi, -, rfl⟩ := (rs_mem k).mp hq
            exact hok _ (gl_mem (by omega))
          rw [if_pos hkl] at hbad ⊢
          rw [if_neg (nm1 (by omega)), rd_n ht (by decide), rd_n ht (by decide), rd_n ht (by decide), t4, mpart_n hTP (by omega), cb_s, hTm.1, n12, rowWith_n (N := 36) hTP hTm.2 hokR rfl (by decide) (by omega) pt31, cb_s]
          cases hf : fnd ks (pt ks (gl L k)) (rs L x k) with
          | some q =>
            obtain ⟨q1, q2⟩ := fnd_mem hf
            obtain ⟨i, hi, bi, rfl⟩ := (rs_mem k).mp q1
            rw [if_neg (show ¬ oN (some (gl L i)) = -1 from nm1 (Nat.lt_of_lt_of_le (hokR _ q1) (by decide)))]
            dsimp only
            rw [if_pos z00, rd_n ht (by decide), rd_n ht (by decide), lt_d]
            exact ih (d - 1) _ _ _ (by omega) ⟨k + 1, by omega, rfl, hF.tr FrT.w5, Or.inr ⟨rfl, fun z => z.2 i k hi (by omega) bi hbq q2⟩⟩
          | none =>
            obtain ⟨T1, e1, s1, f1⟩ := lays_n (N := 36) hTm.2 hokR rfl (by decide) hr (by omega) (Or.inr (by omega))
            rw [if_pos (show oN none = -1 from rfl)]
            dsimp only
            rw [if_neg z10, rd_n ht (by decide), hTm.1, e1, cb2_s, rd_n ht (by decide), lt_d]
            have hl2 : (insR (gl L k) (rs L x k)).length ≤ 12 := Nat.le_trans insR_le (by omega)
            refine ih (d - 1) _ _ _ (by omega) ⟨k + 1, by omega, rfl, hF.tr ⟨f1.1, fun q a b => (w2_ne a).trans (f1.2.1 q b), fun j hj => by rw [w2_nj hj, f1.2.1 5 (by decide)], fun c hc => by rw [w2_ne (by decide)]; exact f1.2.2 c (by omega)⟩, Or.inl ⟨rfl, ⟨fun i hi bi => ?_, fun i j hij hj bi bj => ?_⟩, ?_⟩⟩
            · by_cases hik : i = k
              · rw [hik]; exact hkl
              · exact hg.1 i (by omega) bi
            · by_cases hjk : j = k
              · subst hjk
                exact fnd_none hf ((rs_mem j).mpr ⟨i, hij, bi, rfl⟩)
              · exact hg.2 i j hij (by omega) bi bj
            · rw [hrsS]
              exact ⟨w2_at, by rw [w2_ne (by decide)]; exact s1⟩
        · rw [if_neg hkl] at hbad ⊢
          rw [if_pos rfl]
          exact hbad fun z => hkl (z.1 k (by omega) hbq)
      · rw [if_pos z00]
        exact hbad fun z => hg ⟨fun i hi => z.1 i (by omega), fun i j hij hj => z.2 i j hij (by omega)⟩
    · have hbq : bq x k = false := by rw [← hbt]; exact decide_eq_false hb
      rw [hbq, if_neg (by simp)] at hrsS
      rw [if_neg hb]
      refine ih (d - 1) _ _ _ (by omega) ⟨k + 1, by omega, rfl, hF, ?_⟩
      have hne : ∀ i, bq x i = true → i ≠ k := fun i bi z => by rw [z, hbq] at bi; cases bi
      rcases hT with ⟨rfl, hg, hTm⟩ | ⟨rfl, hg⟩
      · refine Or.inl ⟨rfl, ⟨fun i hi bi => hg.1 i (by have := hne i bi; omega) bi, fun i j hij hj bi bj => hg.2 i j hij (by have := hne j bj; omega) bi bj⟩, ?_⟩
        rw [hrsS]
        exact hTm
      · exact Or.inr ⟨rfl, fun z => hg ⟨fun i hi => z.1 i (by omega), fun i j hij hj => z.2 i j hij (by omega)⟩⟩
theorem gl_ext {l1 l2 : List Nat} (hl : l1.length = l2.length) (h : ∀ j, j < l1.length → gl l1 j = gl l2 j) : l1 = l2 := by
  refine List.ext_getElem hl fun j h1 h2 => ?_
  have := h j h1
  unfold gl at this
  rwa [List.getD_eq_getElem?_getD, List.getD_eq_getElem?_getD, List.getElem?_eq_getElem h1, List.getElem?_eq_getElem h2] at this
theorem isDraft_n {T : St} {G : Gt} {Tb : Nat → List Nat} {nt nv u : Nat} {D : List Nat} (hP : PW T) (hO : OKG G nt nv) (hK : ∀ v, v < nv → KM G T v) (h7 : T.1 7 = nI nv) (hT : ∀ t, t < nt → FT G t (Tb t)) (hTm : ∀ t, t < nt → Tm T t (Tb t)) (hu : u < nv) (h22 : T.1 22 = nI u) (h23 : T.1 23 = nI D.length) (h24 : Sg (T.2 24) 0 D) (hD : D.length ≤ 20) (hok : okL D) : ∃ z M', m_isDraft T = some (z, M') ∧ FrL T M' ∧ ((z = 1 ∧ VV G Tb u = D) ∨ (z = 0 ∧ VV G Tb u ≠ D)) := by
  have h10 := hO.1.1.2
  obtain ⟨M', e1, f1, v1⟩ := laysViews_n hP hO hK h7 hT hTm
  obtain ⟨v17, v18, vok, -⟩ := v1 u hu
  have hl12 := (FV_n hO hT hu).1
  generalize VV G Tb u = V at *
  have m22 : M'.1 22 = nI u := by rw [f1.1]; exact h22
  have m23 : M'.1 23 = nI D.length := by rw [f1.1]; exact h23
  have m24 : Sg (M'.2 24) 0 D := by rw [f1.2 24 (by decide) (by decide)]; exact h24
  unfold m_isDraft
  rw [e1, cb_s, m22, rd_n (show u < 10 by omega) (by decide), v17, m23]
  by_cases hl : V.length = D.length
  · rw [if_pos (by rw [hl])]
    refine lq2 (Q := fun y => ∃ z M', y = some (z, M') ∧ FrL T M' ∧ ((z = 1 ∧ V = D) ∨ (z = 0 ∧ V ≠ D))) (fun d (a b : Int32) => ∃ k, k + d = D.length ∧ b = nI k ∧ ((a = 1 ∧ ∀ j, j < k → gl V j = gl D j) ∨ (a = 0 ∧ V ≠ D))) ?_ _ D.length _ _ (FU_lt (by omega)) ⟨0, by omega, rfl, Or.inl ⟨rfl, fun j hj => by omega⟩⟩
    rintro d a b g ⟨k, hk, rfl, hz⟩ ih
    by_cases h0 : d = 0
    · rw [if_pos (nI_le (by omega) (by omega)), gd_t (by rcases hz with ⟨z, -⟩ | ⟨z, -⟩ <;> rw [z] <;> decide)]
      refine ⟨a, M', rfl, f1, ?_⟩
      rcases hz with ⟨z, w⟩ | ⟨z, w⟩
      · exact Or.inl ⟨z, gl_ext hl fun j hj => w j (by omega)⟩
      · exact Or.inr ⟨z, w⟩
    · have hkD : k < D.length := by omega
      rw [if_neg (nI_ge hkD (by omega))]
      rcases hz with ⟨rfl, w⟩ | ⟨rfl, w⟩
      · have e18 : M'.2 18 (40 * u + k) = nI (gl V k) := v18 k (by omega)
        have e24 : M'.2 24 k = nI (gl D k) := by
          have := m24 k hkD
          rwa [Nat.zero_add] at this
        rw [if_neg z10, n40, nI_add, rd_n (show 40 * u + k < 400 by omega) (by decide), rd_n (show k < 20 by omega) (by decide), e18, e24, nI_1]
        by_cases he : gl V k = gl D k
        · rw [if_pos (by rw [he])]
          refine ih (d - 1) _ _ (by omega) ⟨k + 1, by omega, rfl, Or.inl ⟨rfl, fun j hj => ?_⟩⟩
          by_cases hjk : j = k
          · rw [hjk]; exact he
          · exact w j (by omega)
        · rw [if_neg (fun z => he ((nI_eq (okL_gl vok (by omega)) (okL_gl hok hkD)).mp z))]
          exact ih (d - 1) _ _ (by omega) ⟨k + 1, by omega, rfl, Or.inr ⟨rfl, fun z => he (by rw [z])⟩⟩
      · rw [if_pos z00, gd_t (Or.inl rfl)]
        exact ⟨0, M', rfl, f1, Or.inr ⟨rfl, w⟩⟩
  · rw [if_neg (fun z => hl ((nI_eq (by omega) (by omega)).mp z))]
    have hne : V ≠ D := fun z => hl (by rw [z])
    refine lq2 (Q := fun y => ∃ z M', y = some (z, M') ∧ FrL T M' ∧ ((z = 1 ∧ V = D) ∨ (z = 0 ∧ V ≠ D))) (fun d (a b : Int32) => a = 0 ∧ b = 0) ?_ _ 0 _ _ (FU_lt (by omega)) ⟨rfl, rfl⟩
    rintro d a b g ⟨rfl, rfl⟩ -
    by_cases hz : nI D.length ≤ 0
    · rw [if_pos hz, gd_t (Or.inl rfl)]
      exact ⟨0, M', rfl, f1, Or.inr ⟨rfl, hne⟩⟩
    · rw [if_neg hz, if_pos z00, gd_t (Or.inl rfl)]
      exact ⟨0, M', rfl, f1, Or.inr ⟨rfl, hne⟩⟩
theorem differs_n {T : St} {t : Nat} {R H : List Nat} (ht : t < 3) (hTm : Tm T t R) (hR : R.length ≤ 12) (hRok : okL R) (h35 : Sg (T.2 35) 0 H) (hH : H.length ≤ 12) (hHok : okL H) : m_differs (nI t) (nI H.length) T = some (nI ((nw R H).length + (nw H R).length)) := by
  have hs35 : ∀ y, (H.any (fun r => decide (nI r = y)) = false ∧ m_placeOf 35 0 (nI H.length) y T = some (-1)) ∨ ∃ p, p < H.length ∧ nI (gl H p) = y ∧ H.any (fun r => decide (nI r = y)) = true ∧ m_placeOf 35 0 (nI H.length) y T = some (nI p) := fun y => seek_n (N := 12) (b := 0) h35 rfl (by decide) (by omega) y
  unfold m_differs
  refine lq2 (Q := fun y => y = some (nI ((nw R H).length + (nw H R).length))) (fun d (a b : Int32) => ∃ k, k + d = H.length ∧ b = nI k ∧ a = nI (nw R (H.take k)).length) ?_ _ H.length _ _ (FU_lt (by omega)) ⟨0, by omega, rfl, rfl⟩
  rintro d a b g ⟨k, hk, rfl, rfl⟩ ih
  by_cases h0 : d = 0
  · have hkl : k = H.length := by omega
    rw [if_pos (nI_le (by omega) (by omega)), hkl, List.take_length]
    refine lq2 (Q := fun y => y = some (nI ((nw R H).length + (nw H R).length))) (fun d (a b : Int32) => ∃ i, i + d = R.length ∧ b = nI i ∧ a = nI ((nw R H).length + (nw H (R.take i)).length)) ?_ _ R.length _ _ (FU_lt (by omega)) ⟨0, by omega, rfl, rfl⟩
    rintro d2 a b g2 ⟨i, hi, rfl, rfl⟩ ih2
    rw [rd_n ht (by decide), hTm.1]
    by_cases h1 : d2 = 0
    · have hil : i = R.length := by omega
      rw [if_pos (nI_le (by omega) (by omega)), hil, List.take_length]
    · have hil : i < R.length := by omega
      have hnt := nw_take (V := H) hil
      have e6 : T.2 6 (12 * t + i) = nI (gl R i) := hTm.2 i hil
      have hmem := any_mem hHok (hRok _ (gl_mem hil))
      rw [if_neg (nI_ge hil (by omega)), n12, nI_add, rd_n (show 12 * t + i < 36 by omega) (by decide), e6]
      rcases hs35 (nI (gl R i)) with ⟨hany, hp⟩ | ⟨p, hpl, hx, hany, hp⟩
      · rw [hany] at hmem
        have hm : gl R i ∉ H := of_decide_eq_false hmem.symm
        rw [if_neg hm] at hnt
        rw [hp, cb_s, jn_d, if_pos rfl]
        dsimp only
        rw [nI_1, nI_1]
        exact ih2 (d2 - 1) _ _ (by omega) ⟨i + 1, by omega, rfl, by rw [hnt, Nat.add_assoc]⟩
      · rw [hany] at hmem
        have hm : gl R i ∈ H := of_decide_eq_true hmem.symm
        rw [if_pos hm] at hnt
        rw [hp, cb_s, jn_d, if_neg (nm1 (by omega))]
        dsimp only
        rw [show (0 : Int32) = nI 0 from rfl, nI_add, nI_1]
        exact ih2 (d2 - 1) _ _ (by omega) ⟨i + 1, by omega, rfl, by rw [hnt, Nat.add_zero, Nat.add_zero]⟩
  · have hkl : k < H.length := by omega
    have hnt := nw_take (V := R) hkl
    have e35 : T.2 35 k = nI (gl H k) := by
      have := h35 k hkl
      rwa [Nat.zero_add] at this
    have hmem := any_mem hRok (hHok _ (gl_mem hkl))
    rw [if_neg (nI_ge hkl (by omega)), rd_n ht (by decide), rd_n (show k < 12 by omega) (by decide), hTm.1, e35, n12]
    rcases seek_n (N := 36) hTm.2 rfl (by decide) (by omega) (nI (gl H k)) with ⟨hany, hp⟩ | ⟨p, hpl, hx, hany, hp⟩
    · rw [hany] at hmem
      have hm : gl H k ∉ R := of_decide_eq_false hmem.symm
      rw [if_neg hm] at hnt
      rw [hp, cb_s, jn_d, if_pos rfl]
      dsimp only
      rw [nI_1, nI_1]
      exact ih (d - 1) _ _ (by omega) ⟨k + 1, by omega, rfl, by rw [hnt]⟩
    · rw [hany] at hmem
      have hm : gl H k ∈ R := of_decide_eq_true hmem.symm
      rw [if_pos hm] at hnt
      rw [hp, cb_s, jn_d, if_neg (nm1 (by omega))]
      dsimp only
      rw [show (0 : Int32) = nI 0 from rfl, nI_add, nI_1]
      exact ih (d - 1) _ _ (by omega) ⟨k + 1, by omega, rfl, by rw [hnt]⟩
