/-! ===== fewest: the class ===== -/
theorem sum_cg {f g : Nat → Nat} : ∀ {n : Nat}, (∀ i, i < n → f i = g i) → sumN f n = sumN g n := by
  intro n
  induction n with
  | zero => intro _; rfl
  | succ n ih =>
    intro h
    show sumN f n + f n = sumN g n + g n
    rw [ih fun i hi => h i (by omega), h n (Nat.lt_succ_self n)]
theorem bits_n {x : Int32} (h : ∀ i, 9 ≤ i → i < 32 → bq x i = false) : dJ_bitCount x = some (nI (sumN (fun k => if bq x k = true then 1 else 0) 9)) := by
  obtain ⟨j, hj, he⟩ := pk_andE x (m := 511) 9 (by decide)
  have hx : x = nI j := he ▸ (bq_ext fun i hi => by
    rw [bq_and, bq_511 ⟨i, hi⟩]
    by_cases h9 : i < 9
    · rw [decide_eq_true h9, Bool.and_true]
    · rw [h i (by omega) hi, Bool.false_and])
  rw [hx]
  exact bit_n ⟨j, hj⟩
theorem and_z {x y : Int32} : (x &&& y) = 0 ↔ ∀ i, i < 32 → bq x i = true → bq y i = false := by
  constructor
  · intro h i hi hx
    have h1 : bq (x &&& y) i = false := by rw [h, bq_0]
    rw [bq_and, hx, Bool.true_and] at h1
    exact h1
  · intro h
    refine bq_ext fun i hi => ?_
    rw [bq_and, bq_0]
    cases hx : bq x i
    · rfl
    · rw [h i hi hx]; rfl
theorem bq_set {x : Int32} {k i : Nat} (hk : k < 32) (hi : i < 32) : bq (x ||| (1 <<< (nI k &&& 31))) i = (bq x i || decide (i = k)) := by
  rw [bq_or, ← bt_bq (s := 1 <<< (nI k &&& 31)) hi, bt_one hk hi]
theorem gl_app {A B : List Nat} {j : Nat} : gl (A ++ B) j = if j < A.length then gl A j else gl B (j - A.length) := by
  unfold gl
  rw [List.getD_eq_getElem?_getD, List.getD_eq_getElem?_getD, List.getD_eq_getElem?_getD]
  by_cases h : j < A.length
  · rw [if_pos h, List.getElem?_append_left h]
  · rw [if_neg h, List.getElem?_append_right (by omega)]
theorem gl_map {A : List Nat} {f : Nat → Nat} {j : Nat} (h : j < A.length) : gl (A.map f) j = f (gl A j) := by
  unfold gl
  rw [List.getD_eq_getElem?_getD, List.getD_eq_getElem?_getD, List.getElem?_map, List.getElem?_eq_getElem h]
  rfl
theorem tl_s {s : Int32} {c : Nat} (h : bt s c = true) : tl s (c + 1) = tl s c ++ (tl s c).map (fun r => r + 10 ^ c) ++ (tl s c).map (fun r => r + 2 * 10 ^ c) := if_pos h
theorem tl_o {s : Int32} {c : Nat} (h : bt s c = false) : tl s (c + 1) = tl s c := if_neg (by rw [h]; simp)
theorem tl_3 {s : Int32} {c : Nat} (h : bt s c = true) : (tl s (c + 1)).length = 3 * (tl s c).length := by
  rw [tl_s h, List.length_append, List.length_append, List.length_map, List.length_map]
  omega
theorem tl_nx {s : Int32} {c i : Nat} (h : bt s c = true) (hi : i < 2 * (tl s c).length) : gl (tl s (c + 1)) ((tl s c).length + i) = gl (tl s (c + 1)) i + 10 ^ c := by
  rw [tl_s h]
  by_cases h1 : i < (tl s c).length
  · have a : gl (tl s c ++ (tl s c).map (fun r => r + 10 ^ c) ++ (tl s c).map (fun r => r + 2 * 10 ^ c)) ((tl s c).length + i) = gl (tl s c) i + 10 ^ c := by
      rw [gl_app, if_pos (by rw [List.length_append, List.length_map]; omega), gl_app, if_neg (by omega), Nat.add_sub_cancel_left, gl_map h1]
    have b : gl (tl s c ++ (tl s c).map (fun r => r + 10 ^ c) ++ (tl s c).map (fun r => r + 2 * 10 ^ c)) i = gl (tl s c) i := by
      rw [gl_app, if_pos (by rw [List.length_append, List.length_map]; omega), gl_app, if_pos h1]
    rw [a, b]
  · have a : gl (tl s c ++ (tl s c).map (fun r => r + 10 ^ c) ++ (tl s c).map (fun r => r + 2 * 10 ^ c)) ((tl s c).length + i) = gl (tl s c) (i - (tl s c).length) + 2 * 10 ^ c := by
      rw [gl_app, if_neg (by rw [List.length_append, List.length_map]; omega), List.length_append, List.length_map, show (tl s c).length + i - ((tl s c).length + (tl s c).length) = i - (tl s c).length by omega, gl_map (by omega)]
    have b : gl (tl s c ++ (tl s c).map (fun r => r + 10 ^ c) ++ (tl s c).map (fun r => r + 2 * 10 ^ c)) i = gl (tl s c) (i - (tl s c).length) + 10 ^ c := by
      rw [gl_app, if_pos (by rw [List.length_append, List.length_map]; omega), gl_app, if_neg h1, gl_map (by omega)]
    rw [a, b]
    omega
theorem tl_lo {s : Int32} {c k : Nat} (hk : k < (tl s c).length) : gl (tl s (c + 1)) k = gl (tl s c) k := by
  cases h : bt s c
  · rw [tl_o h]
  · rw [tl_s h, gl_app, if_pos (by rw [List.length_append]; omega), gl_app, if_pos hk]
theorem listRows_n {S : St} {s : Int32} (hL : (tl s 6).length ≤ 9) : ∃ S', d8_listRows s S = some S' ∧ S'.1 49 = nI (tl s 6).length ∧ (∀ k, k < (tl s 6).length → S'.2 42 k = nI (gl (tl s 6) k)) ∧ (∀ k, k ≠ 49 → S'.1 k = S.1 k) ∧ ∀ k, k ≠ 42 → S'.2 k = S.2 k := by
  have e0 : ∀ k : Nat → Option St, rd (0 : Int32) 9 k = k 0 := fun k => rd_n (j := 0) (by decide) (by decide)
  unfold d8_listRows
  rw [e0, lt_d, lt_d]
  refine lq2 (Q := fun x => ∃ S' : St, x = some S' ∧ S'.1 49 = nI (tl s 6).length ∧ (∀ k, k < (tl s 6).length → S'.2 42 k = nI (gl (tl s 6) k)) ∧ (∀ k, k ≠ 49 → S'.1 k = S.1 k) ∧ ∀ k, k ≠ 42 → S'.2 k = S.2 k) (fun d (a : Int32) (T : St) => ∃ c, c + d = 6 ∧ a = nI c ∧ T.1 49 = nI (tl s c).length ∧ (∀ k, k < (tl s c).length → T.2 42 k = nI (gl (tl s c) k)) ∧ (∀ k, k ≠ 49 → T.1 k = S.1 k) ∧ ∀ k, k ≠ 42 → T.2 k = S.2 k) ?_ _ 6 _ _ (FU_lt (by omega)) ⟨0, by omega, rfl, w1_eq, fun k hk => by
    have hk0 : k = 0 := by
      have : (tl s 0).length = 1 := rfl
      omega
    rw [hk0, w1_2, w2_at]
    rfl, fun k hk => by rw [w1_ne hk]; rfl, fun k hk => by rw [w1_2, w2_ne hk]⟩
  rintro d a T g ⟨c, hc, rfl, h49, h42, hF1, hF2⟩ ih
  by_cases h0 : d = 0
  · have hc6 : c = 6 := by omega
    subst hc6
    rw [if_pos (show (6 : Int32) ≤ nI 6 by decide)]
    exact ⟨T, rfl, h49, h42, hF1, hF2⟩
  · have hn9 : (tl s (c + 1)).length ≤ 9 := Nat.le_trans (tl_mo (by omega)) hL
    rw [if_neg (show ¬ (6 : Int32) ≤ nI c from nI_ge (b := 6) (by omega) (by decide)), isIn_n, cb_s]
    cases hb : bt s c
    · rw [if_neg (show ¬ false = true by simp), if_pos z00]
      refine lq2 (Q := fun x => ∃ S' : St, x = some S' ∧ S'.1 49 = nI (tl s 6).length ∧ (∀ k, k < (tl s 6).length → S'.2 42 k = nI (gl (tl s 6) k)) ∧ (∀ k, k ≠ 49 → S'.1 k = S.1 k) ∧ ∀ k, k ≠ 42 → S'.2 k = S.2 k) (fun d (a : Int32) (U : St) => a = 0 ∧ U = T) ?_ _ 0 _ _ (FU_lt (by omega)) ⟨rfl, rfl⟩
      rintro d2 a U g2 ⟨rfl, rfl⟩ -
      rw [if_pos (show (2 : Int32) * 0 ≤ 0 by decide), nI_1]
      refine ih (d - 1) _ _ (by omega) ⟨c + 1, by omega, rfl, by rw [tl_o hb]; exact h49, by rw [tl_o hb]; exact h42, hF1, hF2⟩
    · rw [if_pos rfl, if_neg z10]
      have h3 := tl_3 hb
      refine lq2 (Q := fun x => ∃ S' : St, x = some S' ∧ S'.1 49 = nI (tl s 6).length ∧ (∀ k, k < (tl s 6).length → S'.2 42 k = nI (gl (tl s 6) k)) ∧ (∀ k, k ≠ 49 → S'.1 k = S.1 k) ∧ ∀ k, k ≠ 42 → S'.2 k = S.2 k) (fun d (a : Int32) (U : St) => ∃ i, i + d = 2 * (tl s c).length ∧ a = nI i ∧ U.1 49 = nI ((tl s c).length + i) ∧ (∀ k, k < (tl s c).length + i → U.2 42 k = nI (gl (tl s (c + 1)) k)) ∧ (∀ k, k ≠ 49 → U.1 k = S.1 k) ∧ ∀ k, k ≠ 42 → U.2 k = S.2 k) ?_ _ (2 * (tl s c).length) _ _ (FU_lt (by omega)) ⟨0, by omega, rfl, h49, fun k hk => by rw [h42 k hk, tl_lo hk], hF1, hF2⟩
      rintro d2 a U g2 ⟨i, hi, rfl, u49, u42, uF1, uF2⟩ ih2
      rw [h49, show (2 : Int32) * nI (tl s c).length = nI (2 * (tl s c).length) from pk_mul 2 _]
      by_cases h1 : d2 = 0
      · rw [if_pos (nI_le (by omega) (by omega)), nI_1]
        refine ih (d - 1) _ _ (by omega) ⟨c + 1, by omega, rfl, by rw [u49]; congr 1; omega, fun k hk => u42 k (by omega), uF1, uF2⟩
      · rw [if_neg (nI_ge (by omega) (by omega)), u49, if_neg (show ¬ (9 : Int32) ≤ nI ((tl s c).length + i) from nI_ge (b := 9) (by omega) (by decide)), rd_n (show i < 9 by omega) (by decide), show (1 : Int32) = nI 1 from rfl, told_n (show c < 6 by omega) (by decide), cb_s, rd_n (show (tl s c).length + i < 9 by omega) (by decide), lt_d, w2_1, u49, u42 i (by have := (tl_len (s := s) (c := c)).2; omega), nI_add, nI_add, lt_d, Nat.one_mul, ← tl_nx hb (by omega), nI_add]
        refine ih2 (d2 - 1) _ _ (by omega) ⟨i + 1, by omega, rfl, w1_eq, fun k hk => ?_, fun k hk => by rw [w1_ne hk, w2_1]; exact uF1 k hk, fun k hk => by rw [w1_2, w2_ne hk]; exact uF2 k hk⟩
        rw [w1_2]
        by_cases hke : k = (tl s c).length + i
        · rw [hke, w2_at]
        · rw [w2_nj hke]
          exact u42 k (by omega)
theorem sn_st {G : Gt} {nt nv r : Nat} (hG : WG G nt nv) : ∀ b w, w < b → w < nv → ∀ n m, w < n → w < m → sn G n w r = sn G m w r := by
  intro b
  induction b with
  | zero => intro w h; omega
  | succ b ih =>
    intro w hb hw n m hn hm
    obtain ⟨n, rfl⟩ : ∃ q, n = q + 1 := ⟨n - 1, by omega⟩
    obtain ⟨m, rfl⟩ : ∃ q, m = q + 1 := ⟨m - 1, by omega⟩
    show ((if G w 6 = 4 then selB G w r else true) && (if G w 6 = 6 then true else sn G n (vl G w) r)) = ((if G w 6 = 4 then selB G w r else true) && (if G w 6 = 6 then true else sn G m (vl G w) r))
    by_cases k6 : G w 6 = 6
    · rw [if_pos k6, if_pos k6]
    · have := (hG.L' hw k6).2
      rw [if_neg k6, if_neg k6, ih _ (by omega) (by omega) n m (by omega) (by omega)]
theorem isSeen_n {S : St} {G : Gt} {nt nv v r : Nat} (hO : OKG G nt nv) (hv : v < nv) (hr : r < 2 ^ 31) : d8_isSeen G nt nv (some v) (nI r) S = some (if sn G (v + 1) v r = true then 1 else 0) := by
  have hG := hO.1
  have h10 := hG.1.2
  unfold d8_isSeen
  refine lq1 (Q := fun x => x = some (if sn G (v + 1) v r = true then 1 else 0)) (fun d (o : Option Nat) => (o = none ∧ sn G (v + 1) v r = true) ∨ ∃ w, o = some w ∧ d = w + 1 ∧ w < nv ∧ sn G (w + 1) w r = sn G (v + 1) v r) ?_ _ (v + 1) _ (FU_lt (by omega)) (Or.inr ⟨v, rfl, rfl, hv, rfl⟩)
  rintro d o g (⟨rfl, h⟩ | ⟨w, rfl, rfl, hw, he⟩) ih
  · rw [oc_o, if_pos h]
  · have hs : sn G (w + 1) w r = ((if G w 6 = 4 then selB G w r else true) && (if G w 6 = 6 then true else sn G w (vl G w) r)) := rfl
    have hnext : (if G w 6 = 4 then selB G w r else true) = true → lt (oid (G w 4)) (fun (o18 : Option Nat) => g o18) = some (if sn G (v + 1) v r = true then 1 else 0) := by
      intro h1
      rw [h1, Bool.true_and] at hs
      rw [lt_d]
      by_cases k6 : G w 6 = 6
      · rw [hG.no4 hw k6, oid_m1]
        rw [if_pos k6] at hs
        exact ih 0 _ (by omega) (Or.inl ⟨rfl, by rw [← he, hs]⟩)
      · obtain ⟨l4, hl⟩ := hG.L' hw k6
        rw [l4, oid_nI (by omega)]
        rw [if_neg k6] at hs
        refine ih (vl G w + 1) _ (by omega) (Or.inr ⟨_, rfl, rfl, by omega, ?_⟩)
        rw [← he, hs]
        exact sn_st hG _ _ (Nat.lt_succ_self _) (by omega) _ _ (by omega) (by omega)
    rw [oc_s, gd_t hw]
    have h9 : d9_selects w (nI r) = some 1 := rfl
    rcases hG.K hw with k6 | k6 | k6 | k6
    · rw [vd1 k6, h9, cb_s, if_neg z10]
      exact hnext (if_neg (by rw [k6]; decide))
    · rw [vd2 k6, h9, cb_s, if_neg z10]
      exact hnext (if_neg (by rw [k6]; decide))
    · obtain ⟨-, -, -, ⟨c, hc6, hc7, -⟩, -⟩ := (hO.2.1 w hw).2.1 k6
      rw [vd4 k6, selects_n hc7 hc6 hr, cb_s]
      rw [if_pos k6] at hnext hs
      cases hsel : selB G w r
      · rw [if_neg (show ¬ false = true by simp), if_pos z00]
        rw [hsel, Bool.false_and] at hs
        rw [← he, hs]
        rfl
      · rw [if_pos rfl, if_neg z10]
        exact hnext hsel
    · rw [vd6 k6, h9, cb_s, if_neg z10]
      exact hnext (if_neg (by rw [k6]; decide))
theorem rivals_n {S : St} {L : List Nat} {ks : Int32} {k : Nat} (h49 : S.1 49 = nI L.length) (hL : L.length ≤ 9) (h42 : ∀ i, i < L.length → S.2 42 i = nI (gl L i)) (hok : okL L) (hk : k < L.length) : ∃ m, d8_rivalsOf (nI k) ks S = some m ∧ ∀ i, i < 32 → (bq m i = true ↔ i < L.length ∧ i ≠ k ∧ pt ks (gl L i) = pt ks (gl L k)) := by
  unfold d8_rivalsOf
  refine lq2 (Q := fun x => ∃ m, x = some m ∧ ∀ i, i < 32 → (bq m i = true ↔ i < L.length ∧ i ≠ k ∧ pt ks (gl L i) = pt ks (gl L k))) (fun d (m a : Int32) => ∃ j, j + d = L.length ∧ a = nI j ∧ ∀ i, i < 32 → (bq m i = true ↔ i < j ∧ i ≠ k ∧ pt ks (gl L i) = pt ks (gl L k))) ?_ _ L.length _ _ (FU_lt (by omega)) ⟨0, by omega, rfl, fun i hi => by rw [bq_0]; exact ⟨fun z => (by cases z), fun z => (by omega)⟩⟩
  rintro d m a g ⟨j, hj, rfl, hm⟩ ih
  rw [h49]
  by_cases h0 : d = 0
  · rw [if_pos (nI_le (by omega) (by omega))]
    exact ⟨m, rfl, fun i hi => by rw [hm i hi]; constructor <;> (rintro ⟨a, b, c⟩; exact ⟨by omega, b, c⟩)⟩
  · have hjl : j < L.length := by omega
    rw [if_neg (nI_ge hjl (by omega)), if_neg (show ¬ (9 : Int32) ≤ nI j from nI_ge (b := 9) (by omega) (by decide)), if_neg (show ¬ (9 : Int32) ≤ nI k from nI_ge (b := 9) (by omega) (by decide)), nI_1]
    by_cases hjk : j = k
    · rw [if_pos (by rw [hjk])]
      refine ih (d - 1) _ _ (by omega) ⟨j + 1, by omega, rfl, fun i hi => ?_⟩
      rw [hm i hi]
      constructor
      · rintro ⟨a, b, c⟩; exact ⟨by omega, b, c⟩
      · rintro ⟨a, b, c⟩; exact ⟨by omega, b, c⟩
    · rw [if_neg (fun z => hjk ((nI_eq (by omega) (by omega)).mp z)), rd_n (show j < 9 by omega) (by decide), rd_n (show k < 9 by omega) (by decide), h42 j hjl, h42 k hk, alike_n (okL_gl hok hjl) (okL_gl hok hk), cb_s]
      by_cases he : pt ks (gl L j) = pt ks (gl L k)
      · rw [if_pos he, if_neg z10]
        refine ih (d - 1) _ _ (by omega) ⟨j + 1, by omega, rfl, fun i hi => ?_⟩
        rw [bq_set (by omega) hi, Bool.or_eq_true, hm i hi, decide_eq_true_iff]
        constructor
        · rintro (⟨a, b, c⟩ | rfl)
          · exact ⟨by omega, b, c⟩
          · exact ⟨by omega, hjk, he⟩
        · rintro ⟨a, b, c⟩
          by_cases hij : i = j
          · exact Or.inr hij
          · exact Or.inl ⟨by omega, b, c⟩
      · rw [if_neg he, if_pos z00]
        refine ih (d - 1) _ _ (by omega) ⟨j + 1, by omega, rfl, fun i hi => ?_⟩
        rw [hm i hi]
        constructor
        · rintro ⟨a, b, c⟩; exact ⟨by omega, b, c⟩
        · rintro ⟨a, b, c⟩
          have : i ≠ j := fun z => he (z ▸ c)
          exact ⟨by omega, b, c⟩
