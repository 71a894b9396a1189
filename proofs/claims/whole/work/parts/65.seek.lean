/-! ===== conflicts are found alike ===== -/
def FP (A : Nat → Nat → Prop) (n i j : Nat) : Prop := i < j ∧ j < n ∧ A i j ∧ ∀ i' j', i' < j' → j' < n → (i' < i ∨ (i' = i ∧ j' < j)) → ¬ A i' j'
def noP (A : Nat → Nat → Prop) (n : Nat) : Prop := ∀ i j, i < j → j < n → ¬ A i j
theorem FP_uniq {A : Nat → Nat → Prop} {n i j i' j' : Nat} (h : FP A n i j) (h' : FP A n i' j') : i' = i ∧ j' = j := by
  obtain ⟨a, b, c, d⟩ := h
  obtain ⟨a', b', c', d'⟩ := h'
  have h1 : ¬ (i' < i ∨ (i' = i ∧ j' < j)) := fun z => d i' j' a' b' z c'
  have h2 : ¬ (i < i' ∨ (i = i' ∧ j < j')) := fun z => d' i j a b z c
  omega
theorem FP_cg {A B : Nat → Nat → Prop} {n i j : Nat} (hAB : ∀ i j, i < j → j < n → (A i j ↔ B i j)) (h : FP A n i j) : FP B n i j := ⟨h.1, h.2.1, (hAB i j h.1 h.2.1).mp h.2.2.1, fun i' j' a b c z => h.2.2.2 i' j' a b c ((hAB i' j' a b).mpr z)⟩
theorem noP_cg {A B : Nat → Nat → Prop} {n : Nat} (hAB : ∀ i j, i < j → j < n → (A i j ↔ B i j)) (h : noP A n) : noP B n := fun i j a b z => h i j a b ((hAB i j a b).mpr z)
def apC (S : St) (c x y : Int32) : St := w1 (w1 (w1 S 46 c) 47 x) 48 y
def apM (M : St) (c x y : Int32) : St := w1 (w1 (w1 M 25 c) 26 x) 27 y
theorem apM_25 {M : St} {c x y : Int32} : (apM M c x y).1 25 = c := by
  unfold apM
  rw [w1_ne (by decide), w1_ne (by decide), w1_eq]
theorem apC_46 {S : St} {c x y : Int32} : (apC S c x y).1 46 = c := by
  unfold apC
  rw [w1_ne (by decide), w1_ne (by decide), w1_eq]
theorem tell_n {S : St} {c x y : Int32} : d0_tell c x y S = some (apC S c x y) := rfl
theorem tells_n {M : St} {v x2 x y : Int32} : m_tells v x2 x y M = some (apM M (10 * v + x2) x y) := rfl
theorem seekPair_n {S : St} {G : Gt} {nt nv v : Nat} {l : List Nat} {x2 ks cs : Int32} (h : Rw S (23 + 2 * v) l) : (noP (fun i j => pt ks (gl l i) = pt ks (gl l j) ∧ pt cs (gl l i) ≠ pt cs (gl l j)) l.length ∧ d0_seekPair G nt nv v x2 ks cs S = some S) ∨ ∃ i j, FP (fun i j => pt ks (gl l i) = pt ks (gl l j) ∧ pt cs (gl l i) ≠ pt cs (gl l j)) l.length i j ∧ d0_seekPair G nt nv v x2 ks cs S = some (apC S (10 * G v 0 + x2) (nI (gl l i)) (nI (gl l j))) := by
  have hl := Nat.le_trans h.2.1 dcap_le
  unfold d0_seekPair
  refine lq1 (Q := fun x => (noP (fun i j => pt ks (gl l i) = pt ks (gl l j) ∧ pt cs (gl l i) ≠ pt cs (gl l j)) l.length ∧ x = some S) ∨ ∃ i j, FP (fun i j => pt ks (gl l i) = pt ks (gl l j) ∧ pt cs (gl l i) ≠ pt cs (gl l j)) l.length i j ∧ x = some (apC S (10 * G v 0 + x2) (nI (gl l i)) (nI (gl l j)))) (fun d (a : Int32) => ∃ i, i + d = l.length ∧ a = nI i ∧ ∀ i' j', i' < i → i' < j' → j' < l.length → ¬ (pt ks (gl l i') = pt ks (gl l j') ∧ pt cs (gl l i') ≠ pt cs (gl l j'))) ?_ _ l.length _ (FU_lt (by omega)) ⟨0, by omega, rfl, fun i' j' hz => by omega⟩
  rintro d a g ⟨i, hi, rfl, hno⟩ ih
  rw [size_n h, cb_s]
  by_cases h0 : d = 0
  · rw [if_pos (nI_le (by omega) (by omega))]
    exact Or.inl ⟨fun i' j' p q => hno i' j' (by omega) p q, rfl⟩
  · have hil : i < l.length := by omega
    rw [if_neg (nI_ge hil (by omega)), nI_1]
    refine lq1 (Q := fun x => (noP (fun i j => pt ks (gl l i) = pt ks (gl l j) ∧ pt cs (gl l i) ≠ pt cs (gl l j)) l.length ∧ x = some S) ∨ ∃ i j, FP (fun i j => pt ks (gl l i) = pt ks (gl l j) ∧ pt cs (gl l i) ≠ pt cs (gl l j)) l.length i j ∧ x = some (apC S (10 * G v 0 + x2) (nI (gl l i)) (nI (gl l j)))) (fun d (a : Int32) => ∃ j, j + d = l.length ∧ i < j ∧ a = nI j ∧ ∀ j', i < j' → j' < j → ¬ (pt ks (gl l i) = pt ks (gl l j') ∧ pt cs (gl l i) ≠ pt cs (gl l j'))) ?_ _ (l.length - (i + 1)) _ (FU_lt (by omega)) ⟨i + 1, by omega, by omega, rfl, fun j' p q => by omega⟩
    rintro d2 a g2 ⟨j, hj, hij, rfl, hno2⟩ ih2
    rw [cb_s]
    by_cases h1 : d2 = 0
    · rw [if_pos (nI_le (by omega) (by omega))]
      refine ih (d - 1) _ (by omega) ⟨i + 1, by omega, rfl, fun i' j' p q r => ?_⟩
      by_cases hii : i' = i
      · subst hii; exact hno2 j' q (by omega)
      · exact hno i' j' (by omega) q r
    · have hjl : j < l.length := by omega
      have ri := okL_gl h.2.2.2 hil
      have rj := okL_gl h.2.2.2 hjl
      rw [if_neg (nI_ge hjl (by omega)), at_n h hil, cb_s, at_n h hjl, cb_s, alike_n ri rj, cb_s]
      have hnext : ¬ (pt ks (gl l i) = pt ks (gl l j) ∧ pt cs (gl l i) ≠ pt cs (gl l j)) → (noP (fun i j => pt ks (gl l i) = pt ks (gl l j) ∧ pt cs (gl l i) ≠ pt cs (gl l j)) l.length ∧ g2 (nI j + 1) = some S) ∨ ∃ i' j', FP (fun i j => pt ks (gl l i) = pt ks (gl l j) ∧ pt cs (gl l i) ≠ pt cs (gl l j)) l.length i' j' ∧ g2 (nI j + 1) = some (apC S (10 * G v 0 + x2) (nI (gl l i')) (nI (gl l j'))) := by
        intro hA
        rw [nI_1]
        refine ih2 (d2 - 1) _ (by omega) ⟨j + 1, by omega, by omega, rfl, fun j' p q => ?_⟩
        by_cases hjj : j' = j
        · subst hjj; exact hA
        · exact hno2 j' p (by omega)
      by_cases hk : pt ks (gl l i) = pt ks (gl l j)
      · rw [if_pos hk, if_neg z10, alike_n ri rj, cb_s]
        by_cases hc : pt cs (gl l i) = pt cs (gl l j)
        · rw [if_pos hc, if_neg z10]
          exact hnext fun z => z.2 hc
        · rw [if_neg hc, if_pos z00, tell_n, cb_s]
          refine Or.inr ⟨i, j, ⟨hij, hjl, ⟨hk, hc⟩, fun i' j' p q r => ?_⟩, rfl⟩
          rcases r with r | ⟨rfl, r⟩
          · exact hno i' j' r p q
          · exact hno2 j' p r
      · rw [if_neg hk, if_pos z00]
        exact hnext fun z => hk z.1
theorem looksFor_n {M : St} {v : Nat} {l : List Nat} {x2 : Int32} {A : Nat → Nat → Prop} (h : Vm M 20 19 v l) (hv : v < 10) (h25 : M.1 25 = 0) (hnz : ¬ (10 * nI v + x2) = 0) (hA : ∀ i j, i < l.length → j < l.length → (A i j ∧ m_areAgainst (nI v) (nI (gl l i)) (nI (gl l j)) x2 M = some 1) ∨ (¬ A i j ∧ m_areAgainst (nI v) (nI (gl l i)) (nI (gl l j)) x2 M = some 0)) : (noP A l.length ∧ m_looksForTwo (nI v) x2 M = some M) ∨ ∃ i j, FP A l.length i j ∧ m_looksForTwo (nI v) x2 M = some (apM M (10 * nI v + x2) (nI (gl l i)) (nI (gl l j))) := by
  have hl := h.2.2.2
  unfold m_looksForTwo
  refine lq2 (Q := fun x => (noP A l.length ∧ x = some M) ∨ ∃ i j, FP A l.length i j ∧ x = some (apM M (10 * nI v + x2) (nI (gl l i)) (nI (gl l j)))) (fun d (a : Int32) (T : St) => ∃ i, i + d = l.length ∧ a = nI i ∧ ((T = M ∧ ∀ i' j', i' < i → i' < j' → j' < l.length → ¬ A i' j') ∨ ∃ p q, FP A l.length p q ∧ T = apM M (10 * nI v + x2) (nI (gl l p)) (nI (gl l q)))) ?_ _ l.length _ _ (FU_lt (by omega)) ⟨0, by omega, rfl, Or.inl ⟨rfl, fun i' j' hz => by omega⟩⟩
  rintro d a T g ⟨i, hi, rfl, hT⟩ ih
  have e19 : T.2 19 v = nI l.length := by
    rcases hT with ⟨rfl, -⟩ | ⟨p, q, -, rfl⟩
    · exact h.1
    · exact h.1
  rw [rd_n hv (by decide), e19]
  by_cases h0 : d = 0
  · rw [if_pos (nI_le (by omega) (by omega))]
    rcases hT with ⟨rfl, hno⟩ | ⟨p, q, hF, rfl⟩
    · exact Or.inl ⟨fun i' j' p q => hno i' j' (by omega) p q, rfl⟩
    · exact Or.inr ⟨p, q, hF, rfl⟩
  · have hil : i < l.length := by omega
    rw [if_neg (nI_ge hil (by omega))]
    rcases hT with ⟨rfl, hno⟩ | ⟨p, q, hF, rfl⟩
    · rw [if_pos h25, nI_1]
      refine lq2 (Q := fun x => (noP A l.length ∧ x = some T) ∨ ∃ i j, FP A l.length i j ∧ x = some (apM T (10 * nI v + x2) (nI (gl l i)) (nI (gl l j)))) (fun d (a : Int32) (U : St) => ∃ j, j + d = l.length ∧ i < j ∧ a = nI j ∧ ((U = T ∧ ∀ j', i < j' → j' < j → ¬ A i j') ∨ ∃ p q, FP A l.length p q ∧ U = apM T (10 * nI v + x2) (nI (gl l p)) (nI (gl l q)))) ?_ _ (l.length - (i + 1)) _ _ (FU_lt (by omega)) ⟨i + 1, by omega, by omega, rfl, Or.inl ⟨rfl, fun j' p q => by omega⟩⟩
      rintro d2 a U g2 ⟨j, hj, hij, rfl, hU⟩ ih2
      have e19' : U.2 19 v = nI l.length := by
        rcases hU with ⟨rfl, -⟩ | ⟨p, q, -, rfl⟩
        · exact h.1
        · exact h.1
      rw [rd_n hv (by decide), e19']
      by_cases h1 : d2 = 0
      · rw [if_pos (nI_le (by omega) (by omega))]
        refine ih (d - 1) _ _ (by omega) ⟨i + 1, by omega, rfl, ?_⟩
        rcases hU with ⟨rfl, hno2⟩ | ⟨p, q, hF, rfl⟩
        · refine Or.inl ⟨rfl, fun i' j' p q r => ?_⟩
          by_cases hii : i' = i
          · subst hii; exact hno2 j' q (by omega)
          · exact hno i' j' (by omega) q r
        · exact Or.inr ⟨p, q, hF, rfl⟩
      · have hjl : j < l.length := by omega
        rw [if_neg (nI_ge hjl (by omega))]
        rcases hU with ⟨rfl, hno2⟩ | ⟨p, q, hF, rfl⟩
        · have ei : U.2 20 (40 * v + i) = nI (gl l i) := h.2.1 i hil
          have ej : U.2 20 (40 * v + j) = nI (gl l j) := h.2.1 j hjl
          rw [if_pos h25, n40, nI_add, rd_n (by omega) (by decide), nI_add, rd_n (by omega) (by decide), ei, ej]
          rcases hA i j hil hjl with ⟨hAij, e⟩ | ⟨hAij, e⟩
          · rw [e, cb_s, if_neg z10, tells_n, cb_s, nI_1]
            refine ih2 (d2 - 1) _ _ (by omega) ⟨j + 1, by omega, by omega, rfl, Or.inr ⟨i, j, ⟨hij, hjl, hAij, fun i' j' p q r => ?_⟩, rfl⟩⟩
            rcases r with r | ⟨rfl, r⟩
            · exact hno i' j' r p q
            · exact hno2 j' p r
          · rw [e, cb_s, if_pos z00, nI_1]
            refine ih2 (d2 - 1) _ _ (by omega) ⟨j + 1, by omega, by omega, rfl, Or.inl ⟨rfl, fun j' p q => ?_⟩⟩
            by_cases hjj : j' = j
            · subst hjj; exact hAij
            · exact hno2 j' p (by omega)
        · rw [if_neg (show ¬ (apM T (10 * nI v + x2) (nI (gl l p)) (nI (gl l q))).1 25 = 0 by rw [apM_25]; exact hnz)]
          exact ih (d - 1) _ _ (by omega) ⟨i + 1, by omega, rfl, Or.inr ⟨p, q, hF, rfl⟩⟩
    · rw [if_neg (show ¬ (apM M (10 * nI v + x2) (nI (gl l p)) (nI (gl l q))).1 25 = 0 by rw [apM_25]; exact hnz)]
      exact Or.inr ⟨p, q, hF, rfl⟩
theorem n10c {v c : Nat} : (10 : Int32) * nI v + nI c = nI (10 * v + c) := by
  rw [show (10 : Int32) * nI v = nI (10 * v) from pk_mul 10 v, nI_add]
theorem against1 {M : St} {G : Gt} {v r q : Nat} (hP : PW M) (h15 : M.2 15 v = G v 2) (hv : v < 10) (hr : r < 2 ^ 31) (hq : q < 2 ^ 31) : (pt (G v 2) r = pt (G v 2) q ∧ m_areAgainst (nI v) (nI r) (nI q) 1 M = some 1) ∨ (¬ pt (G v 2) r = pt (G v 2) q ∧ m_areAgainst (nI v) (nI r) (nI q) 1 M = some 0) := by
  unfold m_areAgainst
  rw [if_pos rfl, rd_n hv (by decide), h15, mpart_n hP hr, cb_s, rd_n hv (by decide), h15, mpart_n hP hq, cb_s]
  by_cases he : pt (G v 2) r = pt (G v 2) q
  · rw [if_pos (by rw [he])]
    exact Or.inl ⟨he, rfl⟩
  · rw [if_neg (fun z => he ((nI_eq pt31 pt31).mp z))]
    exact Or.inr ⟨he, rfl⟩
theorem against3 {M : St} {G : Gt} {v r q : Nat} (hP : PW M) (h10 : M.2 10 v = nI (vr G v)) (r15 : M.2 15 (vr G v) = G (vr G v) 2) (r14 : M.2 14 (vr G v) = G (vr G v) 1) (hv : v < 10) (hrv : vr G v < v) (hr : r < 2 ^ 31) (hq : q < 2 ^ 31) : ((pt (G (vr G v) 2) r = pt (G (vr G v) 2) q ∧ pt (G (vr G v) 1) r ≠ pt (G (vr G v) 1) q) ∧ m_areAgainst (nI v) (nI r) (nI q) 3 M = some 1) ∨ (¬ (pt (G (vr G v) 2) r = pt (G (vr G v) 2) q ∧ pt (G (vr G v) 1) r ≠ pt (G (vr G v) 1) q) ∧ m_areAgainst (nI v) (nI r) (nI q) 3 M = some 0) := by
  unfold m_areAgainst
  rw [if_neg (show ¬ (3 : Int32) = 1 by decide), rd_n hv (by decide), h10, rd_n (by omega) (by decide), r15, mpart_n hP hr, cb_s, rd_n (by omega) (by decide), r15, mpart_n hP hq, cb_s]
  by_cases he : pt (G (vr G v) 2) r = pt (G (vr G v) 2) q
  · rw [if_pos (by rw [he]), rd_n (by omega) (by decide), r14, mpart_n hP hr, cb_s, rd_n (by omega) (by decide), r14, mpart_n hP hq, cb_s]
    by_cases hc : pt (G (vr G v) 1) r = pt (G (vr G v) 1) q
    · rw [if_pos (by rw [hc])]
      exact Or.inr ⟨fun z => z.2 hc, rfl⟩
    · rw [if_neg (fun z => hc ((nI_eq pt31 pt31).mp z))]
      exact Or.inl ⟨⟨he, hc⟩, rfl⟩
  · rw [if_neg (fun z => he ((nI_eq pt31 pt31).mp z))]
    exact Or.inr ⟨fun z => he z.1, rfl⟩
