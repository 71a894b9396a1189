/-! ===== conflicts are found alike ===== -/
def FP (A : Nat → Nat → Prop) (n i j : Nat) : Prop := i < j ∧ j < n ∧ A i j ∧ ∀ i' j', i' < j' → j' < n → (i' < i ∨ (i' = i ∧ j' < j)) → ¬ A i' j'
def noP (A : Nat → Nat → Prop) (n : Nat) : Prop := ∀ i j, i < j → j < n → ¬ A i j
theorem FP_uniq {A : Nat → Nat → Prop} {n i j i' j' : Nat} (h : FP A n i j) (h' : FP A n i' j') : i' = i ∧ j' = j := by
  obtain ⟨a, b, c, d⟩ := h
  obtain ⟨a', b', c', d'⟩ := h'
  have h1 : ¬ (i' < i ∨ (i' = i ∧ j' < j)) := fun z => d i' j' a' b' z c'
  have h2 : ¬ (i < i' ∨ (i = i' ∧ j < j')) := fun z => d' i j a b z c
  omega
theorem FP_cg {A B : Nat → Nat → Prop} {n i j : Nat} (hAB : ∀ i j, i < j → j < n → (A i j ↔ B i j)) (h : FP A n i j) : FP B n i j := ⟨h.1, h.2.1, (hAB i j h.1 h.2.1).mp h.2.2.1, fun i' j' a b c z => h.2.2.2 i' j' a b c ((hAB i' j' a b).mpr z)⟩
theorem noP_cg {A B : Nat → Nat → Prop} {n : Nat} (hAB : ∀ i j, i < j → j < n → (A i j ↔ B i j)) (h : noP A n) : noP B n := fun i j a b z => h i j a b ((hAB i j a b).mpr z)
def apC (S : St) (c x y : Int32) : St := w1 (w1 (w1 S 46 c) 47 x) 48 y
def apM (M : St) (c x y : Int32) : St := w1 (w1 (w1 M 25 c) 26 x) 27 y
theorem apM_25 {M : St} {c x y : Int32} : (apM M c x y).1 25 = c := by
  unfold apM
  rw [w1_ne (by decide), w1_ne (by decide), w1_eq]
theorem apC_46 {S : St} {c x y : Int32} : (apC S c x y).1 46 = c := by
  unfold apC
  rw [w1_ne (by decide), w1_ne (by decide), w1_eq]
theorem tell_n {S : St} {c x y : Int32} : d0_tell c x y S = some (apC S c x y) := rfl
theorem seekPair_n {S : St} {G : Gt} {nt nv v : Nat} {l : List Nat} {x2 ks cs : Int32} (h : Rw S (23 + 2 * v) l) : (noP (fun i j => pt ks (gl l i) = pt ks (gl l j) ∧ pt cs (gl l i) ≠ pt cs (gl l j)) l.length ∧ d0_seekPair G nt nv v x2 ks cs S = some S) ∨ ∃ i j, FP (fun i j => pt ks (gl l i) = pt ks (gl l j) ∧ pt cs (gl l i) ≠ pt cs (gl l j)) l.length i j ∧ d0_seekPair G nt nv v x2 ks cs S = some (apC S (10 * G v 0 + x2) (nI (gl l i)) (nI (gl l j))) := by
  have hl := Nat.le_trans h.2.1 dcap_le
  unfold d0_seekPair
  refine lq1 (Q := fun x => (noP (fun i j => pt ks (gl l i) = pt ks (gl l j) ∧ pt cs (gl l i) ≠ pt cs (gl l j)) l.length ∧ x = some S) ∨ ∃ i j, FP (fun i j => pt ks (gl l i) = pt ks (gl l j) ∧ pt cs (gl l i) ≠ pt cs (gl l j)) l.length i j ∧ x = some (apC S (10 * G v 0 + x2) (nI (gl l i)) (nI (gl l j)))) (fun d (a : Int32) => ∃ i, i + d = l.length ∧ a = nI i ∧ ∀ i' j', i' < i → i' < j' → j' < l.length → ¬ (pt ks (gl l i') = pt ks (gl l j') ∧ pt cs (gl l i') ≠ pt cs (gl l j'))) ?_ _ l.length _ (FU_lt (by omega)) ⟨0, by omega, rfl, fun i' j' hz => by omega⟩
  rintro d a g ⟨i, hi, rfl, hno⟩ ih
  rw [size_n h, cb_s]
  by_cases h0 : d = 0
  · rw [if_pos (nI_le (by omega) (by omega))]
    exact Or.inl ⟨fun i' j' p q => hno i' j' (by omega) p q, rfl⟩
  · have hil : i < l.length := by omega
    rw [if_neg (nI_ge hil (by omega)), nI_1]
    refine lq1 (Q := fun x => (noP (fun i j => pt ks (gl l i) = pt ks (gl l j) ∧ pt cs (gl l i) ≠ pt cs (gl l j)) l.length ∧ x = some S) ∨ ∃ i j, FP (fun i j => pt ks (gl l i) = pt ks (gl l j) ∧ pt cs (gl l i) ≠ pt cs (gl l j)) l.length i j ∧ x = some (apC S (10 * G v 0 + x2) (nI (gl l i)) (nI (gl l j)))) (fun d (a : Int32) => ∃ j, j + d = l.length ∧ i < j ∧ a = nI j ∧ ∀ j', i < j' → j' < j → ¬ (pt ks (gl l i) = pt ks (gl l j') ∧ pt cs (gl l i) ≠ pt cs (gl l j'))) ?_ _ (l.length - (i + 1)) _ (FU_lt (by omega)) ⟨i + 1, by omega, by omega, rfl, fun j' p q => by omega⟩
    rintro d2 a g2 ⟨j, hj, hij, rfl, hno2⟩ ih2
    rw [cb_s]
    by_cases h1 : d2 = 0
    · rw [if_pos (nI_le (by omega) (by omega))]
      refine ih (d - 1) _ (by omega) ⟨i + 1, by omega, rfl, fun i' j' p q r => ?_⟩
      by_cases hii : i' = i
      · subst hii; exact hno2 j' q (by omega)
      · exact hno i' j' (by omega) q r
    · have hjl : j < l.length := by omega
      have ri := okL_gl h.2.2.2 hil
      have rj := okL_gl h.2.2.2 hjl
      rw [if_neg (nI_ge hjl (by omega)), at_n h hil, cb_s, at_n h hjl, cb_s, alike_n ri rj, cb_s]
      have hnext : ¬ (pt ks (gl l i) = pt ks (gl l j) ∧ pt cs (gl l i) ≠ pt cs (gl l j)) → (noP (fun i j => pt ks (gl l i) = pt ks (gl l j) ∧ pt cs (gl l i) ≠ pt cs (gl l j)) l.length ∧ g2 (nI j + 1) = some S) ∨ ∃ i' j', FP (fun i j => pt ks (gl l i) = pt ks (gl l j) ∧ pt cs (gl l i) ≠ pt cs (gl l j)) l.length i' j' ∧ g2 (nI j + 1) = some (apC S (10 * G v 0 + x2) (nI (gl l i')) (nI (gl l j'))) := by
        intro hA
        rw [nI_1]
        refine ih2 (d2 - 1) _ (by omega) ⟨j + 1, by omega, by omega, rfl, fun j' p q => ?_⟩
        by_cases hjj : j' = j
        · subst hjj; exact hA
        · exact hno2 j' p (by omega)
      by_cases hk : pt ks (gl l i) = pt ks (gl l j)
      · rw [if_pos hk, if_neg z10, alike_n ri rj, cb_s]
        by_cases hc : pt cs (gl l i) = pt cs (gl l j)
        · rw [if_pos hc, if_neg z10]
          exact hnext fun z => z.2 hc
        · rw [if_neg hc, if_pos z00, tell_n, cb_s]
          refine Or.inr ⟨i, j, ⟨hij, hjl, ⟨hk, hc⟩, fun i' j' p q r => ?_⟩, rfl⟩
          rcases r with r | ⟨rfl, r⟩
          · exact hno i' j' r p q
          · exact hno2 j' p r
      · rw [if_neg hk, if_pos z00]
        exact hnext fun z => hk z.1
theorem n10c {v c : Nat} : (10 : Int32) * nI v + nI c = nI (10 * v + c) := by
  rw [show (10 : Int32) * nI v = nI (10 * v) from pk_mul 10 v, nI_add]