/-! ===== the reference passes on what is wanted ===== -/
def FrP (v : Nat) (M M' : St) : Prop := M'.1 = M.1 ∧ (∀ k, k ≠ 20 → k ≠ 19 → k ≠ 35 → M'.2 k = M.2 k) ∧ (∀ j, j ≠ v → M'.2 19 j = M.2 19 j) ∧ ∀ j, (j < 40 * v ∨ 40 * v + 40 ≤ j) → M'.2 20 j = M.2 20 j
theorem FrP.rf {v : Nat} {M : St} : FrP v M M := ⟨rfl, fun _ _ _ _ => rfl, fun _ _ => rfl, fun _ _ => rfl⟩
theorem FrP.tr {v : Nat} {M M1 M2 : St} (h1 : FrP v M M1) (h2 : FrP v M1 M2) : FrP v M M2 := ⟨h2.1.trans h1.1, fun k a b c => (h2.2.1 k a b c).trans (h1.2.1 k a b c), fun j hj => (h2.2.2.1 j hj).trans (h1.2.2.1 j hj), fun j hj => (h2.2.2.2 j hj).trans (h1.2.2.2 j hj)⟩
theorem FrV.P {v : Nat} {M M' : St} (h : FrV 20 19 v M M') : FrP v M M' := ⟨h.1, fun k a b _ => h.2.1 k a b, h.2.2.1, h.2.2.2⟩
theorem pt31 {s : Int32} {r : Nat} : pt s r < 2 ^ 31 := Nat.lt_of_lt_of_le (pt_lt s r) (by decide)
theorem oN_free {k : Int32} {l : List Nat} {r : Nat} (hok : okL l) : (oN (fnd k (pt k r) l) = -1 ∧ free k l r = true) ∨ (¬ oN (fnd k (pt k r) l) = -1 ∧ ¬ free k l r = true) := by
  unfold free
  cases hf : fnd k (pt k r) l with
  | none => exact Or.inl ⟨rfl, rfl⟩
  | some q => exact Or.inr ⟨nm1 (Nat.lt_of_lt_of_le (hok q (fnd_mem hf).1) (by decide)), by simp⟩
theorem filt_fold {f : List Nat → Nat → List Nat} {p : Nat → Bool} (hf : ∀ acc r, f acc r = if p r = true then insR r acc else acc) : ∀ {L acc : List Nat}, L.foldl f acc = (L.filter p).foldl (fun acc r => insR r acc) acc := by
  intro L
  induction L with
  | nil => intro acc; rfl
  | cons a t ih =>
    intro acc
    rw [List.foldl_cons, hf]
    by_cases h : p a = true
    · rw [if_pos h, List.filter_cons_of_pos h, List.foldl_cons, ih]
    · rw [if_neg h, List.filter_cons_of_neg h, ih]