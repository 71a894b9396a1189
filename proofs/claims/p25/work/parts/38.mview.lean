/-! ===== the reference's views: rows of view v lie at 40 v; a: the rows' array, c: the counts' ===== -/
def FrV (a c v : Nat) (M M' : St) : Prop := M'.1 = M.1 ∧ (∀ k, k ≠ a → k ≠ c → M'.2 k = M.2 k) ∧ (∀ j, j ≠ v → M'.2 c j = M.2 c j) ∧ ∀ j, (j < 40 * v ∨ 40 * v + 40 ≤ j) → M'.2 a j = M.2 a j
theorem FrV.rf {a c v : Nat} {M : St} : FrV a c v M M := ⟨rfl, fun _ _ _ => rfl, fun _ _ => rfl, fun _ _ => rfl⟩
theorem FrV.tr {a c v : Nat} {M M1 M2 : St} (h1 : FrV a c v M M1) (h2 : FrV a c v M1 M2) : FrV a c v M M2 := ⟨h2.1.trans h1.1, fun k ha hc => (h2.2.1 k ha hc).trans (h1.2.1 k ha hc), fun j hj => (h2.2.2.1 j hj).trans (h1.2.2.1 j hj), fun j hj => (h2.2.2.2 j hj).trans (h1.2.2.2 j hj)⟩
theorem n40 {v : Nat} : (40 : Int32) * nI v = nI (40 * v) := pk_mul 40 v