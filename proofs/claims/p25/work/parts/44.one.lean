/-! ===== a join's row has one match at most ===== -/
theorem fold_no {cm rs : Int32} {r : Nat} : ∀ {W acc : List Nat}, (∀ q, q ∈ W → pt cm r ≠ pt cm q) → W.foldl (stW cm rs r) acc = acc := by
  intro W
  induction W with
  | nil => intro acc _; rfl
  | cons a t ih =>
    intro acc h
    rw [List.foldl_cons]
    have e : stW cm rs r acc a = acc := by
      unfold stW
      rw [if_neg (h a List.mem_cons_self)]
    rw [e]
    exact ih fun q hq => h q (List.mem_cons_of_mem _ hq)
def unl (k : Int32) (W : List Nat) : Prop := ∀ q, q ∈ W → ∀ q2, q2 ∈ W → pt k q = pt k q2 → q = q2
theorem fold_one {cm rs : Int32} {r : Nat} : ∀ {W acc : List Nat}, W.Nodup → unl cm W → W.foldl (stW cm rs r) acc = match fnd cm (pt cm r) W with
    | none => acc
    | some q => insR (r + pt rs q) acc := by
  intro W
  induction W with
  | nil => intro acc _ _; rfl
  | cons a t ih =>
    intro acc hn hu
    obtain ⟨h1, h2⟩ := List.nodup_cons.mp hn
    rw [List.foldl_cons, fnd_cons]
    by_cases he : pt cm a = pt cm r
    · rw [if_pos he]
      have e : stW cm rs r acc a = insR (r + pt rs a) acc := by
        unfold stW
        rw [if_pos he.symm]
      rw [e]
      refine fold_no fun q hq z => h1 ?_
      have := hu a List.mem_cons_self q (List.mem_cons_of_mem _ hq) (he.trans z)
      rwa [this]
    · rw [if_neg he]
      have e : stW cm rs r acc a = acc := by
        unfold stW
        rw [if_neg (fun z => he z.symm)]
      rw [e]
      exact ih h2 fun q hq q2 hq2 => hu q (List.mem_cons_of_mem _ hq) q2 (List.mem_cons_of_mem _ hq2)
theorem unl_sub {k s : Int32} {W : List Nat} (h : unl k W) (hs : sub k s) : unl s W := fun q hq q2 hq2 he => h q hq q2 hq2 (by
  rw [pt_eq] at he ⊢
  exact fun j hj hb => he j hj (hs j hj hb))
