/-! ===== insert, delete ===== -/
def up (Tb : Nat → List Nat) (u : Nat) (l : List Nat) : Nat → List Nat := fun t => if t = u then l else Tb t
theorem up_s {Tb : Nat → List Nat} {u : Nat} {l : List Nat} : up Tb u l u = l := if_pos rfl
theorem up_n {Tb : Nat → List Nat} {u t : Nat} {l : List Nat} (h : t ≠ u) : up Tb u l t = Tb t := if_neg h
theorem FT_ins {G : Gt} {t r : Nat} {l : List Nat} (h : FT G t l) (hl : l.length < 12) (hv : pt (G (20 + t) 0) r = r) (hf : fnd (G (20 + t) 1) (pt (G (20 + t) 1) r) l = none) : FT G t (insR r l) := by
  have hno := fun q (hq : q ∈ l) => fnd_none hf hq
  refine ⟨Nat.le_trans insR_le hl, insR_srt h.2.1, fun q hq => ?_, fun q hq q2 hq2 he => ?_⟩
  · rcases insR_mem.mp hq with rfl | z
    · exact hv
    · exact h.2.2.1 q z
  · rcases insR_mem.mp hq with rfl | z
    · rcases insR_mem.mp hq2 with rfl | z2
      · rfl
      · exact absurd he.symm (hno q2 z2)
    · rcases insR_mem.mp hq2 with rfl | z2
      · exact absurd he (hno q z)
      · exact h.2.2.2 q z q2 z2 he
theorem FT_rem {G : Gt} {t r : Nat} {l : List Nat} (h : FT G t l) : FT G t (rem r l) := ⟨Nat.le_trans (List.length_filter_le _ _) h.1, rem_srt h.2.1, fun q hq => h.2.2.1 q (rem_mem.mp hq).1, fun q hq q2 hq2 he => h.2.2.2 q (rem_mem.mp hq).1 q2 (rem_mem.mp hq2).1 he⟩