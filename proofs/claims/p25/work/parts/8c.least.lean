/-! ===== fewest ===== -/
theorem pc_n : ∀ m : Fin 64, dJ_bitCount (nI m.1) = some (nI (pc m.1)) := by decide +kernel
theorem canC_n {S : St} {G : Gt} {nt nv t c : Nat} {H : List Nat} (hH : Rw S (1 + 7 * t) H) (hcs : G (20 + t) 0 = nI c) (hc : c < 64) : ((pc c ≤ 2 ∧ CT H) ∧ d8_canTry G nt nv t S = some 1) ∨ (¬ (pc c ≤ 2 ∧ CT H) ∧ d8_canTry G nt nv t S = some 0) := by
  have hl := Nat.le_trans hH.2.1 dcap_le
  have hpc := pc_n ⟨c, hc⟩
  dsimp only at hpc
  have hpb : pc c ≤ 6 := by
    unfold pc
    have : ∀ n, sumN (fun k => if bt (nI c) k = true then 1 else 0) n ≤ n := by
      intro n
      induction n with
      | zero => exact Nat.le_refl 0
      | succ n ih =>
        show sumN _ n + (if bt (nI c) n = true then 1 else 0) ≤ n + 1
        split <;> omega
    exact this 6
  unfold d8_canTry
  rw [hcs, hpc, cb_s]
  by_cases h2 : pc c ≤ 2
  · rw [if_pos (show nI (pc c) ≤ 2 from nI_le (b := 2) h2 (by decide))]
    refine lq1 (Q := fun y => ((pc c ≤ 2 ∧ CT H) ∧ y = some 1) ∨ (¬ (pc c ≤ 2 ∧ CT H) ∧ y = some 0)) (fun d (a : Int32) => ∃ k, k + d = H.length ∧ a = nI k ∧ ∀ i, i < k → ∀ j, j < 6 → dg (gl H i) j ≤ 2) ?_ _ H.length _ (FU_lt (by omega)) ⟨0, by omega, rfl, fun t ht => by omega⟩
    rintro d a g ⟨k, hk, rfl, hno⟩ ih
    rw [size_n hH, cb_s]
    by_cases h0 : d = 0
    · rw [if_pos (nI_le (by omega) (by omega))]
      refine Or.inl ⟨⟨h2, fun r hr => ?_⟩, rfl⟩
      obtain ⟨i, hi, rfl⟩ := mem_gl hr
      exact hno i (by omega)
    · have hkl : k < H.length := by omega
      rw [if_neg (nI_ge hkl (by omega)), at_n hH hkl, cb_s]
      rcases great_n (okL_gl hH.2.2.2 hkl) with ⟨hg, e⟩ | ⟨hg, e⟩
      · rw [e, cb_s, if_pos z00, nI_1]
        refine ih (d - 1) _ (by omega) ⟨k + 1, by omega, rfl, fun i hi => ?_⟩
        by_cases hik : i = k
        · rw [hik]; exact hg
        · exact hno i (by omega)
      · rw [e, cb_s, if_neg z10]
        exact Or.inr ⟨fun z => hg (z.2 _ (gl_mem hkl)), rfl⟩
  · rw [if_neg (show ¬ nI (pc c) ≤ 2 from nI_ge (a := 2) (by omega) (by omega))]
    exact Or.inr ⟨fun z => h2 z.1, rfl⟩
def N3 (c : Nat) : Nat := if c = 1 ∨ c = 2 ∨ c = 4 then 3 else 9
def R3 (c k : Nat) : Nat := if c = 1 ∨ c = 3 then k else if c = 2 ∨ c = 6 then 3 * k else if c = 4 then 9 * k else k % 3 + 9 * (k / 3)
def xs3 (c m : Nat) : Nat → Int32
  | 0 => 0
  | k + 1 => if bq (nI m) k = true then xs3 c m k ||| ((1 : Int32) <<< (nI (R3 c k) &&& 31)) else xs3 c m k
def X3 (c m : Nat) : Int32 := xs3 c m (N3 c)
theorem six_d : ∀ c : Fin 8, c.1 ≠ 0 → c.1 ≠ 7 → pc c.1 ≤ 2 ∧ (tl (nI c.1) 6).length = N3 c.1 ∧ (∀ k : Fin 9, k.1 < N3 c.1 → gl (tl (nI c.1) 6) k.1 = nm (R3 c.1 k.1) ∧ R3 c.1 k.1 < 27 ∧ p3 (nI c.1) (R3 c.1 k.1) = R3 c.1 k.1) ∧ ∀ r : Fin 27, p3 (nI c.1) r.1 = r.1 → ¬ ∀ k : Fin 9, ¬ (k.1 < N3 c.1 ∧ R3 c.1 k.1 = r.1) := by decide +kernel
theorem step_d : ∀ c : Fin 8, c.1 ≠ 0 → c.1 ≠ 7 → ∀ m : Fin 512, m.1 < 2 ^ N3 c.1 → ¬ X3 c.1 m.1 < 0 ∧ (m.1 ≠ 0 → X3 c.1 m.1 ≠ 0 ∧ ((X3 c.1 m.1 - 1) &&& X3 c.1 (2 ^ N3 c.1 - 1)) = X3 c.1 (m.1 - 1)) := by decide +kernel
theorem full_d : (∀ k : Fin 3, bq (nI (2 ^ 3 - 1)) k.1 = true) ∧ ∀ k : Fin 9, bq (nI (2 ^ 9 - 1)) k.1 = true := by decide +kernel
theorem N3_c {c : Nat} : N3 c = 3 ∨ N3 c = 9 := by
  unfold N3
  split
  · exact Or.inl rfl
  · exact Or.inr rfl
