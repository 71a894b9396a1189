/-! ===== the relation of the two objects ===== -/
def RV (G : Gt) (nv : Nat) (S : St) (Tb : Nat → List Nat) : Prop := ∀ v, v < nv → Rw S (22 + 2 * v) (VV G Tb v)
def DD (G : Gt) (nv : Nat) (S M : St) (u : Nat) (l : List Nat) : Prop := u < nv ∧ S.1 44 = nI u ∧ M.1 21 = 1 ∧ M.1 22 = nI u ∧ Rw S 0 l ∧ M.1 23 = nI l.length ∧ Sg (M.2 24) 0 l ∧ Srt l ∧ ∀ r, r ∈ l → pt (G u 1) r = r
def RD (G : Gt) (nv : Nat) (S M : St) : Prop := (S.1 44 = -1 ∧ M.1 21 = 0) ∨ ∃ u l, DD G nv S M u l
def UU (G : Gt) (nt : Nat) (S M : St) (nu : Nat) (Un : Nat → Nat → List Nat) : Prop := nu ≤ 5 ∧ S.1 45 = nI nu ∧ M.1 32 = nI nu ∧ ∀ j, j < nu → ∀ t, t < 3 → M.2 33 (3 * j + t) = nI (Un j t).length ∧ Sg (M.2 34) (36 * j + 12 * t) (Un j t) ∧ (t < nt → Rw S (3 + 7 * t + j) (Un j t) ∧ FT G t (Un j t)) ∧ (nt ≤ t → Un j t = [])
def RU (G : Gt) (nt : Nat) (S M : St) : Prop := ∃ nu Un, UU G nt S M nu Un
theorem Rw.fr {S S' : St} {i : Nat} {l : List Nat} (h : Rw S i l) (h1 : S'.1 i = S.1 i) (h2 : S'.2 i = S.2 i) : Rw S' i l := ⟨h1.trans h.1, h.2.1, by rw [h2]; exact h.2.2.1, h.2.2.2⟩
theorem RV.fr {G : Gt} {nv : Nat} {S S' : St} {Tb : Nat → List Nat} (h : RV G nv S Tb) (hs : ∀ v, v < nv → S'.1 (22 + 2 * v) = S.1 (22 + 2 * v) ∧ S'.2 (22 + 2 * v) = S.2 (22 + 2 * v)) : RV G nv S' Tb := fun v hv => (h v hv).fr (hs v hv).1 (hs v hv).2
theorem DD.fr {G : Gt} {nv u : Nat} {l : List Nat} {S M S' M' : St} (h : DD G nv S M u l) (h44 : S'.1 44 = S.1 44) (h01 : S'.1 0 = S.1 0) (h02 : S'.2 0 = S.2 0) (h21 : M'.1 21 = M.1 21) (h22 : M'.1 22 = M.1 22) (h23 : M'.1 23 = M.1 23) (h24 : M'.2 24 = M.2 24) : DD G nv S' M' u l := by
  obtain ⟨a, b, c, d, e, f, g, i, j⟩ := h
  exact ⟨a, h44.trans b, h21.trans c, h22.trans d, e.fr h01 h02, h23.trans f, by rw [h24]; exact g, i, j⟩
theorem RD.fr {G : Gt} {nv : Nat} {S M S' M' : St} (h : RD G nv S M) (h44 : S'.1 44 = S.1 44) (h01 : S'.1 0 = S.1 0) (h02 : S'.2 0 = S.2 0) (h21 : M'.1 21 = M.1 21) (h22 : M'.1 22 = M.1 22) (h23 : M'.1 23 = M.1 23) (h24 : M'.2 24 = M.2 24) : RD G nv S' M' := by
  rcases h with ⟨a, b⟩ | ⟨u, l, h⟩
  · exact Or.inl ⟨h44.trans a, h21.trans b⟩
  · exact Or.inr ⟨u, l, h.fr h44 h01 h02 h21 h22 h23 h24⟩
theorem RU.fr {G : Gt} {nt : Nat} {S M S' M' : St} (h : RU G nt S M) (h45 : S'.1 45 = S.1 45) (hs : ∀ t, t < nt → ∀ j, j < 5 → S'.1 (3 + 7 * t + j) = S.1 (3 + 7 * t + j) ∧ S'.2 (3 + 7 * t + j) = S.2 (3 + 7 * t + j)) (h32 : M'.1 32 = M.1 32) (h33 : M'.2 33 = M.2 33) (h34 : M'.2 34 = M.2 34) : RU G nt S' M' := by
  obtain ⟨nu, Un, a, b, c, d⟩ := h
  refine ⟨nu, Un, a, h45.trans b, h32.trans c, fun j hj t ht => ?_⟩
  obtain ⟨e, f, g, i⟩ := d j hj t ht
  rw [h33, h34]
  exact ⟨e, f, fun htn => ⟨(g htn).1.fr (hs t htn j (by omega)).1 (hs t htn j (by omega)).2, (g htn).2⟩, i⟩
theorem SX.fr {nt nv : Nat} {S S' : St} (h : SX S nt nv) (hs : ∀ k, k = 42 ∨ k = 43 ∨ k = 44 ∨ k = 55 ∨ k = 56 → S'.1 k = S.1 k) : SX S' nt nv := by
  obtain ⟨a, b, c, d, e⟩ := h
  refine ⟨(hs 56 (by omega)).trans a, (hs 55 (by omega)).trans b, (hs 42 (by omega)).trans c, (hs 43 (by omega)).trans d, ?_⟩
  rw [hs 44 (by omega)]
  exact e
/-- cells of the class that the relation does not speak of -/
def scr (k : Nat) : Prop := k = 2 ∨ k = 9 ∨ k = 16 ∨ (22 ≤ k ∧ k < 42 ∧ k % 2 = 1) ∨ (46 ≤ k ∧ k ≤ 52)
def FrC (S S' : St) : Prop := (∀ k, ¬ scr k → S'.1 k = S.1 k) ∧ ∀ k, k < 42 → ¬ scr k → S'.2 k = S.2 k
theorem FrC.rf {S : St} : FrC S S := ⟨fun _ _ => rfl, fun _ _ _ => rfl⟩
theorem FrC.tr {S S1 S2 : St} (h1 : FrC S S1) (h2 : FrC S1 S2) : FrC S S2 := ⟨fun k hk => (h2.1 k hk).trans (h1.1 k hk), fun k hk hs => (h2.2 k hk hs).trans (h1.2 k hk hs)⟩
def FrX (M M' : St) : Prop := (∀ k, k ≠ 0 → k ≠ 25 → k ≠ 26 → k ≠ 27 → k ≠ 30 → M'.1 k = M.1 k) ∧ ∀ k, (k < 17 ∨ (20 < k ∧ k < 28) ∨ (31 < k ∧ k < 35)) → M'.2 k = M.2 k
theorem FrX.rf {M : St} : FrX M M := ⟨fun _ _ _ _ _ _ => rfl, fun _ _ => rfl⟩
theorem FrX.tr {M M1 M2 : St} (h1 : FrX M M1) (h2 : FrX M1 M2) : FrX M M2 := ⟨fun k a b c d e => (h2.1 k a b c d e).trans (h1.1 k a b c d e), fun k h => (h2.2 k h).trans (h1.2 k h)⟩
theorem FrL.X {M M' : St} (h : FrL M M') : FrX M M' := ⟨fun k _ _ _ _ _ => by rw [h.1], fun k hk => h.2 k (by omega) (by omega)⟩
theorem FrX.w0 {M : St} {x : Int32} : FrX M (w1 M 0 x) := ⟨fun k h _ _ _ _ => w1_ne h, fun _ _ => rfl⟩