/-! ===== the relation of the two objects ===== -/
def RG (G : Gt) (nt nv : Nat) (M : St) : Prop := OKG G nt nv ∧ PW M ∧ M.1 2 = nI nt ∧ M.1 7 = nI nv ∧
  (∀ v, v < nv → KM G M v ∧ G v 0 = nI v ∧ ∀ c, c < 32 → bt (G v 3) c = true → c < nt) ∧
  ∀ t, t < nt → M.2 3 t = G (20 + t) 0 ∧ M.2 4 t = G (20 + t) 1 ∧ sub (G (20 + t) 1) (G (20 + t) 0) ∧ ∃ c, 0 < c ∧ c < 64 ∧ G (20 + t) 0 = nI c
def RB (G : Gt) (nt : Nat) (S M : St) (Tb : Nat → List Nat) : Prop := ∀ t, t < nt → Rw S (1 + 7 * t) (Tb t) ∧ Tm M t (Tb t) ∧ FT G t (Tb t)
def RV (G : Gt) (nv : Nat) (S : St) (Tb : Nat → List Nat) : Prop := ∀ v, v < nv → Rw S (22 + 2 * v) (VV G Tb v)
def DD (G : Gt) (nv : Nat) (S M : St) (u : Nat) (l : List Nat) : Prop := u < nv ∧ S.1 44 = nI u ∧ M.1 21 = 1 ∧ M.1 22 = nI u ∧ Rw S 0 l ∧ M.1 23 = nI l.length ∧ Sg (M.2 24) 0 l ∧ Srt l ∧ ∀ r, r ∈ l → pt (G u 1) r = r
def RD (G : Gt) (nv : Nat) (S M : St) : Prop := (S.1 44 = -1 ∧ M.1 21 = 0) ∨ ∃ u l, DD G nv S M u l
def UU (G : Gt) (nt : Nat) (S M : St) (nu : Nat) (Un : Nat → Nat → List Nat) : Prop := nu ≤ 5 ∧ S.1 45 = nI nu ∧ M.1 32 = nI nu ∧ ∀ j, j < nu → ∀ t, t < 3 → M.2 33 (3 * j + t) = nI (Un j t).length ∧ Sg (M.2 34) (36 * j + 12 * t) (Un j t) ∧ (t < nt → Rw S (3 + 7 * t + j) (Un j t) ∧ FT G t (Un j t)) ∧ (nt ≤ t → Un j t = [])
def RU (G : Gt) (nt : Nat) (S M : St) : Prop := ∃ nu Un, UU G nt S M nu Un
def RR : RT := fun S G nt nv M => SX S nt nv ∧ RG G nt nv M ∧ (∃ Tb, RB G nt S M Tb ∧ RV G nv S Tb) ∧ RD G nv S M ∧ RU G nt S M
theorem RG.fr {G : Gt} {nt nv : Nat} {M M' : St} (h : RG G nt nv M) (h2 : M'.1 2 = M.1 2) (h7 : M'.1 7 = M.1 7) (hk : ∀ k, k < 17 → k ≠ 5 → k ≠ 6 → M'.2 k = M.2 k) : RG G nt nv M' := by
  obtain ⟨a, b, c, d, e, f⟩ := h
  refine ⟨a, fun q hq => by rw [hk 1 (by decide) (by decide) (by decide)]; exact b q hq, h2.trans c, h7.trans d, fun v hv => ⟨KM_fr (e v hv).1 (fun k h8 h16 => hk k (by omega) (by omega) (by omega)), (e v hv).2⟩, fun t ht => ?_⟩
  rw [hk 3 (by decide) (by decide) (by decide), hk 4 (by decide) (by decide) (by decide)]
  exact f t ht
theorem RB.fr {G : Gt} {nt : Nat} {S M S' M' : St} {Tb : Nat → List Nat} (h : RB G nt S M Tb) (hs : ∀ t, t < nt → S'.1 (1 + 7 * t) = S.1 (1 + 7 * t) ∧ S'.2 (1 + 7 * t) = S.2 (1 + 7 * t)) (h5 : M'.2 5 = M.2 5) (h6 : M'.2 6 = M.2 6) : RB G nt S' M' Tb := by
  intro t ht
  obtain ⟨⟨a1, a2, a3, a4⟩, b, c⟩ := h t ht
  refine ⟨⟨(hs t ht).1.trans a1, a2, by rw [(hs t ht).2]; exact a3, a4⟩, ?_, c⟩
  unfold Tm
  rw [h5, h6]
  exact b
theorem Rw.fr {S S' : St} {i : Nat} {l : List Nat} (h : Rw S i l) (h1 : S'.1 i = S.1 i) (h2 : S'.2 i = S.2 i) : Rw S' i l := ⟨h1.trans h.1, h.2.1, by rw [h2]; exact h.2.2.1, h.2.2.2⟩
theorem RV.fr {G : Gt} {nv : Nat} {S S' : St} {Tb : Nat → List Nat} (h : RV G nv S Tb) (hs : ∀ v, v < nv → S'.1 (22 + 2 * v) = S.1 (22 + 2 * v) ∧ S'.2 (22 + 2 * v) = S.2 (22 + 2 * v)) : RV G nv S' Tb := fun v hv => (h v hv).fr (hs v hv).1 (hs v hv).2
theorem DD.fr {G : Gt} {nv u : Nat} {l : List Nat} {S M S' M' : St} (h : DD G nv S M u l) (h44 : S'.1 44 = S.1 44) (h01 : S'.1 0 = S.1 0) (h02 : S'.2 0 = S.2 0) (h21 : M'.1 21 = M.1 21) (h22 : M'.1 22 = M.1 22) (h23 : M'.1 23 = M.1 23) (h24 : M'.2 24 = M.2 24) : DD G nv S' M' u l := by
  obtain ⟨a, b, c, d, e, f, g, i, j⟩ := h
  exact ⟨a, h44.trans b, h21.trans c, h22.trans d, e.fr h01 h02, h23.trans f, by rw [h24]; exact g, i, j⟩
theorem RD.fr {G : Gt} {nv : Nat} {S M S' M' : St} (h : RD G nv S M) (h44 : S'.1 44 = S.1 44) (h01 : S'.1 0 = S.1 0) (h02 : S'.2 0 = S.2 0) (h21 : M'.1 21 = M.1 21) (h22 : M'.1 22 = M.1 22) (h23 : M'.1 23 = M.1 23) (h24 : M'.2 24 = M.2 24) : RD G nv S' M' := by
  rcases h with ⟨a, b⟩ | ⟨u, l, h⟩
  · exact Or.inl ⟨h44.trans a, h21.trans b⟩
  · exact Or.inr ⟨u, l, h.fr h44 h01 h02 h21 h22 h23 h24⟩
theorem RU.fr {G : Gt} {nt : Nat} {S M S' M' : St} (h : RU G nt S M) (h45 : S'.1 45 = S.1 45) (hs : ∀ t, t < nt → ∀ j, j < 5 → S'.1 (3 + 7 * t + j) = S.1 (3 + 7 * t + j) ∧ S'.2 (3 + 7 * t + j) = S.2 (3 + 7 * t + j)) (h32 : M'.1 32 = M.1 32) (h33 : M'.2 33 = M.2 33) (h34 : M'.2 34 = M.2 34) : RU G nt S' M' := by
  obtain ⟨nu, Un, a, b, c, d⟩ := h
  refine ⟨nu, Un, a, h45.trans b, h32.trans c, fun j hj t ht => ?_⟩
  obtain ⟨e, f, g, i⟩ := d j hj t ht
  rw [h33, h34]
  exact ⟨e, f, fun htn => ⟨(g htn).1.fr (hs t htn j (by omega)).1 (hs t htn j (by omega)).2, (g htn).2⟩, i⟩
theorem SX.fr {nt nv : Nat} {S S' : St} (h : SX S nt nv) (hs : ∀ k, k = 42 ∨ k = 43 ∨ k = 44 ∨ k = 55 ∨ k = 56 → S'.1 k = S.1 k) : SX S' nt nv := by
  obtain ⟨a, b, c, d, e⟩ := h
  refine ⟨(hs 56 (by omega)).trans a, (hs 55 (by omega)).trans b, (hs 42 (by omega)).trans c, (hs 43 (by omega)).trans d, ?_⟩
  rw [hs 44 (by omega)]
  exact e
/-- cells of the class that the relation does not speak of -/
def scr (k : Nat) : Prop := k = 2 ∨ k = 9 ∨ k = 16 ∨ (22 ≤ k ∧ k < 42 ∧ k % 2 = 1) ∨ (46 ≤ k ∧ k ≤ 52)
def FrC (S S' : St) : Prop := (∀ k, ¬ scr k → S'.1 k = S.1 k) ∧ ∀ k, k < 42 → ¬ scr k → S'.2 k = S.2 k
theorem FrC.rf {S : St} : FrC S S := ⟨fun _ _ => rfl, fun _ _ _ => rfl⟩
theorem FrC.tr {S S1 S2 : St} (h1 : FrC S S1) (h2 : FrC S1 S2) : FrC S S2 := ⟨fun k hk => (h2.1 k hk).trans (h1.1 k hk), fun k hk hs => (h2.2 k hk hs).trans (h1.2 k hk hs)⟩
def FrX (M M' : St) : Prop := (∀ k, k ≠ 0 → k ≠ 25 → k ≠ 26 → k ≠ 27 → k ≠ 30 → M'.1 k = M.1 k) ∧ ∀ k, (k < 17 ∨ (20 < k ∧ k < 28) ∨ (31 < k ∧ k < 35)) → M'.2 k = M.2 k
theorem FrX.rf {M : St} : FrX M M := ⟨fun _ _ _ _ _ _ => rfl, fun _ _ => rfl⟩
theorem FrX.tr {M M1 M2 : St} (h1 : FrX M M1) (h2 : FrX M1 M2) : FrX M M2 := ⟨fun k a b c d e => (h2.1 k a b c d e).trans (h1.1 k a b c d e), fun k h => (h2.2 k h).trans (h1.2 k h)⟩
theorem FrL.X {M M' : St} (h : FrL M M') : FrX M M' := ⟨fun k _ _ _ _ _ => by rw [h.1], fun k hk => h.2 k (by omega) (by omega)⟩
theorem FrX.w0 {M : St} {x : Int32} : FrX M (w1 M 0 x) := ⟨fun k h _ _ _ _ => w1_ne h, fun _ _ => rfl⟩
theorem RR.sc {S M S' M' : St} {G : Gt} {nt nv : Nat} (h : RR S G nt nv M) (hC : FrC S S') (hX : FrX M M') : RR S' G nt nv M' := by
  obtain ⟨a, b, ⟨Tb, c, d⟩, e, f⟩ := h
  have h10 := b.1.1.1.2
  have h3 := b.1.1.1.1
  have n : ∀ k, k < 42 → ¬ scr k → S'.1 k = S.1 k ∧ S'.2 k = S.2 k := fun k h1 h2 => ⟨hC.1 k h2, hC.2 k h1 h2⟩
  refine ⟨a.fr fun k hk => hC.1 k (by unfold scr; omega), b.fr (hX.1 2 (by decide) (by decide) (by decide) (by decide) (by decide)) (hX.1 7 (by decide) (by decide) (by decide) (by decide) (by decide)) (fun k h1 _ _ => hX.2 k (Or.inl h1)), ⟨Tb, c.fr (fun t ht => n _ (by omega) (by unfold scr; omega)) (hX.2 5 (by omega)) (hX.2 6 (by omega)), d.fr fun v hv => n _ (by omega) (by unfold scr; omega)⟩, e.fr (hC.1 44 (by unfold scr; omega)) (n 0 (by omega) (by unfold scr; omega)).1 (n 0 (by omega) (by unfold scr; omega)).2 (hX.1 21 (by decide) (by decide) (by decide) (by decide) (by decide)) (hX.1 22 (by decide) (by decide) (by decide) (by decide) (by decide)) (hX.1 23 (by decide) (by decide) (by decide) (by decide) (by decide)) (hX.2 24 (by omega)), f.fr (hC.1 45 (by unfold scr; omega)) (fun t ht j hj => n _ (by omega) (by unfold scr; omega)) (hX.1 32 (by decide) (by decide) (by decide) (by decide) (by decide)) (hX.2 33 (by omega)) (hX.2 34 (by omega))⟩
theorem RR.m {S M M' : St} {G : Gt} {nt nv : Nat} (h : RR S G nt nv M) (hX : FrX M M') : RR S G nt nv M' := h.sc FrC.rf hX
theorem RR.x0 {S M : St} {G : Gt} {nt nv : Nat} {x : Int32} (h : RR S G nt nv M) : RR S G nt nv (w1 M 0 x) := h.m FrX.w0
theorem thr_n {M : St} : m_thrown M = some (M.1 0) := rfl
theorem thr_w {M : St} {x : Int32} : m_thrown (w1 M 0 x) = some x := by rw [thr_n, w1_eq]
