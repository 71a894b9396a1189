/-! ===== the class's picture grows: a new view, a new table ===== -/
def inE (nt nv : Nat) (c : Cd) : Prop := (c.1 = 5 ∧ c.2 < 7) ∨ (c.1 < 2 ∧ (c.2 < 1 + 7 * nt ∨ (22 ≤ c.2 ∧ c.2 < 22 + 2 * nv))) ∨ ((c.1 = 2 ∨ c.1 = 3) ∧ c.2 < nt) ∨ (c.1 = 4 ∧ c.2 < nv)
def EX (L : List Cd) (nt nv : Nat) : Prop := ∀ c, c ∈ L → inE nt nv c
def SX (S : St) (nt nv : Nat) : Prop := S.1 56 = nI nt ∧ S.1 55 = nI nv ∧ S.1 42 = nI nt ∧ S.1 43 = nI nv ∧ (S.1 44 = -1 ∨ ∃ u, u < nv ∧ S.1 44 = nI u)
def AX (D : va_G) (cA : Nat → ClassId) (A : Nat → Prop) (x0 : Nat) (S : St) (G : Gt) (nt nv : Nat) (H : Heap) : Prop := ∃ ad L, DX D cA A ad L G S H ∧ WF L G nt nv ∧ EX L nt nv ∧ ad (5, 0) = x0
theorem AX.kept {D : va_G} {cA : Nat → ClassId} {A : Nat → Prop} {x0 : Nat} {S : St} {G : Gt} {nt nv : Nat} {H H1 : Heap} (h : AX D cA A x0 S G nt nv H) (hq : ∀ q : Nat, q < H.size → H1[q]? = H[q]?) : AX D cA A x0 S G nt nv H1 := by
  obtain ⟨ad, L, h1, h2⟩ := h
  exact ⟨ad, L, HP.kept h1 hq, h2⟩
def gL (g : List Int32) : Nat → Int32 := fun j => g.getD j 0
def nVG (G : Gt) (nv : Nat) (g : Nat → Int32) : Gt := fun v => if v = nv then g else G v
def nTG (G : Gt) (nt : Nat) (g : Nat → Int32) : Gt := fun v => if v = 20 + nt then g else G v
def nVS (S : St) (nv : Nat) : St := (fun i => if 22 + 2 * nv ≤ i ∧ i < 24 + 2 * nv then 0 else S.1 i, fun i => if 22 + 2 * nv ≤ i ∧ i < 24 + 2 * nv then fun _ => 0 else S.2 i)
def nTS (S : St) (nt : Nat) : St := (fun i => if 1 + 7 * nt ≤ i ∧ i < 8 + 7 * nt then 0 else S.1 i, fun i => if 1 + 7 * nt ≤ i ∧ i < 8 + 7 * nt then fun _ => 0 else S.2 i)
def adx (ad : Cd → Nat) : List (Cd × Nat) → Cd → Nat
  | [], c => ad c
  | (d, q) :: r, c => if c = d then q else adx ad r c
theorem adx_eq {ad : Cd → Nat} {d : Cd} {q : Nat} {r : List (Cd × Nat)} : adx ad ((d, q) :: r) d = q := if_pos rfl
theorem adx_ne {ad : Cd → Nat} {d c : Cd} {q : Nat} {r : List (Cd × Nat)} (h : c ≠ d) : adx ad ((d, q) :: r) c = adx ad r c := if_neg h
theorem cd_ne {a b i j : Nat} (h : a ≠ b ∨ i ≠ j) : ((a, i) : Cd) ≠ (b, j) := fun q => by
  have := Prod.mk.inj q
  omega
theorem rO_ext {ad ad2 : Cd → Nat} {nv : Nat} {x : Int32} (h : x = -1 ∨ ∃ u, u < nv ∧ x = nI u) (hn : nv ≤ 10) (ha : ∀ u, u < nv → ad2 (4, u) = ad (4, u)) : rO ad2 4 (oid x) = rO ad 4 (oid x) := by
  rcases h with rfl | ⟨u, hu, rfl⟩
  · rfl
  · rw [oid_nI (by omega)]
    exact congrArg Value.ref (ha u hu)
theorem WF.o4 {L : List Cd} {G : Gt} {nt nv v : Nat} (h : WF L G nt nv) (hv : v < nv) : G v 4 = -1 ∨ ∃ u, u < nv ∧ G v 4 = nI u := by
  rcases h.2.2.2.2.2.2 v hv with ⟨_, ⟨u, hu, q⟩, _⟩ | ⟨_, ⟨u, hu, q⟩, _⟩ | ⟨_, ⟨u, hu, q⟩, _⟩ | ⟨_, q, _⟩
  · exact Or.inr ⟨u, by omega, q⟩
  · exact Or.inr ⟨u, by omega, q⟩
  · exact Or.inr ⟨u, by omega, q⟩
  · exact Or.inl q
theorem WF.o5 {L : List Cd} {G : Gt} {nt nv v : Nat} (h : WF L G nt nv) (hv : v < nv) : G v 5 = -1 ∨ ∃ u, u < nv ∧ G v 5 = nI u := by
  rcases h.2.2.2.2.2.2 v hv with ⟨_, _, q⟩ | ⟨_, _, u, hu, q⟩ | ⟨_, _, q⟩ | ⟨_, _, q, _⟩
  · exact Or.inl q
  · exact Or.inr ⟨u, by omega, q⟩
  · exact Or.inl q
  · exact Or.inl q
theorem dce_ext {cA : Nat → ClassId} {ad ad2 : Cd → Nat} {L : List Cd} {G G2 : Gt} {S S2 : St} {nt nv : Nat} (hG : WF L G nt nv) (hS : SX S nt nv) (ha : ∀ c, inE nt nv c → ad2 c = ad c) (hv : ∀ v, v < nv → G2 v = G v) (ht : ∀ t, t < nt → G2 (20 + t) = G (20 + t))
    (h1 : ∀ i, (i < 1 + 7 * nt ∨ (22 ≤ i ∧ i < 22 + 2 * nv) ∨ 42 ≤ i) → S2.1 i = S.1 i) (h2 : ∀ i, (i < 1 + 7 * nt ∨ (22 ≤ i ∧ i < 22 + 2 * nv) ∨ 42 ≤ i) → S2.2 i = S.2 i) : ∀ c, inE nt nv c → dce cA ad2 G2 S2 c = dce cA ad G S c := by
  intro c hc
  obtain ⟨a, i⟩ := c
  have hb := hG.1
  have e5 : ∀ j, j < 7 → ad2 (5, j) = ad (5, j) := fun j hj => ha _ (Or.inl ⟨rfl, hj⟩)
  have e0 : ∀ j, (j < 1 + 7 * nt ∨ (22 ≤ j ∧ j < 22 + 2 * nv)) → ad2 (0, j) = ad (0, j) := fun j hj => ha _ (Or.inr (Or.inl ⟨show (0 : Nat) < 2 from by decide, hj⟩))
  have e1 : ∀ j, (j < 1 + 7 * nt ∨ (22 ≤ j ∧ j < 22 + 2 * nv)) → ad2 (1, j) = ad (1, j) := fun j hj => ha _ (Or.inr (Or.inl ⟨show (1 : Nat) < 2 from by decide, hj⟩))
  have e2 : ∀ j, j < nt → ad2 (2, j) = ad (2, j) := fun j hj => ha _ (Or.inr (Or.inr (Or.inl ⟨Or.inl rfl, hj⟩)))
  have e3 : ∀ j, j < nt → ad2 (3, j) = ad (3, j) := fun j hj => ha _ (Or.inr (Or.inr (Or.inl ⟨Or.inr rfl, hj⟩)))
  have e4 : ∀ j, j < nv → ad2 (4, j) = ad (4, j) := fun j hj => ha _ (Or.inr (Or.inr (Or.inr ⟨rfl, hj⟩)))
  have s1 : ∀ k, 42 ≤ k → S2.1 k = S.1 k := fun k hk => h1 k (Or.inr (Or.inr hk))
  rcases hc with ⟨q, r⟩ | ⟨q, r⟩ | ⟨q, r⟩ | ⟨q, r⟩
  · replace q : a = 5 := q
    replace r : i < 7 := r
    subst q
    have z : i = 0 ∨ i = 1 ∨ i = 2 ∨ i = 3 ∨ i = 4 ∨ i = 5 ∨ i = 6 := by omega
    rcases z with rfl | rfl | rfl | rfl | rfl | rfl | rfl
    · have r44 := rO_ext (ad := ad) (ad2 := ad2) (x := S.1 44) hS.2.2.2.2 hb.2 e4
      show (.inr (8, [.ref (ad2 (5, 1)), .int (S2.1 42), .ref (ad2 (5, 2)), .int (S2.1 43), .ref (ad2 (0, 0)), rO ad2 4 (oid (S2.1 44)), .ref (ad2 (5, 3)), .ref (ad2 (5, 4)), .int (S2.1 45)]) : va_E) = _
      rw [s1 42 (by decide), s1 43 (by decide), s1 44 (by decide), s1 45 (by decide), r44, e5 1 (by decide), e5 2 (by decide), e5 3 (by decide), e5 4 (by decide), e0 0 (by omega)]
      rfl
    · have f : (fun j => if j < (S2.1 56).toNatClampNeg then some (ad2 (2, j)) else none) = (fun j => if j < (S.1 56).toNatClampNeg then some (ad (2, j)) else none) := by
        rw [s1 56 (by decide), hS.1, nI_clamp (by omega)]
        funext j
        by_cases hj : j < nt
        · rw [if_pos hj, if_pos hj, e2 j hj]
        · rw [if_neg hj, if_neg hj]
      exact congrArg (fun f => (.inl (cA 3, 3, .inr (.inr (.inr (.inr f)))) : va_E)) f
    · have f : (fun j => if j < (S2.1 55).toNatClampNeg then some (ad2 (4, j)) else none) = (fun j => if j < (S.1 55).toNatClampNeg then some (ad (4, j)) else none) := by
        rw [s1 55 (by decide), hS.2.1, nI_clamp (by omega)]
        funext j
        by_cases hj : j < nv
        · rw [if_pos hj, if_pos hj, e4 j hj]
        · rw [if_neg hj, if_neg hj]
      exact congrArg (fun f => (.inl (cA 4, 10, .inr (.inr (.inr (.inr f)))) : va_E)) f
    · show (.inr (0, [.int (S2.1 46), .int (S2.1 47), .int (S2.1 48)]) : va_E) = _
      rw [s1 46 (by decide), s1 47 (by decide), s1 48 (by decide)]
      rfl
    · show (.inr (7, [.ref (ad2 (5, 5)), .ref (ad2 (5, 6)), .int (S2.1 49), .int (S2.1 50), .int (S2.1 51), .int (S2.1 52)]) : va_E) = _
      rw [s1 49 (by decide), s1 50 (by decide), s1 51 (by decide), s1 52 (by decide), e5 5 (by decide), e5 6 (by decide)]
      rfl
    · show (.inl (cA 0, 9, .inl (S2.2 42)) : va_E) = _
      rw [h2 42 (by omega)]
      rfl
    · show (.inl (cA 0, 9, .inl (S2.2 43)) : va_E) = _
      rw [h2 43 (by omega)]
      rfl
  · replace q : a < 2 := q
    replace r : i < 1 + 7 * nt ∨ (22 ≤ i ∧ i < 22 + 2 * nv) := r
    have z : a = 0 ∨ a = 1 := by omega
    rcases z with rfl | rfl
    · show (.inr (3, [.ref (ad2 (1, i)), .int (S2.1 i)]) : va_E) = _
      rw [e1 i r, h1 i (by omega)]
      rfl
    · show (.inl (cA 0, dcap i, .inl (S2.2 i)) : va_E) = _
      rw [h2 i (by omega)]
      rfl
  · replace q : a = 2 ∨ a = 3 := q
    replace r : i < nt := r
    rcases q with rfl | rfl
    · show (.inr (5, [.int (G2 (20 + i) 0), .int (G2 (20 + i) 1), .ref (ad2 (0, 1 + 7 * i)), .ref (ad2 (0, 2 + 7 * i)), .ref (ad2 (3, i))]) : va_E) = _
      rw [ht i r, e0 (1 + 7 * i) (by omega), e0 (2 + 7 * i) (by omega), e3 i r]
      rfl
    · have f : (fun j => if j < 5 then some (ad2 (0, 3 + 7 * i + j)) else none) = (fun j => if j < 5 then some (ad (0, 3 + 7 * i + j)) else none) := by
        funext j
        by_cases hj : j < 5
        · rw [if_pos hj, if_pos hj, e0 (3 + 7 * i + j) (by omega)]
        · rw [if_neg hj, if_neg hj]
      exact congrArg (fun f => (.inl (cA 5, 5, .inr (.inr (.inr (.inr f)))) : va_E)) f
  · replace q : a = 4 := q
    replace r : i < nv := r
    subst q
    have r4 := rO_ext (ad := ad) (ad2 := ad2) (x := G i 4) (hG.o4 r) hb.2 e4
    have r5 := rO_ext (ad := ad) (ad2 := ad2) (x := G i 5) (hG.o5 r) hb.2 e4
    have gv := hv i r
    have hf : vfs ad2 G2 i = vfs ad G i := by
      unfold vfs
      rw [gv, r4, r5, e0 (22 + 2 * i) (by omega), e0 (23 + 2 * i) (by omega)]
    have wl2 : vl G2 i = vl G i := by unfold vl; rw [gv]
    have wr2 : vr G2 i = vr G i := by unfold vr; rw [gv]
    have wt2 : vt G2 i = vt G i := by unfold vt; rw [gv]
    rcases hG.K r with k | k | k | k
    · rw [dce_V1 k, dce_V1 (by rw [gv]; exact k), hf, wl2, gv, e4 _ (hG.l r (ne6_1 k))]
    · rw [dce_V2 k, dce_V2 (by rw [gv]; exact k), hf, wl2, wr2, gv, e4 _ (hG.l r (ne6_2 k)), e4 _ (hG.r r k)]
    · rw [dce_V4 k, dce_V4 (by rw [gv]; exact k), hf, wl2, gv, e4 _ (hG.l r (ne6_4 k))]
    · rw [dce_V6 k, dce_V6 (by rw [gv]; exact k), hf, wt2, e2 _ (hG.T' r k).2]
/-- behind a constructor's call -/
theorem jnC {α : Type} {D : va_G} {A : Nat → Prop} {L : List α} {ad : α → Nat} {ce : α → va_E} {q : Nat} {e : va_E} {H H1 : Heap} {fin : va_W} (hX : HP D A L ad ce H) (hfr : ∀ c, c ∈ L → ad c ≠ q ∧ ad c < H.size) (hk : ∀ x : Nat, x < H.size → ¬ va_A [(q, e)] H.size x → H1[x]? = H[x]?) (hF : ∀ x, va_A [(q, e)] H.size x → A x) (hP1 : va_P D vwCl fin H1) (hD1 : va_D (va_A [(q, e)] H.size) fin) : va_P D vwCl (wl L ad ce ++ fin) H1 ∧ va_D A (wl L ad ce ++ fin) := by
  have ap : ∀ (k : Nat) (x : Nat × va_E), (wl L ad ce)[k]? = some x → x.1 < H.size ∧ ¬ va_A [(q, e)] H.size x.1 := by
    intro k x hx
    obtain ⟨c, hc, rfl⟩ := List.mem_map.mp (List.mem_of_getElem? hx)
    exact ⟨(hfr c hc).2, va_nA (hfr c hc)⟩
  refine ⟨va_P.app (hX.1.kept (fun k x hx => hk _ (ap k x hx).1 (ap k x hx).2)) hP1, ?_, ?_⟩
  · intro i j x y hx hy hxy
    rw [List.getElem?_append] at hx hy
    split at hx
    · split at hy
      · exact hX.2.1 i j x y hx hy hxy
      · have z := hD1.2 _ _ hy
        rw [← hxy] at z
        exact absurd z (ap _ _ hx).2
    · split at hy
      · have z := hD1.2 _ _ hx
        rw [hxy] at z
        exact absurd z (ap _ _ hy).2
      · have z := hD1.1 _ _ x y hx hy hxy
        omega
  · intro k x hx
    rw [List.getElem?_append] at hx
    split at hx
    · exact hX.2.2 k x hx
    · exact hF _ (hD1.2 _ _ hx)
theorem HP_ext {D : va_G} {A : Nat → Prop} {L N : List Cd} {ad ad2 : Cd → Nat} {ce ce2 : Cd → va_E} {fin : va_W} {H : Heap} (h : va_P D vwCl (wl L ad ce ++ fin) H ∧ va_D A (wl L ad ce ++ fin)) (hL : ∀ c, c ∈ L → ad2 c = ad c ∧ ce2 c = ce c) (hN : fin = wl N ad2 ce2) : HP D A (L ++ N) ad2 ce2 H := by
  have e : wl (L ++ N) ad2 ce2 = wl L ad ce ++ fin := by
    rw [hN]
    unfold wl
    rw [List.map_append]
    congr 1
    exact List.map_congr_left (fun c hc => by rw [(hL c hc).1, (hL c hc).2])
  unfold HP
  rw [e]
  exact h
/-- a new object ahead of its constructor -/
theorem nwX {D : va_G} {cA : Nat → ClassId} {A : Nat → Prop} {ad : Cd → Nat} {L : List Cd} {G : Gt} {S : St} {H : Heap} {q : Nat} {e : va_E} (hP : va_P D vwCl (wl L ad (dce cA ad G S) ++ [(q, e)]) H) (hD : va_D A (wl L ad (dce cA ad G S) ++ [(q, e)])) : DX D cA A ad L G S H ∧ va_P D vwCl [(q, e)] H ∧ (∀ c, c ∈ L → ad c ≠ q ∧ ad c < H.size) ∧ A q := by
  have hq : (wl L ad (dce cA ad G S) ++ [(q, e)])[L.length]? = some (q, e) := by
    rw [List.getElem?_append_right (by simp), show L.length - (wl L ad (dce cA ad G S)).length = 0 by simp]
    rfl
  have hl : ∀ (k : Nat) (x : Nat × va_E), (wl L ad (dce cA ad G S))[k]? = some x → (wl L ad (dce cA ad G S) ++ [(q, e)])[k]? = some x := fun k x hx => by
    rw [List.getElem?_append_left (List.getElem?_eq_some_iff.mp hx).1]
    exact hx
  refine ⟨⟨fun k x hx => hP k x (hl k x hx), fun i j x y hx hy => hD.1 i j x y (hl i x hx) (hl j y hy), fun k x hx => hD.2 k x (hl k x hx)⟩, fun k x hx => ?_, fun c hc => ?_, hD.2 _ _ hq⟩
  · have hk : k < 1 := (List.getElem?_eq_some_iff.mp hx).1
    rw [show k = 0 by omega] at hx
    cases hx
    exact hP _ _ hq
  · obtain ⟨k, h1, h2⟩ := wl_get (ad := ad) (ce := dce cA ad G S) hc
    have h3 := hl k _ h2
    refine ⟨fun z => ?_, (hP k _ h3).lt⟩
    have h4 := hD.1 k _ _ _ h3 hq z
    have h5 := (List.getElem?_eq_some_iff.mp h1).1
    omega
theorem nwA {A : Nat → Prop} {q sz : Nat} {e : va_E} (hq : A q) (hs : ∀ x, sz ≤ x → A x) : ∀ x, va_A [(q, e)] sz x → A x := by
  intro x hx
  rcases hx with ⟨k, e2, z⟩ | z
  · have h1 := List.mem_of_getElem? z
    rw [List.mem_singleton] at h1
    rw [(Prod.mk.inj h1).1]
    exact hq
  · exact hs x z
def adV (ad : Cd → Nat) (nv : Nat) (q0 q1 q2 q3 q4 : Nat) : Cd → Nat := adx ad [((4, nv), q0), ((0, 22 + 2 * nv), q1), ((1, 22 + 2 * nv), q2), ((0, 23 + 2 * nv), q3), ((1, 23 + 2 * nv), q4)]
theorem adV_0 {ad : Cd → Nat} {nv : Nat} {q0 q1 q2 q3 q4 : Nat} : adV ad nv q0 q1 q2 q3 q4 (4, nv) = q0 := adx_eq
theorem adV_1 {ad : Cd → Nat} {nv : Nat} {q0 q1 q2 q3 q4 : Nat} : adV ad nv q0 q1 q2 q3 q4 (0, 22 + 2 * nv) = q1 := (adx_ne (cd_ne (by omega))).trans (adx_eq)
theorem adV_2 {ad : Cd → Nat} {nv : Nat} {q0 q1 q2 q3 q4 : Nat} : adV ad nv q0 q1 q2 q3 q4 (1, 22 + 2 * nv) = q2 := (adx_ne (cd_ne (by omega))).trans ((adx_ne (cd_ne (by omega))).trans (adx_eq))
theorem adV_3 {ad : Cd → Nat} {nv : Nat} {q0 q1 q2 q3 q4 : Nat} : adV ad nv q0 q1 q2 q3 q4 (0, 23 + 2 * nv) = q3 := (adx_ne (cd_ne (by omega))).trans ((adx_ne (cd_ne (by omega))).trans ((adx_ne (cd_ne (by omega))).trans (adx_eq)))
theorem adV_4 {ad : Cd → Nat} {nv : Nat} {q0 q1 q2 q3 q4 : Nat} : adV ad nv q0 q1 q2 q3 q4 (1, 23 + 2 * nv) = q4 := (adx_ne (cd_ne (by omega))).trans ((adx_ne (cd_ne (by omega))).trans ((adx_ne (cd_ne (by omega))).trans ((adx_ne (cd_ne (by omega))).trans (adx_eq))))
theorem adV_o {ad : Cd → Nat} {nv : Nat} {q0 q1 q2 q3 q4 : Nat} {c : Cd} {nt1 nv1 : Nat} (hb : nt1 ≤ 3 ∧ nv1 ≤ 10) (hn : nv = nv1) (hc : inE nt1 nv1 c) : adV ad nv q0 q1 q2 q3 q4 c = ad c := by
  obtain ⟨a, i⟩ := c
  have hc : (a = 5 ∧ i < 7) ∨ (a < 2 ∧ (i < 1 + 7 * nt1 ∨ (22 ≤ i ∧ i < 22 + 2 * nv1))) ∨ ((a = 2 ∨ a = 3) ∧ i < nt1) ∨ (a = 4 ∧ i < nv1) := hc
  exact (adx_ne (cd_ne (by omega))).trans ((adx_ne (cd_ne (by omega))).trans ((adx_ne (cd_ne (by omega))).trans ((adx_ne (cd_ne (by omega))).trans ((adx_ne (cd_ne (by omega))).trans (rfl)))))
def adT (ad : Cd → Nat) (nt : Nat) (q0 q1 q2 q3 q4 q5 q6 q7 q8 q9 q10 q11 q12 q13 q14 q15 : Nat) : Cd → Nat := adx ad [((2, nt), q0), ((0, 1 + 7 * nt), q1), ((1, 1 + 7 * nt), q2), ((0, 2 + 7 * nt), q3), ((1, 2 + 7 * nt), q4), ((3, nt), q5), ((0, 3 + 7 * nt + 0), q6), ((1, 3 + 7 * nt + 0), q7), ((0, 3 + 7 * nt + 1), q8), ((1, 3 + 7 * nt + 1), q9), ((0, 3 + 7 * nt + 2), q10), ((1, 3 + 7 * nt + 2), q11), ((0, 3 + 7 * nt + 3), q12), ((1, 3 + 7 * nt + 3), q13), ((0, 3 + 7 * nt + 4), q14), ((1, 3 + 7 * nt + 4), q15)]
theorem adT_0 {ad : Cd → Nat} {nt : Nat} {q0 q1 q2 q3 q4 q5 q6 q7 q8 q9 q10 q11 q12 q13 q14 q15 : Nat} : adT ad nt q0 q1 q2 q3 q4 q5 q6 q7 q8 q9 q10 q11 q12 q13 q14 q15 (2, nt) = q0 := adx_eq
theorem adT_1 {ad : Cd → Nat} {nt : Nat} {q0 q1 q2 q3 q4 q5 q6 q7 q8 q9 q10 q11 q12 q13 q14 q15 : Nat} : adT ad nt q0 q1 q2 q3 q4 q5 q6 q7 q8 q9 q10 q11 q12 q13 q14 q15 (0, 1 + 7 * nt) = q1 := (adx_ne (cd_ne (by omega))).trans (adx_eq)
theorem adT_2 {ad : Cd → Nat} {nt : Nat} {q0 q1 q2 q3 q4 q5 q6 q7 q8 q9 q10 q11 q12 q13 q14 q15 : Nat} : adT ad nt q0 q1 q2 q3 q4 q5 q6 q7 q8 q9 q10 q11 q12 q13 q14 q15 (1, 1 + 7 * nt) = q2 := (adx_ne (cd_ne (by omega))).trans ((adx_ne (cd_ne (by omega))).trans (adx_eq))
theorem adT_3 {ad : Cd → Nat} {nt : Nat} {q0 q1 q2 q3 q4 q5 q6 q7 q8 q9 q10 q11 q12 q13 q14 q15 : Nat} : adT ad nt q0 q1 q2 q3 q4 q5 q6 q7 q8 q9 q10 q11 q12 q13 q14 q15 (0, 2 + 7 * nt) = q3 := (adx_ne (cd_ne (by omega))).trans ((adx_ne (cd_ne (by omega))).trans ((adx_ne (cd_ne (by omega))).trans (adx_eq)))
theorem adT_4 {ad : Cd → Nat} {nt : Nat} {q0 q1 q2 q3 q4 q5 q6 q7 q8 q9 q10 q11 q12 q13 q14 q15 : Nat} : adT ad nt q0 q1 q2 q3 q4 q5 q6 q7 q8 q9 q10 q11 q12 q13 q14 q15 (1, 2 + 7 * nt) = q4 := (adx_ne (cd_ne (by omega))).trans ((adx_ne (cd_ne (by omega))).trans ((adx_ne (cd_ne (by omega))).trans ((adx_ne (cd_ne (by omega))).trans (adx_eq))))
theorem adT_5 {ad : Cd → Nat} {nt : Nat} {q0 q1 q2 q3 q4 q5 q6 q7 q8 q9 q10 q11 q12 q13 q14 q15 : Nat} : adT ad nt q0 q1 q2 q3 q4 q5 q6 q7 q8 q9 q10 q11 q12 q13 q14 q15 (3, nt) = q5 := (adx_ne (cd_ne (by omega))).trans ((adx_ne (cd_ne (by omega))).trans ((adx_ne (cd_ne (by omega))).trans ((adx_ne (cd_ne (by omega))).trans ((adx_ne (cd_ne (by omega))).trans (adx_eq)))))
theorem adT_6 {ad : Cd → Nat} {nt : Nat} {q0 q1 q2 q3 q4 q5 q6 q7 q8 q9 q10 q11 q12 q13 q14 q15 : Nat} : adT ad nt q0 q1 q2 q3 q4 q5 q6 q7 q8 q9 q10 q11 q12 q13 q14 q15 (0, 3 + 7 * nt + 0) = q6 := (adx_ne (cd_ne (by omega))).trans ((adx_ne (cd_ne (by omega))).trans ((adx_ne (cd_ne (by omega))).trans ((adx_ne (cd_ne (by omega))).trans ((adx_ne (cd_ne (by omega))).trans ((adx_ne (cd_ne (by omega))).trans (adx_eq))))))
theorem adT_7 {ad : Cd → Nat} {nt : Nat} {q0 q1 q2 q3 q4 q5 q6 q7 q8 q9 q10 q11 q12 q13 q14 q15 : Nat} : adT ad nt q0 q1 q2 q3 q4 q5 q6 q7 q8 q9 q10 q11 q12 q13 q14 q15 (1, 3 + 7 * nt + 0) = q7 := (adx_ne (cd_ne (by omega))).trans ((adx_ne (cd_ne (by omega))).trans ((adx_ne (cd_ne (by omega))).trans ((adx_ne (cd_ne (by omega))).trans ((adx_ne (cd_ne (by omega))).trans ((adx_ne (cd_ne (by omega))).trans ((adx_ne (cd_ne (by omega))).trans (adx_eq)))))))
theorem adT_8 {ad : Cd → Nat} {nt : Nat} {q0 q1 q2 q3 q4 q5 q6 q7 q8 q9 q10 q11 q12 q13 q14 q15 : Nat} : adT ad nt q0 q1 q2 q3 q4 q5 q6 q7 q8 q9 q10 q11 q12 q13 q14 q15 (0, 3 + 7 * nt + 1) = q8 := (adx_ne (cd_ne (by omega))).trans ((adx_ne (cd_ne (by omega))).trans ((adx_ne (cd_ne (by omega))).trans ((adx_ne (cd_ne (by omega))).trans ((adx_ne (cd_ne (by omega))).trans ((adx_ne (cd_ne (by omega))).trans ((adx_ne (cd_ne (by omega))).trans ((adx_ne (cd_ne (by omega))).trans (adx_eq))))))))
theorem adT_9 {ad : Cd → Nat} {nt : Nat} {q0 q1 q2 q3 q4 q5 q6 q7 q8 q9 q10 q11 q12 q13 q14 q15 : Nat} : adT ad nt q0 q1 q2 q3 q4 q5 q6 q7 q8 q9 q10 q11 q12 q13 q14 q15 (1, 3 + 7 * nt + 1) = q9 := (adx_ne (cd_ne (by omega))).trans ((adx_ne (cd_ne (by omega))).trans ((adx_ne (cd_ne (by omega))).trans ((adx_ne (cd_ne (by omega))).trans ((adx_ne (cd_ne (by omega))).trans ((adx_ne (cd_ne (by omega))).trans ((adx_ne (cd_ne (by omega))).trans ((adx_ne (cd_ne (by omega))).trans ((adx_ne (cd_ne (by omega))).trans (adx_eq)))))))))
theorem adT_10 {ad : Cd → Nat} {nt : Nat} {q0 q1 q2 q3 q4 q5 q6 q7 q8 q9 q10 q11 q12 q13 q14 q15 : Nat} : adT ad nt q0 q1 q2 q3 q4 q5 q6 q7 q8 q9 q10 q11 q12 q13 q14 q15 (0, 3 + 7 * nt + 2) = q10 := (adx_ne (cd_ne (by omega))).trans ((adx_ne (cd_ne (by omega))).trans ((adx_ne (cd_ne (by omega))).trans ((adx_ne (cd_ne (by omega))).trans ((adx_ne (cd_ne (by omega))).trans ((adx_ne (cd_ne (by omega))).trans ((adx_ne (cd_ne (by omega))).trans ((adx_ne (cd_ne (by omega))).trans ((adx_ne (cd_ne (by omega))).trans ((adx_ne (cd_ne (by omega))).trans (adx_eq))))))))))
theorem adT_11 {ad : Cd → Nat} {nt : Nat} {q0 q1 q2 q3 q4 q5 q6 q7 q8 q9 q10 q11 q12 q13 q14 q15 : Nat} : adT ad nt q0 q1 q2 q3 q4 q5 q6 q7 q8 q9 q10 q11 q12 q13 q14 q15 (1, 3 + 7 * nt + 2) = q11 := (adx_ne (cd_ne (by omega))).trans ((adx_ne (cd_ne (by omega))).trans ((adx_ne (cd_ne (by omega))).trans ((adx_ne (cd_ne (by omega))).trans ((adx_ne (cd_ne (by omega))).trans ((adx_ne (cd_ne (by omega))).trans ((adx_ne (cd_ne (by omega))).trans ((adx_ne (cd_ne (by omega))).trans ((adx_ne (cd_ne (by omega))).trans ((adx_ne (cd_ne (by omega))).trans ((adx_ne (cd_ne (by omega))).trans (adx_eq)))))))))))
theorem adT_12 {ad : Cd → Nat} {nt : Nat} {q0 q1 q2 q3 q4 q5 q6 q7 q8 q9 q10 q11 q12 q13 q14 q15 : Nat} : adT ad nt q0 q1 q2 q3 q4 q5 q6 q7 q8 q9 q10 q11 q12 q13 q14 q15 (0, 3 + 7 * nt + 3) = q12 := (adx_ne (cd_ne (by omega))).trans ((adx_ne (cd_ne (by omega))).trans ((adx_ne (cd_ne (by omega))).trans ((adx_ne (cd_ne (by omega))).trans ((adx_ne (cd_ne (by omega))).trans ((adx_ne (cd_ne (by omega))).trans ((adx_ne (cd_ne (by omega))).trans ((adx_ne (cd_ne (by omega))).trans ((adx_ne (cd_ne (by omega))).trans ((adx_ne (cd_ne (by omega))).trans ((adx_ne (cd_ne (by omega))).trans ((adx_ne (cd_ne (by omega))).trans (adx_eq))))))))))))
theorem adT_13 {ad : Cd → Nat} {nt : Nat} {q0 q1 q2 q3 q4 q5 q6 q7 q8 q9 q10 q11 q12 q13 q14 q15 : Nat} : adT ad nt q0 q1 q2 q3 q4 q5 q6 q7 q8 q9 q10 q11 q12 q13 q14 q15 (1, 3 + 7 * nt + 3) = q13 := (adx_ne (cd_ne (by omega))).trans ((adx_ne (cd_ne (by omega))).trans ((adx_ne (cd_ne (by omega))).trans ((adx_ne (cd_ne (by omega))).trans ((adx_ne (cd_ne (by omega))).trans ((adx_ne (cd_ne (by omega))).trans ((adx_ne (cd_ne (by omega))).trans ((adx_ne (cd_ne (by omega))).trans ((adx_ne (cd_ne (by omega))).trans ((adx_ne (cd_ne (by omega))).trans ((adx_ne (cd_ne (by omega))).trans ((adx_ne (cd_ne (by omega))).trans ((adx_ne (cd_ne (by omega))).trans (adx_eq)))))))))))))
theorem adT_14 {ad : Cd → Nat} {nt : Nat} {q0 q1 q2 q3 q4 q5 q6 q7 q8 q9 q10 q11 q12 q13 q14 q15 : Nat} : adT ad nt q0 q1 q2 q3 q4 q5 q6 q7 q8 q9 q10 q11 q12 q13 q14 q15 (0, 3 + 7 * nt + 4) = q14 := (adx_ne (cd_ne (by omega))).trans ((adx_ne (cd_ne (by omega))).trans ((adx_ne (cd_ne (by omega))).trans ((adx_ne (cd_ne (by omega))).trans ((adx_ne (cd_ne (by omega))).trans ((adx_ne (cd_ne (by omega))).trans ((adx_ne (cd_ne (by omega))).trans ((adx_ne (cd_ne (by omega))).trans ((adx_ne (cd_ne (by omega))).trans ((adx_ne (cd_ne (by omega))).trans ((adx_ne (cd_ne (by omega))).trans ((adx_ne (cd_ne (by omega))).trans ((adx_ne (cd_ne (by omega))).trans ((adx_ne (cd_ne (by omega))).trans (adx_eq))))))))))))))
theorem adT_15 {ad : Cd → Nat} {nt : Nat} {q0 q1 q2 q3 q4 q5 q6 q7 q8 q9 q10 q11 q12 q13 q14 q15 : Nat} : adT ad nt q0 q1 q2 q3 q4 q5 q6 q7 q8 q9 q10 q11 q12 q13 q14 q15 (1, 3 + 7 * nt + 4) = q15 := (adx_ne (cd_ne (by omega))).trans ((adx_ne (cd_ne (by omega))).trans ((adx_ne (cd_ne (by omega))).trans ((adx_ne (cd_ne (by omega))).trans ((adx_ne (cd_ne (by omega))).trans ((adx_ne (cd_ne (by omega))).trans ((adx_ne (cd_ne (by omega))).trans ((adx_ne (cd_ne (by omega))).trans ((adx_ne (cd_ne (by omega))).trans ((adx_ne (cd_ne (by omega))).trans ((adx_ne (cd_ne (by omega))).trans ((adx_ne (cd_ne (by omega))).trans ((adx_ne (cd_ne (by omega))).trans ((adx_ne (cd_ne (by omega))).trans ((adx_ne (cd_ne (by omega))).trans (adx_eq)))))))))))))))
theorem adT_o {ad : Cd → Nat} {nt : Nat} {q0 q1 q2 q3 q4 q5 q6 q7 q8 q9 q10 q11 q12 q13 q14 q15 : Nat} {c : Cd} {nt1 nv1 : Nat} (hb : nt1 ≤ 3 ∧ nv1 ≤ 10) (hn : nt = nt1 ∧ nt < 3) (hc : inE nt1 nv1 c) : adT ad nt q0 q1 q2 q3 q4 q5 q6 q7 q8 q9 q10 q11 q12 q13 q14 q15 c = ad c := by
  obtain ⟨a, i⟩ := c
  have hc : (a = 5 ∧ i < 7) ∨ (a < 2 ∧ (i < 1 + 7 * nt1 ∨ (22 ≤ i ∧ i < 22 + 2 * nv1))) ∨ ((a = 2 ∨ a = 3) ∧ i < nt1) ∨ (a = 4 ∧ i < nv1) := hc
  exact (adx_ne (cd_ne (by omega))).trans ((adx_ne (cd_ne (by omega))).trans ((adx_ne (cd_ne (by omega))).trans ((adx_ne (cd_ne (by omega))).trans ((adx_ne (cd_ne (by omega))).trans ((adx_ne (cd_ne (by omega))).trans ((adx_ne (cd_ne (by omega))).trans ((adx_ne (cd_ne (by omega))).trans ((adx_ne (cd_ne (by omega))).trans ((adx_ne (cd_ne (by omega))).trans ((adx_ne (cd_ne (by omega))).trans ((adx_ne (cd_ne (by omega))).trans ((adx_ne (cd_ne (by omega))).trans ((adx_ne (cd_ne (by omega))).trans ((adx_ne (cd_ne (by omega))).trans ((adx_ne (cd_ne (by omega))).trans (rfl))))))))))))))))
theorem nVG_at {G : Gt} {nv : Nat} {g : Nat → Int32} : nVG G nv g nv = g := if_pos rfl
theorem nVG_ne {G : Gt} {nv v : Nat} {g : Nat → Int32} (h : v ≠ nv) : nVG G nv g v = G v := if_neg h
theorem nTG_at {G : Gt} {nt : Nat} {g : Nat → Int32} : nTG G nt g (20 + nt) = g := if_pos rfl
theorem nTG_ne {G : Gt} {nt v : Nat} {g : Nat → Int32} (h : v ≠ 20 + nt) : nTG G nt g v = G v := if_neg h
theorem WV_g {G G2 : Gt} {nt nt2 v : Nat} (h : WV G nt v) (hg : G2 v = G v) (hn : nt ≤ nt2) : WV G2 nt2 v := by
  unfold WV at h ⊢
  rw [hg]
  rcases h with q | q | q | ⟨a, b, c, t, ht, q⟩
  · exact Or.inl q
  · exact Or.inr (Or.inl q)
  · exact Or.inr (Or.inr (Or.inl q))
  · exact Or.inr (Or.inr (Or.inr ⟨a, b, c, t, Nat.lt_of_lt_of_le ht hn, q⟩))
theorem dcap_s {v : Nat} : dcap (22 + 2 * v) = 12 := by
  unfold dcap
  rw [if_neg (by omega), if_neg (by omega), if_pos (by omega)]
theorem dcap_w {v : Nat} : dcap (23 + 2 * v) = 32 := by
  unfold dcap
  rw [if_neg (by omega), if_neg (by omega), if_neg (by omega)]
theorem dcap_t {i : Nat} (h : 0 < i ∧ i < 22) : dcap i = 12 := by
  unfold dcap
  rw [if_neg (by omega), if_pos h.2]
theorem extV {D : va_G} {cA : Nat → ClassId} {A : Nat → Prop} {ad : Cd → Nat} {L : List Cd} {G : Gt} {S : St} {nt nv : Nat} {H : Heap} {q0 q1 q2 q3 q4 : Nat} {g : Nat → Int32} {f : va_E} (hG : WF L G nt nv) (hE : EX L nt nv) (hSX : SX S nt nv) (hn : nv < 10)
    (h : va_P D vwCl (wl L ad (dce cA ad G S) ++ [(q0, f), (q1, .inr (3, [.ref q2, .int 0])), (q2, .inl (cA 0, 12, .inl (fun _ => 0))), (q3, .inr (3, [.ref q4, .int 0])), (q4, .inl (cA 0, 32, .inl (fun _ => 0)))]) H ∧ va_D A (wl L ad (dce cA ad G S) ++ [(q0, f), (q1, .inr (3, [.ref q2, .int 0])), (q2, .inl (cA 0, 12, .inl (fun _ => 0))), (q3, .inr (3, [.ref q4, .int 0])), (q4, .inl (cA 0, 32, .inl (fun _ => 0)))])) (hf : f = dce cA (adV ad nv q0 q1 q2 q3 q4) (nVG G nv g) (nVS S nv) (4, nv)) (hW : WV (nVG G nv g) nt nv) :
    ∃ ad2 L2, DX D cA A ad2 L2 (nVG G nv g) (nVS S nv) H ∧ WF L2 (nVG G nv g) nt (nv + 1) ∧ EX L2 nt (nv + 1) ∧ (∀ c, inE nt nv c → ad2 c = ad c) ∧ ad2 (4, nv) = q0 := by
  have hb := hG.1
  have ho : ∀ c, inE nt nv c → adV ad nv q0 q1 q2 q3 q4 c = ad c := fun c hc => adV_o hb rfl hc
  have hce : ∀ c, inE nt nv c → dce cA (adV ad nv q0 q1 q2 q3 q4) (nVG G nv g) (nVS S nv) c = dce cA ad G S c := dce_ext hG hSX ho (fun v hv => nVG_ne (by omega)) (fun t ht => nVG_ne (by omega)) (fun i hi => if_neg (by omega)) (fun i hi => if_neg (by omega))
  have hEN : EX (L ++ [(4, nv), (0, 22 + 2 * nv), (1, 22 + 2 * nv), (0, 23 + 2 * nv), (1, 23 + 2 * nv)]) nt (nv + 1) := by
    intro c hc
    rcases List.mem_append.mp hc with hc | hc
    · have z := hE c hc
      unfold inE at z ⊢
      omega
    · simp only [List.mem_cons, List.not_mem_nil, or_false] at hc
      rcases hc with rfl | rfl | rfl | rfl | rfl
      · exact Or.inr (Or.inr (Or.inr ⟨rfl, Nat.lt_succ_self _⟩))
      · exact Or.inr (Or.inl ⟨show (0 : Nat) < 2 from by decide, Or.inr (show 22 ≤ 22 + 2 * nv ∧ 22 + 2 * nv < 22 + 2 * (nv + 1) by omega)⟩)
      · exact Or.inr (Or.inl ⟨show (1 : Nat) < 2 from by decide, Or.inr (show 22 ≤ 22 + 2 * nv ∧ 22 + 2 * nv < 22 + 2 * (nv + 1) by omega)⟩)
      · exact Or.inr (Or.inl ⟨show (0 : Nat) < 2 from by decide, Or.inr (show 22 ≤ 23 + 2 * nv ∧ 23 + 2 * nv < 22 + 2 * (nv + 1) by omega)⟩)
      · exact Or.inr (Or.inl ⟨show (1 : Nat) < 2 from by decide, Or.inr (show 22 ≤ 23 + 2 * nv ∧ 23 + 2 * nv < 22 + 2 * (nv + 1) by omega)⟩)
  refine ⟨adV ad nv q0 q1 q2 q3 q4, L ++ [(4, nv), (0, 22 + 2 * nv), (1, 22 + 2 * nv), (0, 23 + 2 * nv), (1, 23 + 2 * nv)], HP_ext h (fun c hc => ⟨ho c (hE c hc), hce c (hE c hc)⟩) ?_, ?_, hEN, ho, adV_0⟩
  · have s0 : ∀ i, 22 + 2 * nv ≤ i ∧ i < 24 + 2 * nv → (nVS S nv).1 i = 0 := fun i hi => if_pos hi
    have s2 : ∀ i, 22 + 2 * nv ≤ i ∧ i < 24 + 2 * nv → (nVS S nv).2 i = fun _ => 0 := fun i hi => if_pos hi
    have c0 : ∀ i q, 22 + 2 * nv ≤ i ∧ i < 24 + 2 * nv → adV ad nv q0 q1 q2 q3 q4 (1, i) = q → dce cA (adV ad nv q0 q1 q2 q3 q4) (nVG G nv g) (nVS S nv) (0, i) = .inr (3, [.ref q, .int 0]) := fun i q hi e => by
      show (.inr (3, [.ref (adV ad nv q0 q1 q2 q3 q4 (1, i)), .int ((nVS S nv).1 i)]) : va_E) = _
      rw [s0 i hi, e]
    have c1 : ∀ i n, 22 + 2 * nv ≤ i ∧ i < 24 + 2 * nv → dcap i = n → dce cA (adV ad nv q0 q1 q2 q3 q4) (nVG G nv g) (nVS S nv) (1, i) = .inl (cA 0, n, .inl (fun _ => 0)) := fun i n hi e => by
      show (.inl (cA 0, dcap i, .inl ((nVS S nv).2 i)) : va_E) = _
      rw [s2 i hi, e]
    simp only [wl, List.map_cons, List.map_nil]
    rw [adV_0, adV_1, adV_2, adV_3, adV_4, ← hf, c0 _ _ (by omega) adV_2, c1 _ _ (by omega) dcap_s, c0 _ _ (by omega) adV_4, c1 _ _ (by omega) dcap_w]
  · have hm : ∀ c, c ∈ L → c ∈ L ++ [(4, nv), (0, 22 + 2 * nv), (1, 22 + 2 * nv), (0, 23 + 2 * nv), (1, 23 + 2 * nv)] := fun c hc => List.mem_append.mpr (Or.inl hc)
    have hr : ∀ c, c ∈ [(4, nv), (0, 22 + 2 * nv), (1, 22 + 2 * nv), (0, 23 + 2 * nv), (1, 23 + 2 * nv)] → c ∈ L ++ [(4, nv), (0, 22 + 2 * nv), (1, 22 + 2 * nv), (0, 23 + 2 * nv), (1, 23 + 2 * nv)] := fun c hc => List.mem_append.mpr (Or.inr hc)
    refine ⟨⟨hb.1, by omega⟩, fun j hj => hm _ (hG.2.1 j hj), ⟨hm _ hG.2.2.1.1, hm _ hG.2.2.1.2⟩, fun t ht => ?_, fun v hv => ?_, fun i hi => ?_, fun v hv => ?_⟩
    · obtain ⟨z1, z2, z3⟩ := hG.2.2.2.1 t ht
      exact ⟨hm _ z1, hm _ z2, fun j hj => ⟨hm _ (z3 j hj).1, hm _ (z3 j hj).2⟩⟩
    · by_cases hvn : v < nv
      · obtain ⟨z1, z2⟩ := hG.2.2.2.2.1 v hvn
        exact ⟨hm _ z1, fun j hj => ⟨hm _ (z2 j hj).1, hm _ (z2 j hj).2⟩⟩
      · have hv2 : v = nv := by omega
        subst hv2
        refine ⟨hr _ (by simp), fun j hj => ?_⟩
        have z : j = 0 ∨ j = 1 := by omega
        rcases z with rfl | rfl
        · exact ⟨hr _ (by simp), hr _ (by simp)⟩
        · rw [show 22 + 2 * v + 1 = 23 + 2 * v by omega]
          exact ⟨hr _ (by simp), hr _ (by simp)⟩
    · have z : inE nt (nv + 1) (0, i) ∨ inE nt (nv + 1) (1, i) := hi.imp (hEN _) (hEN _)
      simp only [inE] at z
      omega
    · by_cases hvn : v < nv
      · exact WV_g (hG.2.2.2.2.2.2 v hvn) (nVG_ne (by omega)) (Nat.le_refl _)
      · have hv2 : v = nv := by omega
        subst hv2
        exact hW
theorem extT {D : va_G} {cA : Nat → ClassId} {A : Nat → Prop} {ad : Cd → Nat} {L : List Cd} {G : Gt} {S : St} {nt nv : Nat} {H : Heap} {q0 q1 q2 q3 q4 q5 q6 q7 q8 q9 q10 q11 q12 q13 q14 q15 : Nat} {x1 x2 : Int32} (hG : WF L G nt nv) (hE : EX L nt nv) (hSX : SX S nt nv) (hn : nt < 3)
    (h : va_P D vwCl (wl L ad (dce cA ad G S) ++ [(q0, .inr (5, [.int x1, .int x2, .ref q1, .ref q3, .ref q5])), (q1, .inr (3, [.ref q2, .int 0])), (q2, .inl (cA 0, 12, .inl (fun _ => 0))), (q3, .inr (3, [.ref q4, .int 0])), (q4, .inl (cA 0, 12, .inl (fun _ => 0))), (q5, .inl (cA 5, 5, .inr (.inr (.inr (.inr (va_up (va_up (va_up (va_up (va_up (fun _ => none) 0 (some q6)) 1 (some q8)) 2 (some q10)) 3 (some q12)) 4 (some q14))))))), (q6, .inr (3, [.ref q7, .int 0])), (q7, .inl (cA 0, 12, .inl (fun _ => 0))), (q8, .inr (3, [.ref q9, .int 0])), (q9, .inl (cA 0, 12, .inl (fun _ => 0))), (q10, .inr (3, [.ref q11, .int 0])), (q11, .inl (cA 0, 12, .inl (fun _ => 0))), (q12, .inr (3, [.ref q13, .int 0])), (q13, .inl (cA 0, 12, .inl (fun _ => 0))), (q14, .inr (3, [.ref q15, .int 0])), (q15, .inl (cA 0, 12, .inl (fun _ => 0)))]) H ∧ va_D A (wl L ad (dce cA ad G S) ++ [(q0, .inr (5, [.int x1, .int x2, .ref q1, .ref q3, .ref q5])), (q1, .inr (3, [.ref q2, .int 0])), (q2, .inl (cA 0, 12, .inl (fun _ => 0))), (q3, .inr (3, [.ref q4, .int 0])), (q4, .inl (cA 0, 12, .inl (fun _ => 0))), (q5, .inl (cA 5, 5, .inr (.inr (.inr (.inr (va_up (va_up (va_up (va_up (va_up (fun _ => none) 0 (some q6)) 1 (some q8)) 2 (some q10)) 3 (some q12)) 4 (some q14))))))), (q6, .inr (3, [.ref q7, .int 0])), (q7, .inl (cA 0, 12, .inl (fun _ => 0))), (q8, .inr (3, [.ref q9, .int 0])), (q9, .inl (cA 0, 12, .inl (fun _ => 0))), (q10, .inr (3, [.ref q11, .int 0])), (q11, .inl (cA 0, 12, .inl (fun _ => 0))), (q12, .inr (3, [.ref q13, .int 0])), (q13, .inl (cA 0, 12, .inl (fun _ => 0))), (q14, .inr (3, [.ref q15, .int 0])), (q15, .inl (cA 0, 12, .inl (fun _ => 0)))])) :
    ∃ ad2 L2, DX D cA A ad2 L2 (nTG G nt (gL [x1, x2])) (nTS S nt) H ∧ WF L2 (nTG G nt (gL [x1, x2])) (nt + 1) nv ∧ EX L2 (nt + 1) nv ∧ (∀ c, inE nt nv c → ad2 c = ad c) ∧ ad2 (2, nt) = q0 := by
  have hb := hG.1
  have ho : ∀ c, inE nt nv c → adT ad nt q0 q1 q2 q3 q4 q5 q6 q7 q8 q9 q10 q11 q12 q13 q14 q15 c = ad c := fun c hc => adT_o hb ⟨rfl, hn⟩ hc
  have hce : ∀ c, inE nt nv c → dce cA (adT ad nt q0 q1 q2 q3 q4 q5 q6 q7 q8 q9 q10 q11 q12 q13 q14 q15) (nTG G nt (gL [x1, x2])) (nTS S nt) c = dce cA ad G S c := dce_ext hG hSX ho (fun v hv => nTG_ne (by omega)) (fun t ht => nTG_ne (by omega)) (fun i hi => if_neg (by omega)) (fun i hi => if_neg (by omega))
  have hEN : EX (L ++ [(2, nt), (0, 1 + 7 * nt), (1, 1 + 7 * nt), (0, 2 + 7 * nt), (1, 2 + 7 * nt), (3, nt), (0, 3 + 7 * nt + 0), (1, 3 + 7 * nt + 0), (0, 3 + 7 * nt + 1), (1, 3 + 7 * nt + 1), (0, 3 + 7 * nt + 2), (1, 3 + 7 * nt + 2), (0, 3 + 7 * nt + 3), (1, 3 + 7 * nt + 3), (0, 3 + 7 * nt + 4), (1, 3 + 7 * nt + 4)]) (nt + 1) nv := by
    intro c hc
    rcases List.mem_append.mp hc with hc | hc
    · have z := hE c hc
      unfold inE at z ⊢
      omega
    · simp only [List.mem_cons, List.not_mem_nil, or_false] at hc
      rcases hc with rfl | rfl | rfl | rfl | rfl | rfl | rfl | rfl | rfl | rfl | rfl | rfl | rfl | rfl | rfl | rfl
      · exact Or.inr (Or.inr (Or.inl ⟨Or.inl rfl, Nat.lt_succ_self _⟩))
      · exact Or.inr (Or.inl ⟨show (0 : Nat) < 2 from by decide, Or.inl (show 1 + 7 * nt < 1 + 7 * (nt + 1) by omega)⟩)
      · exact Or.inr (Or.inl ⟨show (1 : Nat) < 2 from by decide, Or.inl (show 1 + 7 * nt < 1 + 7 * (nt + 1) by omega)⟩)
      · exact Or.inr (Or.inl ⟨show (0 : Nat) < 2 from by decide, Or.inl (show 2 + 7 * nt < 1 + 7 * (nt + 1) by omega)⟩)
      · exact Or.inr (Or.inl ⟨show (1 : Nat) < 2 from by decide, Or.inl (show 2 + 7 * nt < 1 + 7 * (nt + 1) by omega)⟩)
      · exact Or.inr (Or.inr (Or.inl ⟨Or.inr rfl, Nat.lt_succ_self _⟩))
      · exact Or.inr (Or.inl ⟨show (0 : Nat) < 2 from by decide, Or.inl (show 3 + 7 * nt + 0 < 1 + 7 * (nt + 1) by omega)⟩)
      · exact Or.inr (Or.inl ⟨show (1 : Nat) < 2 from by decide, Or.inl (show 3 + 7 * nt + 0 < 1 + 7 * (nt + 1) by omega)⟩)
      · exact Or.inr (Or.inl ⟨show (0 : Nat) < 2 from by decide, Or.inl (show 3 + 7 * nt + 1 < 1 + 7 * (nt + 1) by omega)⟩)
      · exact Or.inr (Or.inl ⟨show (1 : Nat) < 2 from by decide, Or.inl (show 3 + 7 * nt + 1 < 1 + 7 * (nt + 1) by omega)⟩)
      · exact Or.inr (Or.inl ⟨show (0 : Nat) < 2 from by decide, Or.inl (show 3 + 7 * nt + 2 < 1 + 7 * (nt + 1) by omega)⟩)
      · exact Or.inr (Or.inl ⟨show (1 : Nat) < 2 from by decide, Or.inl (show 3 + 7 * nt + 2 < 1 + 7 * (nt + 1) by omega)⟩)
      · exact Or.inr (Or.inl ⟨show (0 : Nat) < 2 from by decide, Or.inl (show 3 + 7 * nt + 3 < 1 + 7 * (nt + 1) by omega)⟩)
      · exact Or.inr (Or.inl ⟨show (1 : Nat) < 2 from by decide, Or.inl (show 3 + 7 * nt + 3 < 1 + 7 * (nt + 1) by omega)⟩)
      · exact Or.inr (Or.inl ⟨show (0 : Nat) < 2 from by decide, Or.inl (show 3 + 7 * nt + 4 < 1 + 7 * (nt + 1) by omega)⟩)
      · exact Or.inr (Or.inl ⟨show (1 : Nat) < 2 from by decide, Or.inl (show 3 + 7 * nt + 4 < 1 + 7 * (nt + 1) by omega)⟩)
  refine ⟨adT ad nt q0 q1 q2 q3 q4 q5 q6 q7 q8 q9 q10 q11 q12 q13 q14 q15, L ++ [(2, nt), (0, 1 + 7 * nt), (1, 1 + 7 * nt), (0, 2 + 7 * nt), (1, 2 + 7 * nt), (3, nt), (0, 3 + 7 * nt + 0), (1, 3 + 7 * nt + 0), (0, 3 + 7 * nt + 1), (1, 3 + 7 * nt + 1), (0, 3 + 7 * nt + 2), (1, 3 + 7 * nt + 2), (0, 3 + 7 * nt + 3), (1, 3 + 7 * nt + 3), (0, 3 + 7 * nt + 4), (1, 3 + 7 * nt + 4)], HP_ext h (fun c hc => ⟨ho c (hE c hc), hce c (hE c hc)⟩) ?_, ?_, hEN, ho, adT_0⟩
  · have s0 : ∀ i, 1 + 7 * nt ≤ i ∧ i < 8 + 7 * nt → (nTS S nt).1 i = 0 := fun i hi => if_pos hi
    have s2 : ∀ i, 1 + 7 * nt ≤ i ∧ i < 8 + 7 * nt → (nTS S nt).2 i = fun _ => 0 := fun i hi => if_pos hi
    have c0 : ∀ i q, 1 + 7 * nt ≤ i ∧ i < 8 + 7 * nt → adT ad nt q0 q1 q2 q3 q4 q5 q6 q7 q8 q9 q10 q11 q12 q13 q14 q15 (1, i) = q → dce cA (adT ad nt q0 q1 q2 q3 q4 q5 q6 q7 q8 q9 q10 q11 q12 q13 q14 q15) (nTG G nt (gL [x1, x2])) (nTS S nt) (0, i) = .inr (3, [.ref q, .int 0]) := fun i q hi e => by
      show (.inr (3, [.ref (adT ad nt q0 q1 q2 q3 q4 q5 q6 q7 q8 q9 q10 q11 q12 q13 q14 q15 (1, i)), .int ((nTS S nt).1 i)]) : va_E) = _
      rw [s0 i hi, e]
    have c1 : ∀ i, 1 + 7 * nt ≤ i ∧ i < 8 + 7 * nt → dce cA (adT ad nt q0 q1 q2 q3 q4 q5 q6 q7 q8 q9 q10 q11 q12 q13 q14 q15) (nTG G nt (gL [x1, x2])) (nTS S nt) (1, i) = .inl (cA 0, 12, .inl (fun _ => 0)) := fun i hi => by
      show (.inl (cA 0, dcap i, .inl ((nTS S nt).2 i)) : va_E) = _
      rw [s2 i hi, dcap_t (by omega)]
    have c2 : dce cA (adT ad nt q0 q1 q2 q3 q4 q5 q6 q7 q8 q9 q10 q11 q12 q13 q14 q15) (nTG G nt (gL [x1, x2])) (nTS S nt) (2, nt) = .inr (5, [.int x1, .int x2, .ref q1, .ref q3, .ref q5]) := by
      show (.inr (5, [.int ((nTG G nt (gL [x1, x2])) (20 + nt) 0), .int ((nTG G nt (gL [x1, x2])) (20 + nt) 1), .ref (adT ad nt q0 q1 q2 q3 q4 q5 q6 q7 q8 q9 q10 q11 q12 q13 q14 q15 (0, 1 + 7 * nt)), .ref (adT ad nt q0 q1 q2 q3 q4 q5 q6 q7 q8 q9 q10 q11 q12 q13 q14 q15 (0, 2 + 7 * nt)), .ref (adT ad nt q0 q1 q2 q3 q4 q5 q6 q7 q8 q9 q10 q11 q12 q13 q14 q15 (3, nt))]) : va_E) = _
      rw [nTG_at, adT_1, adT_3, adT_5]
      rfl
    have c3 : dce cA (adT ad nt q0 q1 q2 q3 q4 q5 q6 q7 q8 q9 q10 q11 q12 q13 q14 q15) (nTG G nt (gL [x1, x2])) (nTS S nt) (3, nt) = .inl (cA 5, 5, .inr (.inr (.inr (.inr (va_up (va_up (va_up (va_up (va_up (fun _ => none) 0 (some q6)) 1 (some q8)) 2 (some q10)) 3 (some q12)) 4 (some q14)))))) := by
      show (.inl (cA 5, 5, .inr (.inr (.inr (.inr (fun j => if j < 5 then some (adT ad nt q0 q1 q2 q3 q4 q5 q6 q7 q8 q9 q10 q11 q12 q13 q14 q15 (0, 3 + 7 * nt + j)) else none))))) : va_E) = _
      refine congrArg (fun f => (.inl (cA 5, 5, .inr (.inr (.inr (.inr f)))) : va_E)) (funext fun j => ?_)
      by_cases hj : j < 5
      · have z : j = 0 ∨ j = 1 ∨ j = 2 ∨ j = 3 ∨ j = 4 := by omega
        rw [if_pos hj]
        rcases z with rfl | rfl | rfl | rfl | rfl
        · rw [adT_6]; rfl
        · rw [adT_8]; rfl
        · rw [adT_10]; rfl
        · rw [adT_12]; rfl
        · rw [adT_14]; rfl
      · rw [if_neg hj, va_up_ne _ _ (by omega), va_up_ne _ _ (by omega), va_up_ne _ _ (by omega), va_up_ne _ _ (by omega), va_up_ne _ _ (by omega)]
    simp only [wl, List.map_cons, List.map_nil]
    rw [c2, c3, adT_0, adT_5, adT_1, c0 _ _ (by omega) adT_2, adT_2, c1 _ (by omega), adT_3, c0 _ _ (by omega) adT_4, adT_4, c1 _ (by omega), adT_6, c0 _ _ (by omega) adT_7, adT_7, c1 _ (by omega), adT_8, c0 _ _ (by omega) adT_9, adT_9, c1 _ (by omega), adT_10, c0 _ _ (by omega) adT_11, adT_11, c1 _ (by omega), adT_12, c0 _ _ (by omega) adT_13, adT_13, c1 _ (by omega), adT_14, c0 _ _ (by omega) adT_15, adT_15, c1 _ (by omega)]
  · have hm : ∀ c, c ∈ L → c ∈ L ++ [(2, nt), (0, 1 + 7 * nt), (1, 1 + 7 * nt), (0, 2 + 7 * nt), (1, 2 + 7 * nt), (3, nt), (0, 3 + 7 * nt + 0), (1, 3 + 7 * nt + 0), (0, 3 + 7 * nt + 1), (1, 3 + 7 * nt + 1), (0, 3 + 7 * nt + 2), (1, 3 + 7 * nt + 2), (0, 3 + 7 * nt + 3), (1, 3 + 7 * nt + 3), (0, 3 + 7 * nt + 4), (1, 3 + 7 * nt + 4)] := fun c hc => List.mem_append.mpr (Or.inl hc)
    have hr : ∀ c, c ∈ [(2, nt), (0, 1 + 7 * nt), (1, 1 + 7 * nt), (0, 2 + 7 * nt), (1, 2 + 7 * nt), (3, nt), (0, 3 + 7 * nt + 0), (1, 3 + 7 * nt + 0), (0, 3 + 7 * nt + 1), (1, 3 + 7 * nt + 1), (0, 3 + 7 * nt + 2), (1, 3 + 7 * nt + 2), (0, 3 + 7 * nt + 3), (1, 3 + 7 * nt + 3), (0, 3 + 7 * nt + 4), (1, 3 + 7 * nt + 4)] → c ∈ L ++ [(2, nt), (0, 1 + 7 * nt), (1, 1 + 7 * nt), (0, 2 + 7 * nt), (1, 2 + 7 * nt), (3, nt), (0, 3 + 7 * nt + 0), (1, 3 + 7 * nt + 0), (0, 3 + 7 * nt + 1), (1, 3 + 7 * nt + 1), (0, 3 + 7 * nt + 2), (1, 3 + 7 * nt + 2), (0, 3 + 7 * nt + 3), (1, 3 + 7 * nt + 3), (0, 3 + 7 * nt + 4), (1, 3 + 7 * nt + 4)] := fun c hc => List.mem_append.mpr (Or.inr hc)
    refine ⟨⟨by omega, hb.2⟩, fun j hj => hm _ (hG.2.1 j hj), ⟨hm _ hG.2.2.1.1, hm _ hG.2.2.1.2⟩, fun t ht => ?_, fun v hv => ?_, fun i hi => ?_, fun v hv => ?_⟩
    · by_cases htn : t < nt
      · obtain ⟨z1, z2, z3⟩ := hG.2.2.2.1 t htn
        exact ⟨hm _ z1, hm _ z2, fun j hj => ⟨hm _ (z3 j hj).1, hm _ (z3 j hj).2⟩⟩
      · have ht2 : t = nt := by omega
        subst ht2
        refine ⟨hr _ (by simp), hr _ (by simp), fun j hj => ?_⟩
        have z : j = 0 ∨ j = 1 ∨ j = 2 ∨ j = 3 ∨ j = 4 ∨ j = 5 ∨ j = 6 := by omega
        rcases z with rfl | rfl | rfl | rfl | rfl | rfl | rfl
        · exact ⟨hr _ (by simp), hr _ (by simp)⟩
        · rw [show 1 + 7 * t + 1 = 2 + 7 * t by omega]
          exact ⟨hr _ (by simp), hr _ (by simp)⟩
        · rw [show 1 + 7 * t + 2 = 3 + 7 * t + 0 by omega]
          exact ⟨hr _ (by simp), hr _ (by simp)⟩
        · rw [show 1 + 7 * t + 3 = 3 + 7 * t + 1 by omega]
          exact ⟨hr _ (by simp), hr _ (by simp)⟩
        · rw [show 1 + 7 * t + 4 = 3 + 7 * t + 2 by omega]
          exact ⟨hr _ (by simp), hr _ (by simp)⟩
        · rw [show 1 + 7 * t + 5 = 3 + 7 * t + 3 by omega]
          exact ⟨hr _ (by simp), hr _ (by simp)⟩
        · rw [show 1 + 7 * t + 6 = 3 + 7 * t + 4 by omega]
          exact ⟨hr _ (by simp), hr _ (by simp)⟩
    · obtain ⟨z1, z2⟩ := hG.2.2.2.2.1 v hv
      exact ⟨hm _ z1, fun j hj => ⟨hm _ (z2 j hj).1, hm _ (z2 j hj).2⟩⟩
    · have z : inE (nt + 1) nv (0, i) ∨ inE (nt + 1) nv (1, i) := hi.imp (hEN _) (hEN _)
      simp only [inE] at z
      omega
    · exact WV_g (hG.2.2.2.2.2.2 v hv) (nTG_ne (by omega)) (by omega)
