/-! ===== the class: codes of its cells. (0,i): the Rows i; (1,i): its numbers; (2,t): Table t; (3,t): its past; (4,v): View v; (5,0): the Lensbench; (5,1) tables, (5,2) views, (5,3) found, (5,4) trials, (5,5) tried, (5,6) rivals.
Rows: 0 draft; 1+7t rows of table t, 2+7t wanted, 3+7t+j past j; 22+2v shown of view v, 23+2v wanted.
S.1 i: count of the Rows i (i < 42); 42 tableCount, 43 viewCount, 44 draftView (-1: null), 45 undoCount, 46 told, 47 first, 48 second, 49 count, 50 held, 51 seen, 52 unwanted, 55 views that lie in the row of views, 56 tables likewise. S.2 i: numbers of the Rows i; 42 tried, 43 rivals.
G v j: of view v 0 number, 1 columns, 2 key, 3 tables, 4 left, 5 right (-1: null), 6 the class, 7 column, 8 value, 9 isSame, 10 common, 11 table; G (20+t) 0, 1: columns, key of table t ===== -/
abbrev Gt : Type := Nat → Nat → Int32
abbrev Cd : Type := Nat × Nat
def vl (G : Gt) (v : Nat) : Nat := (G v 4).toNatClampNeg
def vr (G : Gt) (v : Nat) : Nat := (G v 5).toNatClampNeg
def vt (G : Gt) (v : Nat) : Nat := (G v 11).toNatClampNeg
def oid (x : Int32) : Option Nat := if x < 0 then none else some x.toNatClampNeg
def rO (ad : Cd → Nat) (k : Nat) : Option Nat → Value
  | none => .null
  | some u => .ref (ad (k, u))
def dcap (i : Nat) : Nat := if i = 0 then 20 else if i < 22 then 12 else if i % 2 = 0 then 12 else 32
def vfs (ad : Cd → Nat) (G : Gt) (v : Nat) : List Value := [.int (G v 0), .int (G v 1), .int (G v 2), .int (G v 3), rO ad 4 (oid (G v 4)), rO ad 4 (oid (G v 5)), .ref (ad (0, 22 + 2 * v)), .ref (ad (0, 23 + 2 * v))]
def xfs (ad : Cd → Nat) (G : Gt) (v : Nat) : List Value :=
  if G v 6 = 1 then [.ref (ad (4, vl G v)), .int (G v 7), .int (G v 8)] else if G v 6 = 2 then [.ref (ad (4, vl G v)), .ref (ad (4, vr G v)), .int (G v 10)] else if G v 6 = 4 then [.ref (ad (4, vl G v)), .int (G v 7), .int (G v 8), .int (G v 9)] else [.ref (ad (2, vt G v))]
def dce (cA : Nat → ClassId) (ad : Cd → Nat) (G : Gt) (S : St) : Cd → va_E
  | (0, i) => .inr (3, [.ref (ad (1, i)), .int (S.1 i)])
  | (1, i) => .inl (cA 0, dcap i, .inl (S.2 i))
  | (2, t) => .inr (5, [.int (G (20 + t) 0), .int (G (20 + t) 1), .ref (ad (0, 1 + 7 * t)), .ref (ad (0, 2 + 7 * t)), .ref (ad (3, t))])
  | (3, t) => .inl (cA 5, 5, .inr (.inr (.inr (.inr (fun j => if j < 5 then some (ad (0, 3 + 7 * t + j)) else none)))))
  | (4, v) => .inr ((G v 6).toNatClampNeg, vfs ad G v ++ xfs ad G v)
  | (5, 0) => .inr (8, [.ref (ad (5, 1)), .int (S.1 42), .ref (ad (5, 2)), .int (S.1 43), .ref (ad (0, 0)), rO ad 4 (oid (S.1 44)), .ref (ad (5, 3)), .ref (ad (5, 4)), .int (S.1 45)])
  | (5, 1) => .inl (cA 3, 3, .inr (.inr (.inr (.inr (fun j => if j < (S.1 56).toNatClampNeg then some (ad (2, j)) else none)))))
  | (5, 2) => .inl (cA 4, 10, .inr (.inr (.inr (.inr (fun j => if j < (S.1 55).toNatClampNeg then some (ad (4, j)) else none)))))
  | (5, 3) => .inr (0, [.int (S.1 46), .int (S.1 47), .int (S.1 48)])
  | (5, 4) => .inr (7, [.ref (ad (5, 5)), .ref (ad (5, 6)), .int (S.1 49), .int (S.1 50), .int (S.1 51), .int (S.1 52)])
  | (5, 5) => .inl (cA 0, 9, .inl (S.2 42))
  | (5, 6) => .inl (cA 0, 9, .inl (S.2 43))
  | _ => .inr (3, [])
/-- a view's kind and what it is made of -/
def WV (G : Gt) (nt v : Nat) : Prop :=
  (G v 6 = 1 ∧ (∃ u, u < v ∧ G v 4 = nI u) ∧ G v 5 = -1) ∨ (G v 6 = 2 ∧ (∃ u, u < v ∧ G v 4 = nI u) ∧ ∃ u, u < v ∧ G v 5 = nI u) ∨
  (G v 6 = 4 ∧ (∃ u, u < v ∧ G v 4 = nI u) ∧ G v 5 = -1) ∨ (G v 6 = 6 ∧ G v 4 = -1 ∧ G v 5 = -1 ∧ ∃ t, t < nt ∧ G v 11 = nI t)
def WF (L : List Cd) (G : Gt) (nt nv : Nat) : Prop :=
  (nt ≤ 3 ∧ nv ≤ 10) ∧ (∀ j, j < 7 → (5, j) ∈ L) ∧ ((0, 0) ∈ L ∧ (1, 0) ∈ L) ∧ (∀ t, t < nt → (2, t) ∈ L ∧ (3, t) ∈ L ∧ ∀ j, j < 7 → (0, 1 + 7 * t + j) ∈ L ∧ (1, 1 + 7 * t + j) ∈ L) ∧
  (∀ v, v < nv → (4, v) ∈ L ∧ ∀ j, j < 2 → (0, 22 + 2 * v + j) ∈ L ∧ (1, 22 + 2 * v + j) ∈ L) ∧ (∀ i, ((0, i) ∈ L ∨ (1, i) ∈ L) → i < 42) ∧ ∀ v, v < nv → WV G nt v
def okR (L : List Cd) (i : Nat) : Prop := (0, i) ∈ L ∧ (1, i) ∈ L ∧ i < 42
theorem WF.F {L : List Cd} {G : Gt} {nt nv : Nat} (h : WF L G nt nv) (j : Nat) (hj : j < 7) : (5, j) ∈ L := h.2.1 j hj
theorem WF.r0 {L : List Cd} {G : Gt} {nt nv : Nat} (h : WF L G nt nv) : okR L 0 := ⟨h.2.2.1.1, h.2.2.1.2, by omega⟩
theorem WF.T {L : List Cd} {G : Gt} {nt nv t : Nat} (h : WF L G nt nv) (ht : t < nt) : (2, t) ∈ L := (h.2.2.2.1 t ht).1
theorem WF.P {L : List Cd} {G : Gt} {nt nv t : Nat} (h : WF L G nt nv) (ht : t < nt) : (3, t) ∈ L := (h.2.2.2.1 t ht).2.1
theorem WF.rt {L : List Cd} {G : Gt} {nt nv t : Nat} (h : WF L G nt nv) (ht : t < nt) (j : Nat) (hj : j < 7) : okR L (1 + 7 * t + j) := ⟨((h.2.2.2.1 t ht).2.2 j hj).1, ((h.2.2.2.1 t ht).2.2 j hj).2, by have := h.1.1; omega⟩
theorem WF.r1 {L : List Cd} {G : Gt} {nt nv t : Nat} (h : WF L G nt nv) (ht : t < nt) : okR L (1 + 7 * t) := h.rt ht 0 (by omega)
theorem WF.r2 {L : List Cd} {G : Gt} {nt nv t : Nat} (h : WF L G nt nv) (ht : t < nt) : okR L (2 + 7 * t) := by
  have q := h.rt ht 1 (by omega)
  rwa [show 1 + 7 * t + 1 = 2 + 7 * t by omega] at q
theorem WF.r3 {L : List Cd} {G : Gt} {nt nv t j : Nat} (h : WF L G nt nv) (ht : t < nt) (hj : j < 5) : okR L (3 + 7 * t + j) := by
  have q := h.rt ht (2 + j) (by omega)
  rwa [show 1 + 7 * t + (2 + j) = 3 + 7 * t + j by omega] at q
theorem WF.V {L : List Cd} {G : Gt} {nt nv v : Nat} (h : WF L G nt nv) (hv : v < nv) : (4, v) ∈ L := (h.2.2.2.2.1 v hv).1
theorem WF.rs {L : List Cd} {G : Gt} {nt nv v : Nat} (h : WF L G nt nv) (hv : v < nv) : okR L (22 + 2 * v) := ⟨((h.2.2.2.2.1 v hv).2 0 (by omega)).1, ((h.2.2.2.2.1 v hv).2 0 (by omega)).2, by have := h.1.2; omega⟩
theorem WF.rw {L : List Cd} {G : Gt} {nt nv v : Nat} (h : WF L G nt nv) (hv : v < nv) : okR L (23 + 2 * v) := by
  have q : okR L (22 + 2 * v + 1) := ⟨((h.2.2.2.2.1 v hv).2 1 (by omega)).1, ((h.2.2.2.2.1 v hv).2 1 (by omega)).2, by have := h.1.2; omega⟩
  rwa [show 22 + 2 * v + 1 = 23 + 2 * v by omega] at q
theorem WF.R {L : List Cd} {G : Gt} {nt nv i : Nat} (h : WF L G nt nv) (hi : (0, i) ∈ L) : i < 42 := h.2.2.2.2.2.1 i (Or.inl hi)
theorem WF.A {L : List Cd} {G : Gt} {nt nv i : Nat} (h : WF L G nt nv) (hi : (1, i) ∈ L) : i < 42 := h.2.2.2.2.2.1 i (Or.inr hi)
theorem WF.K {L : List Cd} {G : Gt} {nt nv v : Nat} (h : WF L G nt nv) (hv : v < nv) : G v 6 = 1 ∨ G v 6 = 2 ∨ G v 6 = 4 ∨ G v 6 = 6 := by
  rcases h.2.2.2.2.2.2 v hv with q | q | q | q
  · exact Or.inl q.1
  · exact Or.inr (Or.inl q.1)
  · exact Or.inr (Or.inr (Or.inl q.1))
  · exact Or.inr (Or.inr (Or.inr q.1))
theorem WF.L' {L : List Cd} {G : Gt} {nt nv v : Nat} (h : WF L G nt nv) (hv : v < nv) (hk : G v 6 ≠ 6) : G v 4 = nI (vl G v) ∧ vl G v < v := by
  have q : ∃ u, u < v ∧ G v 4 = nI u := by
    rcases h.2.2.2.2.2.2 v hv with q | q | q | q
    · exact q.2.1
    · exact q.2.1
    · exact q.2.1
    · exact absurd q.1 hk
  obtain ⟨u, h1, h2⟩ := q
  have : vl G v = u := by unfold vl; rw [h2, nI_clamp (by have := h.1.2; omega)]
  rw [this]
  exact ⟨h2, h1⟩
theorem WF.l {L : List Cd} {G : Gt} {nt nv v : Nat} (h : WF L G nt nv) (hv : v < nv) (hk : G v 6 ≠ 6) : vl G v < nv := Nat.lt_trans (h.L' hv hk).2 hv
theorem WF.R' {L : List Cd} {G : Gt} {nt nv v : Nat} (h : WF L G nt nv) (hv : v < nv) (hk : G v 6 = 2) : G v 5 = nI (vr G v) ∧ vr G v < v := by
  have q : ∃ u, u < v ∧ G v 5 = nI u := by
    rcases h.2.2.2.2.2.2 v hv with q | q | q | q
    · exact absurd (q.1.symm.trans hk) (by decide)
    · exact q.2.2
    · exact absurd (q.1.symm.trans hk) (by decide)
    · exact absurd (q.1.symm.trans hk) (by decide)
  obtain ⟨u, h1, h2⟩ := q
  have : vr G v = u := by unfold vr; rw [h2, nI_clamp (by have := h.1.2; omega)]
  rw [this]
  exact ⟨h2, h1⟩
theorem WF.r {L : List Cd} {G : Gt} {nt nv v : Nat} (h : WF L G nt nv) (hv : v < nv) (hk : G v 6 = 2) : vr G v < nv := Nat.lt_trans (h.R' hv hk).2 hv
theorem WF.T' {L : List Cd} {G : Gt} {nt nv v : Nat} (h : WF L G nt nv) (hv : v < nv) (hk : G v 6 = 6) : G v 11 = nI (vt G v) ∧ vt G v < nt := by
  have q : ∃ u, u < nt ∧ G v 11 = nI u := by
    rcases h.2.2.2.2.2.2 v hv with q | q | q | q
    · exact absurd (q.1.symm.trans hk) (by decide)
    · exact absurd (q.1.symm.trans hk) (by decide)
    · exact absurd (q.1.symm.trans hk) (by decide)
    · exact q.2.2.2
  obtain ⟨u, h1, h2⟩ := q
  have : vt G v = u := by unfold vt; rw [h2, nI_clamp (by have := h.1.1; omega)]
  rw [this]
  exact ⟨h2, h1⟩
theorem ne6_1 {x : Int32} (h : x = 1) : x ≠ 6 := by rw [h]; decide
theorem ne6_2 {x : Int32} (h : x = 2) : x ≠ 6 := by rw [h]; decide
theorem ne6_4 {x : Int32} (h : x = 4) : x ≠ 6 := by rw [h]; decide
def DX (D : va_G) (cA : Nat → ClassId) (A : Nat → Prop) (ad : Cd → Nat) (L : List Cd) (G : Gt) (S : St) (H : Heap) : Prop := HP D A L ad (dce cA ad G S) H
def oc {β : Type} (o : Option Nat) (a : Option β) (b : Nat → Option β) : Option β := match o with
  | none => a
  | some u => b u
theorem oc_e {β : Type} {o : Option Nat} {a : Option β} {b : Nat → Option β} {r : β} (h : oc o a b = some r) : (o = none ∧ a = some r) ∨ ∃ u, o = some u ∧ b u = some r := by
  cases o with
  | none => exact Or.inl ⟨rfl, h⟩
  | some u => exact Or.inr ⟨u, rfl, h⟩
/-- by a view's class: DropView, JoinView, SelectView, TableView -/
def vd {β : Type} (k : Int32) (a b c d : Option β) : Option β := if k = 1 then a else if k = 2 then b else if k = 4 then c else d
theorem vd_1 {β : Type} {k : Int32} {a b c d : Option β} {r : β} (hk : k = 1) (h : vd k a b c d = some r) : a = some r := by subst hk; exact h
theorem vd_2 {β : Type} {k : Int32} {a b c d : Option β} {r : β} (hk : k = 2) (h : vd k a b c d = some r) : b = some r := by subst hk; exact h
theorem vd_4 {β : Type} {k : Int32} {a b c d : Option β} {r : β} (hk : k = 4) (h : vd k a b c d = some r) : c = some r := by subst hk; exact h
theorem vd_6 {β : Type} {k : Int32} {a b c d : Option β} {r : β} (hk : k = 6) (h : vd k a b c d = some r) : d = some r := by subst hk; exact h
/-! what a write leaves of the other cells -/
theorem w1_ne {S : St} {n k : Nat} {x : Int32} (h : k ≠ n) : (w1 S n x).1 k = S.1 k := by unfold w1 upd; exact if_neg h
theorem w1_eq {S : St} {n : Nat} {x : Int32} : (w1 S n x).1 n = x := by unfold w1 upd; exact if_pos rfl
theorem w1_2 {S : St} {n : Nat} {x : Int32} : (w1 S n x).2 = S.2 := rfl
theorem w2_1 {S : St} {n j : Nat} {x : Int32} : (w2 S n j x).1 = S.1 := rfl
theorem w2_ne {S : St} {n k j : Nat} {x : Int32} (h : k ≠ n) : (w2 S n j x).2 k = S.2 k := by unfold w2; exact if_neg h
theorem w2_eq {S : St} {n j : Nat} {x : Int32} : (w2 S n j x).2 n = upd (S.2 n) j x := by unfold w2; exact if_pos rfl
/-- the owner of a number of S.1 -/
def own1 (n : Nat) : Cd := if n < 42 then (0, n) else if n < 46 then (5, 0) else if n < 49 then (5, 3) else if n < 53 then (5, 4) else if n = 55 then (5, 2) else (5, 1)
def own2 (n : Nat) : Cd := if n < 42 then (1, n) else if n = 42 then (5, 5) else (5, 6)
theorem dce_w1 {cA : Nat → ClassId} {ad : Cd → Nat} {L : List Cd} {G : Gt} {S : St} {nt nv n : Nat} {x : Int32} (hG : WF L G nt nv) : ∀ c, c ∈ L → c ≠ own1 n → dce cA ad G S c = dce cA ad G (w1 S n x) c := by
  intro c hc hne
  unfold dce
  split
  · rename_i i
    have hi := hG.R hc
    rw [w1_ne (fun q => hne (by subst q; unfold own1; rw [if_pos hi]))]
  · rfl
  · rfl
  · rfl
  · rfl
  all_goals first | rfl | (
    have key : ∀ k, own1 k ≠ own1 n → (w1 S n x).1 k = S.1 k := fun k hk => w1_ne (fun q => hk (by rw [q]))
    first
      | rw [key 42 hne, key 43 hne, key 44 hne, key 45 hne]
      | rw [key 56 hne]
      | rw [key 55 hne]
      | rw [key 46 hne, key 47 hne, key 48 hne]
      | rw [key 49 hne, key 50 hne, key 51 hne, key 52 hne])
theorem dce_w2 {cA : Nat → ClassId} {ad : Cd → Nat} {L : List Cd} {G : Gt} {S : St} {nt nv n j : Nat} {x : Int32} (hG : WF L G nt nv) : ∀ c, c ∈ L → c ≠ own2 n → dce cA ad G S c = dce cA ad G (w2 S n j x) c := by
  intro c hc hne
  unfold dce
  split
  · rfl
  · rename_i i
    have hi := hG.A hc
    rw [w2_ne (fun q => hne (by subst q; unfold own2; rw [if_pos hi]))]
  all_goals first | rfl | (
    have key : ∀ k, own2 k ≠ own2 n → (w2 S n j x).2 k = S.2 k := fun k hk => w2_ne (fun q => hk (by rw [q]))
    first
      | rw [key 42 hne]
      | rw [key 43 hne])
/-! the views' cells by their class -/
theorem dce_V1 {cA : Nat → ClassId} {ad : Cd → Nat} {G : Gt} {S : St} {v : Nat} (h : G v 6 = 1) : dce cA ad G S (4, v) = .inr (1, vfs ad G v ++ [.ref (ad (4, vl G v)), .int (G v 7), .int (G v 8)]) := by
  show (.inr ((G v 6).toNatClampNeg, vfs ad G v ++ xfs ad G v) : va_E) = _
  unfold xfs
  rw [h, if_pos rfl]; rfl
theorem dce_V2 {cA : Nat → ClassId} {ad : Cd → Nat} {G : Gt} {S : St} {v : Nat} (h : G v 6 = 2) : dce cA ad G S (4, v) = .inr (2, vfs ad G v ++ [.ref (ad (4, vl G v)), .ref (ad (4, vr G v)), .int (G v 10)]) := by
  show (.inr ((G v 6).toNatClampNeg, vfs ad G v ++ xfs ad G v) : va_E) = _
  unfold xfs
  rw [h, if_neg (by decide), if_pos rfl]; rfl
theorem dce_V4 {cA : Nat → ClassId} {ad : Cd → Nat} {G : Gt} {S : St} {v : Nat} (h : G v 6 = 4) : dce cA ad G S (4, v) = .inr (4, vfs ad G v ++ [.ref (ad (4, vl G v)), .int (G v 7), .int (G v 8), .int (G v 9)]) := by
  show (.inr ((G v 6).toNatClampNeg, vfs ad G v ++ xfs ad G v) : va_E) = _
  unfold xfs
  rw [h, if_neg (by decide), if_neg (by decide), if_pos rfl]; rfl
theorem dce_V6 {cA : Nat → ClassId} {ad : Cd → Nat} {G : Gt} {S : St} {v : Nat} (h : G v 6 = 6) : dce cA ad G S (4, v) = .inr (6, vfs ad G v ++ [.ref (ad (2, vt G v))]) := by
  show (.inr ((G v 6).toNatClampNeg, vfs ad G v ++ xfs ad G v) : va_E) = _
  unfold xfs
  rw [h, if_neg (by decide), if_neg (by decide), if_neg (by decide)]; rfl
theorem inC {C : String} {T : u_T} {N : Nat} (h1 : ∀ w ∈ u_ws C T N, w ∈ lw_tbl) (h2 : ∀ w ∈ u_ws C T N, goodWord w = true) : ∀ w ∈ u_ws C T N, w ∈ ALL := fun w hw => List.mem_filter.mpr ⟨h1 w hw, h2 w hw⟩
theorem inX0 : ∀ w ∈ u_ws RX0 TX0 3, w ∈ ALL := inC (by decide +kernel) (by decide +kernel)
theorem inX2 : ∀ w ∈ u_ws RX2 TX2 11, w ∈ ALL := inC (by decide +kernel) (by decide +kernel)
theorem inX3 : ∀ w ∈ u_ws RX3 TX3 11, w ∈ ALL := inC (by decide +kernel) (by decide +kernel)
theorem inX4 : ∀ w ∈ u_ws RX4 TX4 2, w ∈ ALL := inC (by decide +kernel) (by decide +kernel)
theorem inX5 : ∀ w ∈ u_ws RX5 TX5 12, w ∈ ALL := inC (by decide +kernel) (by decide +kernel)
theorem inX6 : ∀ w ∈ u_ws RX6 TX6 5, w ∈ ALL := inC (by decide +kernel) (by decide +kernel)
theorem inX7 : ∀ w ∈ u_ws RX7 TX7 9, w ∈ ALL := inC (by decide +kernel) (by decide +kernel)
theorem inX8 : ∀ w ∈ u_ws RX8 TX8 6, w ∈ ALL := inC (by decide +kernel) (by decide +kernel)
theorem inX10 : ∀ w ∈ u_ws RX10 TX10 9, w ∈ ALL := inC (by decide +kernel) (by decide +kernel)
section DRW
variable {p : Program} {l : Launch} {e : Env} {R : Room} {s : State} {m : MethodId} {args : Array Value} {below : List Frame} {meth : Method} {c : Code} {H : Heap} {locs : List Loc} {cells slots : Nat} {Q : State → Prop}
variable {cc : ByteArray} {pc nL index : Nat} {ls : Array Slot} {rest : List Value} {D : va_G} {cA : Nat → ClassId} {A : Nat → Prop} {ad : Cd → Nat} {L : List Cd} {G : Gt} {S : St} {w0 : Cond} {H0 : Heap} {own ref : String} {nt nv : Nat}
theorem dsame {args : Array Value} {s : State} {w0 : Cond} {ref O f d : String} (ht : ∀ w ∈ w0 :: ALL, w.before args s = true) (h : O = ref ∨ Cond.sameField ref O f d ∈ ALL) : ∀ x, s.fieldFound? O f d = some x → s.fieldFound? ref f d = some x := by
  intro x q
  rcases h with h | h
  · rw [← h]; exact q
  · exact u_same (tA ht h) x q
theorem dget {cd : Cd} {ci : Nat} {fs : List Value} {C : String} {T : u_T} {N : Nat} {v : Value} (hx : p.tables.exec = Jvm.exec) (hb : c.code = cc) (hC : CallFix p m c cc nL s args (w0 :: ALL) own) (hK : va_K D vwCl (tysA cA) s) (hX : DX D cA A ad L G S H) (hc : cd ∈ L) (he : dce cA ad G S cd = .inr (ci, fs)) (hcl : vwCl[ci]? = some (C, T, N)) (hin : ∀ w ∈ u_ws C T N, w ∈ ALL) (k : Nat) (hk : k < N) (hlink : Cond.fieldLink own index ref (T k).2.1 (T k).2.2.1 ∈ ALL) (hsame : (T k).1 = ref ∨ Cond.sameField ref (T k).1 (T k).2.1 (T k).2.2.1 ∈ ALL) (hv : fs[k]? = some v) (hdg : decode cc pc = .ok (.getfield index, 3))
    (kk : W p l e R s m args below meth c H locs cells slots Q (F0 m (pc + 3) ls (v :: rest))) : W p l e R s m args below meth c H locs cells slots Q (F0 m pc ls (.ref (ad cd) :: rest)) := by
  obtain ⟨k0, -, h2⟩ := wl_get (ad := ad) (ce := dce cA ad G S) hc
  rw [he] at h2
  exact va_get (D := D) hx hb hC.2.2.2.2 (tU hin) hC.2.2.2.1 hK hX.1 k0 h2 hcl k hk (tA hC.2.2.2.2 hlink) (dsame hC.2.2.2.2 hsame) hv hdg kk
theorem dput {cd : Cd} {ci : Nat} {fs : List Value} {C : String} {T : u_T} {N : Nat} {v : Value} {ty : FieldType} {S' : St} (hx : p.tables.exec = Jvm.exec) (hb : c.code = cc) (hC : CallFix p m c cc nL s args (w0 :: ALL) own) (hK : va_K D vwCl (tysA cA) s) (hX : DX D cA A ad L G S H) (hS : va_S A H0 H locs) (hc : cd ∈ L) (he : dce cA ad G S cd = .inr (ci, fs)) (hcl : vwCl[ci]? = some (C, T, N)) (hin : ∀ w ∈ u_ws C T N, w ∈ ALL) (ty0 : Nat → FieldType) (hty : ∀ k, k < N → parseFieldDescriptor (T k).2.2.1 = some (ty0 k)) (hnm : ∀ a, a < N → ∀ b, b < N → a ≠ b → (T a).2.1 ≠ (T b).2.1) (k : Nat) (hk : k < N) (hlink : Cond.fieldLink own index ref (T k).2.1 (T k).2.2.1 ∈ ALL) (href : (T k).1 = ref) (hfin : (T k).2.2.2 = false) (hd : parseFieldDescriptor (T k).2.2.1 = some ty) (hn : narrow ty v = v) (hfit : fits ty v = true) (hl : k < fs.length)
    (hset : ∀ c, c ∈ L → (fun d => if d = cd then (.inr (ci, fs.set k v) : va_E) else dce cA ad G S d) c = dce cA ad G S' c) (hdg : decode cc pc = .ok (.putfield index, 3))
    (kk : ∀ (H1 : Heap) (locs1 : List Loc), DX D cA A ad L G S' H1 → va_S A H0 H1 locs1 → W p l e R s m args below meth c H1 locs1 cells slots Q (F0 m (pc + 3) ls rest)) : W p l e R s m args below meth c H locs cells slots Q (F0 m pc ls (v :: .ref (ad cd) :: rest)) := by
  obtain ⟨k0, h1, h2⟩ := wl_get (ad := ad) (ce := dce cA ad G S) hc
  rw [he] at h2
  refine va_put (D := D) hx hb hC.2.2.2.2 (tU hin) ty0 hty hnm hC.2.2.2.1 hK hX.1 hX.2 hS k0 h2 hcl k hk (tA hC.2.2.2.2 hlink) (fun x q => by rw [← href]; exact q) hfin hd hn hfit hl hdg (fun H1 locs1 hP hD hS1 => kk H1 locs1 ?_ hS1)
  rw [wl_set hX.2 h1] at hP hD
  exact HP.cong ⟨hP, hD⟩ hset
theorem dald {cd : Cd} {n : Nat} {f : Nat → Int32} (hx : p.tables.exec = Jvm.exec) (hb : c.code = cc) (hK : va_K D vwCl (tysA cA) s) (hX : DX D cA A ad L G S H) (hc : cd ∈ L) (he : dce cA ad G S cd = .inl (cA 0, n, .inl f)) {i : Int32} {j : Nat} (hin : vp_in i n) (hj : i.toNatClampNeg = j) (hdg : decode cc pc = .ok (.iaload, 1))
    (kk : W p l e R s m args below meth c H locs cells slots Q (F0 m (pc + 1) ls (.int (f j) :: rest))) : W p l e R s m args below meth c H locs cells slots Q (F0 m pc ls (.int i :: .ref (ad cd) :: rest)) := by
  obtain ⟨k0, -, h2⟩ := wl_get (ad := ad) (ce := dce cA ad G S) hc
  rw [he] at h2
  subst hj
  exact va_iald (tys := tysA cA) hx hb hK hX.1 k0 0 h2 rfl hin hdg kk
theorem dast {cd : Cd} {n : Nat} {f : Nat → Int32} {S' : St} (hx : p.tables.exec = Jvm.exec) (hb : c.code = cc) (hK : va_K D vwCl (tysA cA) s) (hX : DX D cA A ad L G S H) (hS : va_S A H0 H locs) (hc : cd ∈ L) (he : dce cA ad G S cd = .inl (cA 0, n, .inl f)) {i x : Int32} {j : Nat} (hset : ∀ c, c ∈ L → (fun d => if d = cd then (.inl (cA 0, n, .inl (upd f j x)) : va_E) else dce cA ad G S d) c = dce cA ad G S' c) (hin : vp_in i n) (hj : i.toNatClampNeg = j) (hdg : decode cc pc = .ok (.iastore, 1))
    (kk : ∀ (H1 : Heap) (locs1 : List Loc), DX D cA A ad L G S' H1 → va_S A H0 H1 locs1 → W p l e R s m args below meth c H1 locs1 cells slots Q (F0 m (pc + 1) ls rest)) : W p l e R s m args below meth c H locs cells slots Q (F0 m pc ls (.int x :: .int i :: .ref (ad cd) :: rest)) := by
  obtain ⟨k0, h1, h2⟩ := wl_get (ad := ad) (ce := dce cA ad G S) hc
  rw [he] at h2
  subst hj
  refine va_iast (tys := tysA cA) hx hb hK hX.1 hX.2 hS k0 0 h2 rfl hin hdg (fun H1 locs1 hP hD hS1 => kk H1 locs1 ?_ hS1)
  rw [wl_set hX.2 h1] at hP hD
  exact HP.cong ⟨hP, hD⟩ hset
theorem dlen {cd : Cd} {ca : ClassId} {x : vp_A} {ty : FieldType} {v : Int32} (hx : p.tables.exec = Jvm.exec) (hb : c.code = cc) (hK : va_K D vwCl (tysA cA) s) (hX : DX D cA A ad L G S H) (hc : cd ∈ L) (he : dce cA ad G S cd = .inl (ca, x)) (t0 : Nat) (ht : (tysA cA)[t0]? = some (ca, ty)) (hv : Int32.ofNat x.1 = v) (hdg : decode cc pc = .ok (.arraylength, 1))
    (kk : W p l e R s m args below meth c H locs cells slots Q (F0 m (pc + 1) ls (.int v :: rest))) : W p l e R s m args below meth c H locs cells slots Q (F0 m pc ls (.ref (ad cd) :: rest)) := by
  obtain ⟨k0, -, h2⟩ := wl_get (ad := ad) (ce := dce cA ad G S) hc
  rw [he] at h2
  exact va_alen (tys := tysA cA) hx hb hK hX.1 k0 t0 h2 ht hv hdg kk
theorem daald {cd : Cd} {ca : ClassId} {n : Nat} {C : String} {f : Nat → Option Nat} {v : Value} (hx : p.tables.exec = Jvm.exec) (hb : c.code = cc) (hK : va_K D vwCl (tysA cA) s) (hX : DX D cA A ad L G S H) (hc : cd ∈ L) (he : dce cA ad G S cd = .inl (ca, n, .inr (.inr (.inr (.inr f))))) (t0 : Nat) (ht : (tysA cA)[t0]? = some (ca, .object C)) {i : Int32} {j : Nat} (hin : vp_in i n) (hj : i.toNatClampNeg = j) (hv : va_rf (f j) = v) (hdg : decode cc pc = .ok (.aaload, 1))
    (kk : W p l e R s m args below meth c H locs cells slots Q (F0 m (pc + 1) ls (v :: rest))) : W p l e R s m args below meth c H locs cells slots Q (F0 m pc ls (.int i :: .ref (ad cd) :: rest)) := by
  obtain ⟨k0, -, h2⟩ := wl_get (ad := ad) (ce := dce cA ad G S) hc
  rw [he] at h2
  subst hj
  subst hv
  exact va_aldq (tys := tysA cA) hx hb hK hX.1 k0 t0 h2 ht hin hdg kk
theorem rO_at {ad : Cd → Nat} {k n j : Nat} : va_rf (if j < n then some (ad (k, j)) else none) = rO ad k (if j < n then some j else none) := by split <;> rfl
theorem dsetR {i : Nat} {x : Int32} (hG : WF L G nt nv) (hi : i < 42) : ∀ c, c ∈ L → (fun d => if d = (0, i) then (.inr (3, [Value.ref (ad (1, i)), .int x]) : va_E) else dce cA ad G S d) c = dce cA ad G (w1 S i x) c := by
  intro c hc
  have ho : own1 i = (0, i) := by unfold own1; rw [if_pos hi]
  by_cases h : c = (0, i)
  · subst h
    simp only [if_true, dce, w1_eq]
  · simp only [h, if_false]
    exact dce_w1 hG c hc (by rw [ho]; exact h)
theorem dsetA {i j : Nat} {x : Int32} (hG : WF L G nt nv) (hi : i < 42) : ∀ c, c ∈ L → (fun d => if d = (1, i) then (.inl (cA 0, dcap i, .inl (upd (S.2 i) j x)) : va_E) else dce cA ad G S d) c = dce cA ad G (w2 S i j x) c := by
  intro c hc
  have ho : own2 i = (1, i) := by unfold own2; rw [if_pos hi]
  by_cases h : c = (1, i)
  · subst h
    simp only [if_true, dce, w2_eq]
  · simp only [h, if_false]
    exact dce_w2 hG c hc (by rw [ho]; exact h)
theorem dset42 {x : Int32} (hG : WF L G nt nv) : ∀ c, c ∈ L → (fun d => if d = (5, 0) then (.inr (8, ([.ref (ad (5, 1)), .int (S.1 42), .ref (ad (5, 2)), .int (S.1 43), .ref (ad (0, 0)), rO ad 4 (oid (S.1 44)), .ref (ad (5, 3)), .ref (ad (5, 4)), .int (S.1 45)] : List Value).set 1 (.int x)) : va_E) else dce cA ad G S d) c = dce cA ad G (w1 S 42 x) c := by
  intro c hc
  by_cases h : c = (5, 0)
  · subst h
    simp only [if_true, dce]
    rfl
  · simp only [h, if_false]
    exact dce_w1 hG c hc h
theorem dset43 {x : Int32} (hG : WF L G nt nv) : ∀ c, c ∈ L → (fun d => if d = (5, 0) then (.inr (8, ([.ref (ad (5, 1)), .int (S.1 42), .ref (ad (5, 2)), .int (S.1 43), .ref (ad (0, 0)), rO ad 4 (oid (S.1 44)), .ref (ad (5, 3)), .ref (ad (5, 4)), .int (S.1 45)] : List Value).set 3 (.int x)) : va_E) else dce cA ad G S d) c = dce cA ad G (w1 S 43 x) c := by
  intro c hc
  by_cases h : c = (5, 0)
  · subst h
    simp only [if_true, dce]
    rfl
  · simp only [h, if_false]
    exact dce_w1 hG c hc h
theorem dset45 {x : Int32} (hG : WF L G nt nv) : ∀ c, c ∈ L → (fun d => if d = (5, 0) then (.inr (8, ([.ref (ad (5, 1)), .int (S.1 42), .ref (ad (5, 2)), .int (S.1 43), .ref (ad (0, 0)), rO ad 4 (oid (S.1 44)), .ref (ad (5, 3)), .ref (ad (5, 4)), .int (S.1 45)] : List Value).set 8 (.int x)) : va_E) else dce cA ad G S d) c = dce cA ad G (w1 S 45 x) c := by
  intro c hc
  by_cases h : c = (5, 0)
  · subst h
    simp only [if_true, dce]
    rfl
  · simp only [h, if_false]
    exact dce_w1 hG c hc h
theorem dset46 {x : Int32} (hG : WF L G nt nv) : ∀ c, c ∈ L → (fun d => if d = (5, 3) then (.inr (0, ([.int (S.1 46), .int (S.1 47), .int (S.1 48)] : List Value).set 0 (.int x)) : va_E) else dce cA ad G S d) c = dce cA ad G (w1 S 46 x) c := by
  intro c hc
  by_cases h : c = (5, 3)
  · subst h
    simp only [if_true, dce]
    rfl
  · simp only [h, if_false]
    exact dce_w1 hG c hc h
theorem dset47 {x : Int32} (hG : WF L G nt nv) : ∀ c, c ∈ L → (fun d => if d = (5, 3) then (.inr (0, ([.int (S.1 46), .int (S.1 47), .int (S.1 48)] : List Value).set 1 (.int x)) : va_E) else dce cA ad G S d) c = dce cA ad G (w1 S 47 x) c := by
  intro c hc
  by_cases h : c = (5, 3)
  · subst h
    simp only [if_true, dce]
    rfl
  · simp only [h, if_false]
    exact dce_w1 hG c hc h
theorem dset48 {x : Int32} (hG : WF L G nt nv) : ∀ c, c ∈ L → (fun d => if d = (5, 3) then (.inr (0, ([.int (S.1 46), .int (S.1 47), .int (S.1 48)] : List Value).set 2 (.int x)) : va_E) else dce cA ad G S d) c = dce cA ad G (w1 S 48 x) c := by
  intro c hc
  by_cases h : c = (5, 3)
  · subst h
    simp only [if_true, dce]
    rfl
  · simp only [h, if_false]
    exact dce_w1 hG c hc h
theorem dset49 {x : Int32} (hG : WF L G nt nv) : ∀ c, c ∈ L → (fun d => if d = (5, 4) then (.inr (7, ([.ref (ad (5, 5)), .ref (ad (5, 6)), .int (S.1 49), .int (S.1 50), .int (S.1 51), .int (S.1 52)] : List Value).set 2 (.int x)) : va_E) else dce cA ad G S d) c = dce cA ad G (w1 S 49 x) c := by
  intro c hc
  by_cases h : c = (5, 4)
  · subst h
    simp only [if_true, dce]
    rfl
  · simp only [h, if_false]
    exact dce_w1 hG c hc h
theorem dset50 {x : Int32} (hG : WF L G nt nv) : ∀ c, c ∈ L → (fun d => if d = (5, 4) then (.inr (7, ([.ref (ad (5, 5)), .ref (ad (5, 6)), .int (S.1 49), .int (S.1 50), .int (S.1 51), .int (S.1 52)] : List Value).set 3 (.int x)) : va_E) else dce cA ad G S d) c = dce cA ad G (w1 S 50 x) c := by
  intro c hc
  by_cases h : c = (5, 4)
  · subst h
    simp only [if_true, dce]
    rfl
  · simp only [h, if_false]
    exact dce_w1 hG c hc h
theorem dset51 {x : Int32} (hG : WF L G nt nv) : ∀ c, c ∈ L → (fun d => if d = (5, 4) then (.inr (7, ([.ref (ad (5, 5)), .ref (ad (5, 6)), .int (S.1 49), .int (S.1 50), .int (S.1 51), .int (S.1 52)] : List Value).set 4 (.int x)) : va_E) else dce cA ad G S d) c = dce cA ad G (w1 S 51 x) c := by
  intro c hc
  by_cases h : c = (5, 4)
  · subst h
    simp only [if_true, dce]
    rfl
  · simp only [h, if_false]
    exact dce_w1 hG c hc h
theorem dset52 {x : Int32} (hG : WF L G nt nv) : ∀ c, c ∈ L → (fun d => if d = (5, 4) then (.inr (7, ([.ref (ad (5, 5)), .ref (ad (5, 6)), .int (S.1 49), .int (S.1 50), .int (S.1 51), .int (S.1 52)] : List Value).set 5 (.int x)) : va_E) else dce cA ad G S d) c = dce cA ad G (w1 S 52 x) c := by
  intro c hc
  by_cases h : c = (5, 4)
  · subst h
    simp only [if_true, dce]
    rfl
  · simp only [h, if_false]
    exact dce_w1 hG c hc h
theorem dsetB42 {j : Nat} {x : Int32} (hG : WF L G nt nv) : ∀ c, c ∈ L → (fun d => if d = (5, 5) then (.inl (cA 0, 9, .inl (upd (S.2 42) j x)) : va_E) else dce cA ad G S d) c = dce cA ad G (w2 S 42 j x) c := by
  intro c hc
  by_cases h : c = (5, 5)
  · subst h
    simp only [if_true, dce, w2_eq]
  · simp only [h, if_false]
    exact dce_w2 hG c hc h
theorem dsetB43 {j : Nat} {x : Int32} (hG : WF L G nt nv) : ∀ c, c ∈ L → (fun d => if d = (5, 6) then (.inl (cA 0, 9, .inl (upd (S.2 43) j x)) : va_E) else dce cA ad G S d) c = dce cA ad G (w2 S 43 j x) c := by
  intro c hc
  by_cases h : c = (5, 6)
  · subst h
    simp only [if_true, dce, w2_eq]
  · simp only [h, if_false]
    exact dce_w2 hG c hc h
theorem dset44 {o : Option Nat} {x : Int32} (hG : WF L G nt nv) (ho : oid x = o) : ∀ c, c ∈ L → (fun d => if d = (5, 0) then (.inr (8, ([.ref (ad (5, 1)), .int (S.1 42), .ref (ad (5, 2)), .int (S.1 43), .ref (ad (0, 0)), rO ad 4 (oid (S.1 44)), .ref (ad (5, 3)), .ref (ad (5, 4)), .int (S.1 45)] : List Value).set 5 (rO ad 4 o)) : va_E) else dce cA ad G S d) c = dce cA ad G (w1 S 44 x) c := by
  intro c hc
  by_cases h : c = (5, 0)
  · subst h
    simp only [if_true, dce]
    subst ho
    rfl
  · simp only [h, if_false]
    exact dce_w1 hG c hc h
/-- a field of View, of a view of any class -/
theorem dgetV {v k : Nat} {x : Value} (hx : p.tables.exec = Jvm.exec) (hb : c.code = cc) (hC : CallFix p m c cc nL s args (w0 :: ALL) own) (hK : va_K D vwCl (tysA cA) s) (hX : DX D cA A ad L G S H) (hG : WF L G nt nv) (hv : v < nv) (hk : k < 8) (hlink : Cond.fieldLink own index ref (TX2 k).2.1 (TX2 k).2.2.1 ∈ ALL) (hsame : "Lensbench$View" = ref ∨ Cond.sameField ref "Lensbench$View" (TX2 k).2.1 (TX2 k).2.2.1 ∈ ALL) (hfv : (vfs ad G v)[k]? = some x) (hdg : decode cc pc = .ok (.getfield index, 3))
    (kk : W p l e R s m args below meth c H locs cells slots Q (F0 m (pc + 3) ls (x :: rest))) : W p l e R s m args below meth c H locs cells slots Q (F0 m pc ls (.ref (ad (4, v)) :: rest)) := by
  have e2 : ∀ k, k < 8 → (TX2 k).1 = "Lensbench$View" := by decide +kernel
  have e3 : ∀ k, k < 8 → TX3 k = TX2 k := by decide +kernel
  have e5 : ∀ k, k < 8 → TX5 k = TX2 k := by decide +kernel
  have e7 : ∀ k, k < 8 → TX7 k = TX2 k := by decide +kernel
  have ha : ∀ ys : List Value, (vfs ad G v ++ ys)[k]? = some x := fun ys => by rw [List.getElem?_append_left (by show k < 8; exact hk)]; exact hfv
  rcases hG.K hv with q | q | q | q
  · exact dget (ci := 1) (C := RX2) (T := TX2) (N := 11) hx hb hC hK hX (hG.V hv) (dce_V1 q) rfl inX2 k (by omega) hlink (by rw [e2 k hk]; exact hsame) (ha _) hdg kk
  · exact dget (ci := 2) (C := RX3) (T := TX3) (N := 11) hx hb hC hK hX (hG.V hv) (dce_V2 q) rfl inX3 k (by omega) (by rw [e3 k hk]; exact hlink) (by rw [e3 k hk, e2 k hk]; exact hsame) (ha _) hdg kk
  · exact dget (ci := 4) (C := RX5) (T := TX5) (N := 12) hx hb hC hK hX (hG.V hv) (dce_V4 q) rfl inX5 k (by omega) (by rw [e5 k hk]; exact hlink) (by rw [e5 k hk, e2 k hk]; exact hsame) (ha _) hdg kk
  · exact dget (ci := 6) (C := RX7) (T := TX7) (N := 9) hx hb hC hK hX (hG.V hv) (dce_V6 q) rfl inX7 k (by omega) (by rw [e7 k hk]; exact hlink) (by rw [e7 k hk, e2 k hk]; exact hsame) (ha _) hdg kk
theorem drec {cd : Cd} {ci : Nat} {fs : List Value} {q : vw_C} (hK : va_K D vwCl (tysA cA) s) (hX : DX D cA A ad L G S H) (hc : cd ∈ L) (he : dce cA ad G S cd = .inr (ci, fs)) (hcl : vwCl[ci]? = some q) : ∃ cellB : Cell, H[ad cd]? = some cellB ∧ cellB.vm.isStatics = false ∧ s.vm.findClass q.1 = some cellB.cls := by
  obtain ⟨k0, -, h2⟩ := wl_get (ad := ad) (ce := dce cA ad G S) hc
  rw [he] at h2
  exact va_recv (q0 := k0) (ci := ci) hK hX.1 hcl h2
end DRW
section DCL
variable {p : Program} {l : Launch} {e : Env} {h0 mc0 ms0 : Nat} {s : State} {m : MethodId} {args : Array Value} {below : List Frame} {meth : Method} {c : Code} {H : Heap} {locs : List Loc} {Q : State → Prop}
variable {cc bytes : ByteArray} {pc nL maxL index n h : Nat} {ls : Array Slot} {D : va_G} {cA : Nat → ClassId} {A : Nat → Prop} {ad : Cd → Nat} {L : List Cd} {G : Gt} {S S' : St} {H0 : Heap} {own C : String} {w0 : Cond} {y : MethodName} {ret : Option FieldType} {As rest : List Value}
theorem dVx {x : Value} {cd : Cd} {ci : Nat} {fs : List Value} {T : u_T} {N : Nat} (hC : CallFix p m c cc nL s args (w0 :: ALL) own) (hM : Ct l D cA A y bytes maxL ret h 0 0 (.ref (ad cd) :: As) (DX D cA A ad L G S) (some x) (DX D cA A ad L G S')) (q : VWv C y bytes maxL ret n) (hlink : Cond.methodLink own index y ∈ ALL) (hR : h + 1 ≤ h0) (hX : DX D cA A ad L G S H) (hK : KX D cA s) (hc : cd ∈ L) (he : dce cA ad G S cd = .inr (ci, fs)) (hcl : vwCl[ci]? = some (C, T, N)) (hn : As.length = n) (hl : ls.size = nL) (hrest : (rest.map fun v => v.category).sum ≤ 8) (hdg : decode cc pc = .ok (.invokevirtual index, 3)) (hS : va_S A H0 H locs)
    (kk : ∀ (H1 : Heap) (locs1 : List Loc), DX D cA A ad L G S' H1 → va_S A H0 H1 locs1 → W p l e (RM h0 mc0 ms0) s m args below meth c H1 locs1 0 0 Q (F0 m (pc + 3) ls (x :: rest))) : W p l e (RM h0 mc0 ms0) s m args below meth c H locs 0 0 Q (F0 m pc ls (As.reverse ++ .ref (ad cd) :: rest)) :=
  Ct_V (C := C) hC hM q.1 (q.2.2.2.2.1.1 ▸ q.2.1) hlink q.2.2.1 q.2.2.2.1 q.2.2.2.2.1.2 ⟨hR, q.2.2.2.2.2⟩ (drec hK.1 hX hc he hcl) hX hK hn hl hrest hdg ⟨Nat.zero_le _, Nat.zero_le _⟩ hS (fun _ h => h) (fun H1 locs1 hX1 _ _ hS1 => kk H1 locs1 hX1 hS1)
theorem dSx {x : Value} (hC : CallFix p m c cc nL s args (w0 :: ALL) own) (hM : Ct l D cA A y bytes maxL ret h 0 0 As (DX D cA A ad L G S) (some x) (DX D cA A ad L G S')) (q : VWs y bytes maxL ret n) (hlink : Cond.methodLink own index y ∈ ALL) (hR : h + 1 ≤ h0) (hX : DX D cA A ad L G S H) (hK : KX D cA s) (hn : As.length = n) (hl : ls.size = nL) (hrest : (rest.map fun v => v.category).sum ≤ 8) (hdg : decode cc pc = .ok (.invokestatic index, 3)) (hS : va_S A H0 H locs)
    (kk : ∀ (H1 : Heap) (locs1 : List Loc), DX D cA A ad L G S' H1 → va_S A H0 H1 locs1 → W p l e (RM h0 mc0 ms0) s m args below meth c H1 locs1 0 0 Q (F0 m (pc + 3) ls (x :: rest))) : W p l e (RM h0 mc0 ms0) s m args below meth c H locs 0 0 Q (F0 m pc ls (As.reverse ++ rest)) :=
  Ct_S hC hM q.1 q.2.1 hlink q.2.2.1 q.2.2.2.1 ⟨hR, q.2.2.2.2⟩ hX hK hn hl hrest hdg ⟨Nat.zero_le _, Nat.zero_le _⟩ hS (fun _ h => h) (fun H1 locs1 hX1 _ _ hS1 => kk H1 locs1 hX1 hS1)
theorem dUx {x : Value} {owner : String} {xn : MethodName} {cd : Cd} {ci : Nat} {fs : List Value} {T : u_T} {N : Nat} (hC : CallFix p m c cc nL s args (w0 :: ALL) own) (hM : Ct l D cA A y bytes maxL ret h 0 0 (.ref (ad cd) :: As) (DX D cA A ad L G S) (some x) (DX D cA A ad L G S')) (q : VWu C owner xn y bytes maxL ret n) (hdecl : va_Decl s ⟨owner, xn.name, xn.desc⟩) (hlink : Cond.methodLink own index xn ∈ ALL) (hR : h + 1 ≤ h0) (hX : DX D cA A ad L G S H) (hK : KX D cA s) (hc : cd ∈ L) (he : dce cA ad G S cd = .inr (ci, fs)) (hcl : vwCl[ci]? = some (C, T, N)) (hn : As.length = n) (hl : ls.size = nL) (hrest : (rest.map fun v => v.category).sum ≤ 8) (hdg : decode cc pc = .ok (.invokevirtual index, 3)) (hS : va_S A H0 H locs)
    (kk : ∀ (H1 : Heap) (locs1 : List Loc), DX D cA A ad L G S' H1 → va_S A H0 H1 locs1 → W p l e (RM h0 mc0 ms0) s m args below meth c H1 locs1 0 0 Q (F0 m (pc + 3) ls (x :: rest))) : W p l e (RM h0 mc0 ms0) s m args below meth c H locs 0 0 Q (F0 m pc ls (As.reverse ++ .ref (ad cd) :: rest)) :=
  Ct_U (C := C) hC hM q hdecl hlink hR (drec hK.1 hX hc he hcl) hX hK hn hl hrest hdg ⟨Nat.zero_le _, Nat.zero_le _⟩ hS (fun _ h => h) (fun H1 locs1 hX1 _ _ hS1 => kk H1 locs1 hX1 hS1)
theorem dVv {cd : Cd} {ci : Nat} {fs : List Value} {T : u_T} {N : Nat} (hC : CallFix p m c cc nL s args (w0 :: ALL) own) (hM : Ct l D cA A y bytes maxL ret h 0 0 (.ref (ad cd) :: As) (DX D cA A ad L G S) none (DX D cA A ad L G S')) (q : VWv C y bytes maxL ret n) (hlink : Cond.methodLink own index y ∈ ALL) (hR : h + 1 ≤ h0) (hX : DX D cA A ad L G S H) (hK : KX D cA s) (hc : cd ∈ L) (he : dce cA ad G S cd = .inr (ci, fs)) (hcl : vwCl[ci]? = some (C, T, N)) (hn : As.length = n) (hl : ls.size = nL) (hrest : (rest.map fun v => v.category).sum ≤ 8) (hdg : decode cc pc = .ok (.invokevirtual index, 3)) (hS : va_S A H0 H locs)
    (kk : ∀ (H1 : Heap) (locs1 : List Loc), DX D cA A ad L G S' H1 → va_S A H0 H1 locs1 → W p l e (RM h0 mc0 ms0) s m args below meth c H1 locs1 0 0 Q (F0 m (pc + 3) ls (rest))) : W p l e (RM h0 mc0 ms0) s m args below meth c H locs 0 0 Q (F0 m pc ls (As.reverse ++ .ref (ad cd) :: rest)) :=
  Ct_V (C := C) hC hM q.1 (q.2.2.2.2.1.1 ▸ q.2.1) hlink q.2.2.1 q.2.2.2.1 q.2.2.2.2.1.2 ⟨hR, q.2.2.2.2.2⟩ (drec hK.1 hX hc he hcl) hX hK hn hl hrest hdg ⟨Nat.zero_le _, Nat.zero_le _⟩ hS (fun _ h => h) (fun H1 locs1 hX1 _ _ hS1 => kk H1 locs1 hX1 hS1)
theorem dSv (hC : CallFix p m c cc nL s args (w0 :: ALL) own) (hM : Ct l D cA A y bytes maxL ret h 0 0 As (DX D cA A ad L G S) none (DX D cA A ad L G S')) (q : VWs y bytes maxL ret n) (hlink : Cond.methodLink own index y ∈ ALL) (hR : h + 1 ≤ h0) (hX : DX D cA A ad L G S H) (hK : KX D cA s) (hn : As.length = n) (hl : ls.size = nL) (hrest : (rest.map fun v => v.category).sum ≤ 8) (hdg : decode cc pc = .ok (.invokestatic index, 3)) (hS : va_S A H0 H locs)
    (kk : ∀ (H1 : Heap) (locs1 : List Loc), DX D cA A ad L G S' H1 → va_S A H0 H1 locs1 → W p l e (RM h0 mc0 ms0) s m args below meth c H1 locs1 0 0 Q (F0 m (pc + 3) ls (rest))) : W p l e (RM h0 mc0 ms0) s m args below meth c H locs 0 0 Q (F0 m pc ls (As.reverse ++ rest)) :=
  Ct_S hC hM q.1 q.2.1 hlink q.2.2.1 q.2.2.2.1 ⟨hR, q.2.2.2.2⟩ hX hK hn hl hrest hdg ⟨Nat.zero_le _, Nat.zero_le _⟩ hS (fun _ h => h) (fun H1 locs1 hX1 _ _ hS1 => kk H1 locs1 hX1 hS1)
theorem dUv {owner : String} {xn : MethodName} {cd : Cd} {ci : Nat} {fs : List Value} {T : u_T} {N : Nat} (hC : CallFix p m c cc nL s args (w0 :: ALL) own) (hM : Ct l D cA A y bytes maxL ret h 0 0 (.ref (ad cd) :: As) (DX D cA A ad L G S) none (DX D cA A ad L G S')) (q : VWu C owner xn y bytes maxL ret n) (hdecl : va_Decl s ⟨owner, xn.name, xn.desc⟩) (hlink : Cond.methodLink own index xn ∈ ALL) (hR : h + 1 ≤ h0) (hX : DX D cA A ad L G S H) (hK : KX D cA s) (hc : cd ∈ L) (he : dce cA ad G S cd = .inr (ci, fs)) (hcl : vwCl[ci]? = some (C, T, N)) (hn : As.length = n) (hl : ls.size = nL) (hrest : (rest.map fun v => v.category).sum ≤ 8) (hdg : decode cc pc = .ok (.invokevirtual index, 3)) (hS : va_S A H0 H locs)
    (kk : ∀ (H1 : Heap) (locs1 : List Loc), DX D cA A ad L G S' H1 → va_S A H0 H1 locs1 → W p l e (RM h0 mc0 ms0) s m args below meth c H1 locs1 0 0 Q (F0 m (pc + 3) ls (rest))) : W p l e (RM h0 mc0 ms0) s m args below meth c H locs 0 0 Q (F0 m pc ls (As.reverse ++ .ref (ad cd) :: rest)) :=
  Ct_U (C := C) hC hM q hdecl hlink hR (drec hK.1 hX hc he hcl) hX hK hn hl hrest hdg ⟨Nat.zero_le _, Nat.zero_le _⟩ hS (fun _ h => h) (fun H1 locs1 hX1 _ _ hS1 => kk H1 locs1 hX1 hS1)
end DCL
theorem vp_lt {i : Int32} {n j : Nat} (h : vp_in i n) (e : i.toNatClampNeg = j) : j < n := by
  subst e
  exact Nat.not_le.mp fun q => h (Or.inr q)
theorem oid_nI {u : Nat} (h : u < 2 ^ 31) : oid (nI u) = some u := by
  unfold oid
  rw [if_neg (nI_pos h), nI_clamp h]
def ushr (x y : Int32) : Int32 := (x.toUInt32 >>> (y.toUInt32 &&& Int32.toUInt32 31)).toInt32
theorem amin_code : Cond.code Lib.Math.min.name Lib.Math.min.code 2 (some .int) ∈ ALL := inA 235 (by decide +kernel) (by decide +kernel)
theorem amin_static : Cond.static Lib.Math.min.name ∈ ALL := inA 234 (by decide +kernel) (by decide +kernel)
theorem amin_init : Cond.initialized "java/lang/Math" ∈ ALL := inA 28 (by decide +kernel) (by decide +kernel)
theorem amin_X4 : Cond.methodLink RX4 33 Lib.Math.min.name ∈ ALL := inA 233 (by decide +kernel) (by decide +kernel)
theorem amin_X8 : Cond.methodLink RX8 76 Lib.Math.min.name ∈ ALL := inA 491 (by decide +kernel) (by decide +kernel)
theorem amin_X10 : Cond.methodLink RX10 279 Lib.Math.min.name ∈ ALL := inA 980 (by decide +kernel) (by decide +kernel)
section DOP
variable {p : Program} {l : Launch} {e : Env} {R : Room} {s : State} {m : MethodId} {args : Array Value} {below : List Frame} {meth : Method} {c : Code} {H : Heap} {locs : List Loc} {cells slots : Nat} {Q : State → Prop}
variable {cc : ByteArray} {pc nL index : Nat} {ls : Array Slot} {rest : List Value} {D : va_G} {cA : Nat → ClassId} {A : Nat → Prop} {ad : Cd → Nat} {L : List Cd} {G : Gt} {S : St} {w0 : Cond} {H0 : Heap} {nt nv : Nat} {X' : Heap → Prop}
theorem lv_aloadO_n {kd : Nat} {o : Option Nat} (hx : p.tables.exec = Jvm.exec) (hb : c.code = cc) {k : Fin 4} {i : Nat} (hdg : decode cc pc = .ok (.aload_n k, 1)) (hi : (k : Nat) = i) (hl : ls[i]? = some (.val (rO ad kd o)))
    (kk : W p l e R s m args below meth c H locs cells slots Q (F0 m (pc + 1) ls (rO ad kd o :: rest))) : W p l e R s m args below meth c H locs cells slots Q (F0 m pc ls rest) := by
  cases o with
  | none => exact lv_aload_nN hx hb hdg hi hl kk
  | some u => exact lv_aload_n hx hb hdg hi hl kk
theorem lv_aloadO {kd : Nat} {o : Option Nat} (hx : p.tables.exec = Jvm.exec) (hb : c.code = cc) {i : Nat} (hdg : decode cc pc = .ok (.aload i, 2)) (hl : ls[i]? = some (.val (rO ad kd o)))
    (kk : W p l e R s m args below meth c H locs cells slots Q (F0 m (pc + 2) ls (rO ad kd o :: rest))) : W p l e R s m args below meth c H locs cells slots Q (F0 m pc ls rest) := by
  cases o with
  | none => exact lv_aloadN hx hb hdg hl kk
  | some u => exact lv_aload hx hb hdg hl kk
theorem lv_astoreO_n {kd : Nat} {o : Option Nat} (hx : p.tables.exec = Jvm.exec) (hb : c.code = cc) {k : Fin 4} {i nL : Nat} {lv lv' : List (Nat × Value)} (hdg : decode cc pc = .ok (.astore_n k, 1)) (hi : (k : Nat) = i) (h : lv_has ls nL lv) (hn : i < nL) (hl : (i, rO ad kd o) :: lv.filter (fun q => !(q.1 == i) && !(q.1 + 1 == i && q.2.category == 2)) = lv')
    (kk : ∀ ls' : Array Slot, lv_has ls' nL lv' → W p l e R s m args below meth c H locs cells slots Q (F0 m (pc + 1) ls' rest)) : W p l e R s m args below meth c H locs cells slots Q (F0 m pc ls (rO ad kd o :: rest)) := by
  cases o with
  | none => exact lv_astore_nN hx hb hdg hi h hn hl kk
  | some u => exact lv_astore_n hx hb hdg hi h hn hl kk
theorem lv_astoreO {kd : Nat} {o : Option Nat} (hx : p.tables.exec = Jvm.exec) (hb : c.code = cc) {i nL : Nat} {lv lv' : List (Nat × Value)} (hdg : decode cc pc = .ok (.astore i, 2)) (h : lv_has ls nL lv) (hn : i < nL) (hl : (i, rO ad kd o) :: lv.filter (fun q => !(q.1 == i) && !(q.1 + 1 == i && q.2.category == 2)) = lv')
    (kk : ∀ ls' : Array Slot, lv_has ls' nL lv' → W p l e R s m args below meth c H locs cells slots Q (F0 m (pc + 2) ls' rest)) : W p l e R s m args below meth c H locs cells slots Q (F0 m pc ls (rO ad kd o :: rest)) := by
  cases o with
  | none => exact lv_astoreN hx hb hdg h hn hl kk
  | some u => exact lv_astore hx hb hdg h hn hl kk
theorem Ct_ro {kd : Nat} {o : Option Nat} {C : String} (hx : p.tables.exec = Jvm.exec) (hb : c.code = cc) (hr : meth.sig.returnType = some (.object C)) (hlocks : meth.locks = false) (hX : X' H) (hS : va_S A s.heap H locs) (hdg : decode cc pc = .ok (.areturn, 1)) :
    W p l e R s m args below meth c H locs cells slots (MQ below (CtQ A (some (rO ad kd o)) X') args s cells slots A) (F0 m pc ls [rO ad kd o]) :=
  W.aret hx hb hr (Or.inl ⟨C, rfl⟩) (by cases o with | none => exact Or.inl rfl | some a => exact Or.inr ⟨_, rfl⟩) (fun t ht _ => ⟨⟨rfl, by rw [ht]; exact hX⟩, hS.F ht⟩) hS.2.2 hdg hlocks
theorem up_at {kd n j : Nat} {x : Int32} (hn : x.toNatClampNeg = j) (hj : j < 100) : va_up (fun k => if k < x.toNatClampNeg then some (ad (kd, k)) else none) j (some (ad (kd, j))) = fun k => if k < (nI (j + 1)).toNatClampNeg then some (ad (kd, k)) else none := by
  funext k
  rw [nI_clamp (by omega), hn]
  unfold va_up
  by_cases h : k = j
  · subst h; rw [if_pos rfl, if_pos (by omega)]
  · rw [if_neg h]
    show (if k < j then some (ad (kd, k)) else none) = _
    by_cases h2 : k < j
    · rw [if_pos h2, if_pos (by omega)]
    · rw [if_neg h2, if_neg (by omega)]
theorem dast55 {u : Nat} (hx : p.tables.exec = Jvm.exec) (hb : c.code = cc) (hKX : KX D cA s) (hX : DX D cA A ad L G S H) (hS : va_S A H0 H locs) (hG : WF L G nt nv) (hu : u < nv) {i : Int32} {j : Nat} (h2 : (S.1 55).toNatClampNeg = j ∧ u = j) (hin : vp_in i 10) (hj : i.toNatClampNeg = j) (hdg : decode cc pc = .ok (.aastore, 1))
    (kk : ∀ (H1 : Heap) (locs1 : List Loc), DX D cA A ad L G (w1 S 55 (nI (j + 1))) H1 → va_S A H0 H1 locs1 → W p l e R s m args below meth c H1 locs1 cells slots Q (F0 m (pc + 1) ls rest)) : W p l e R s m args below meth c H locs cells slots Q (F0 m pc ls (.ref (ad (4, u)) :: .int i :: .ref (ad (5, 2)) :: rest)) := by
  obtain ⟨hn, rfl⟩ := h2
  obtain ⟨k0, h1, h2⟩ := wl_get (ad := ad) (ce := dce cA ad G S) (hG.F 2 (by decide))
  obtain ⟨k1, -, h4⟩ := wl_get (ad := ad) (ce := dce cA ad G S) (hG.V hu)
  have hlt : u < 10 := Nat.lt_of_lt_of_le hu hG.1.2
  have key : ∀ (H1 : Heap) (locs1 : List Loc), va_P D vwCl ((wl L ad (dce cA ad G S)).set k0 (ad (5, 2), .inl (cA 4, 10, .inr (.inr (.inr (.inr (va_up (fun k => if k < (S.1 55).toNatClampNeg then some (ad (4, k)) else none) i.toNatClampNeg (some (ad (4, u)))))))))) H1 → va_D A ((wl L ad (dce cA ad G S)).set k0 (ad (5, 2), .inl (cA 4, 10, .inr (.inr (.inr (.inr (va_up (fun k => if k < (S.1 55).toNatClampNeg then some (ad (4, k)) else none) i.toNatClampNeg (some (ad (4, u)))))))))) → va_S A H0 H1 locs1 → W p l e R s m args below meth c H1 locs1 cells slots Q (F0 m (pc + 1) ls rest) := by
    intro H1 locs1 hP hD hS1
    refine kk H1 locs1 ?_ hS1
    rw [hj, up_at (n := 0) hn (by omega), wl_set hX.2 h1] at hP hD
    refine HP.cong ⟨hP, hD⟩ (fun c hc => ?_)
    by_cases h : c = (5, 2)
    · subst h
      simp only [if_true, dce, w1_eq]
    · simp only [h, if_false]
      exact dce_w1 hG c hc h
  rcases hG.K hu with q | q | q | q
  · rw [dce_V1 q] at h4
    exact va_astqO (tys := tysA cA) (r := (RX2, TX2, 11)) (E := "Lensbench$View") hx hb hKX.1 hX.1 hX.2 hS k0 4 k1 1 h2 rfl hKX.2.2.2.1.1 h4 rfl hin hdg key
  · rw [dce_V2 q] at h4
    exact va_astqO (tys := tysA cA) (r := (RX3, TX3, 11)) (E := "Lensbench$View") hx hb hKX.1 hX.1 hX.2 hS k0 4 k1 2 h2 rfl hKX.2.2.2.1.2.1 h4 rfl hin hdg key
  · rw [dce_V4 q] at h4
    exact va_astqO (tys := tysA cA) (r := (RX5, TX5, 12)) (E := "Lensbench$View") hx hb hKX.1 hX.1 hX.2 hS k0 4 k1 4 h2 rfl hKX.2.2.2.1.2.2.1 h4 rfl hin hdg key
  · rw [dce_V6 q] at h4
    exact va_astqO (tys := tysA cA) (r := (RX7, TX7, 9)) (E := "Lensbench$View") hx hb hKX.1 hX.1 hX.2 hS k0 4 k1 6 h2 rfl hKX.2.2.2.1.2.2.2 h4 rfl hin hdg key
theorem dast56 {u : Nat} (hx : p.tables.exec = Jvm.exec) (hb : c.code = cc) (hKX : KX D cA s) (hX : DX D cA A ad L G S H) (hS : va_S A H0 H locs) (hG : WF L G nt nv) (hu : u < nt) {i : Int32} {j : Nat} (h2 : (S.1 56).toNatClampNeg = j ∧ u = j) (hin : vp_in i 3) (hj : i.toNatClampNeg = j) (hdg : decode cc pc = .ok (.aastore, 1))
    (kk : ∀ (H1 : Heap) (locs1 : List Loc), DX D cA A ad L G (w1 S 56 (nI (j + 1))) H1 → va_S A H0 H1 locs1 → W p l e R s m args below meth c H1 locs1 cells slots Q (F0 m (pc + 1) ls rest)) : W p l e R s m args below meth c H locs cells slots Q (F0 m pc ls (.ref (ad (2, u)) :: .int i :: .ref (ad (5, 1)) :: rest)) := by
  obtain ⟨hn, rfl⟩ := h2
  obtain ⟨k0, h1, h2⟩ := wl_get (ad := ad) (ce := dce cA ad G S) (hG.F 1 (by decide))
  obtain ⟨k1, -, h4⟩ := wl_get (ad := ad) (ce := dce cA ad G S) (hG.T hu)
  have hlt : u < 3 := Nat.lt_of_lt_of_le hu hG.1.1
  refine va_astq (tys := tysA cA) (r := (RX6, TX6, 5)) hx hb hKX.1 hX.1 hX.2 hS k0 3 k1 5 h2 rfl h4 rfl hin hdg (fun H1 locs1 hP hD hS1 => kk H1 locs1 ?_ hS1)
  rw [hj, up_at (n := 0) hn (by omega), wl_set hX.2 h1] at hP hD
  refine HP.cong ⟨hP, hD⟩ (fun c hc => ?_)
  by_cases h : c = (5, 1)
  · subst h
    simp only [if_true, dce, w1_eq]
  · simp only [h, if_false]
    exact dce_w1 hG c hc h
end DOP
