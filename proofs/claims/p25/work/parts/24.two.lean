/-! ===== both pictures: the class's and the law's arrays; the third number counts calls that may throw ===== -/
abbrev Tt : Type := Cs × Lt × Nat
def tw (T : Tt) (k i : Nat) (v : Int32) : Tt := (T.1, w3 T.2.1 k i v, T.2.2)
def tm (T : Tt) (M : Lt) : Tt := (T.1, M, T.2.2)
def tm1 (T : Tt) (M : Lt) : Tt := (T.1, M, T.2.2 + 1)
def tc (T : Tt) (C : Cs) : Tt := (C, T.2.1, T.2.2 + 1)
def tn (T T1 : Tt) (n : Nat) : Tt := (T1.1, T1.2.1, T.2.2 + n)
abbrev AB (A B : Nat → Prop) : Nat → Prop := fun q => A q ∨ B q
def ZX (D : va_G) (cA : Nat → ClassId) (A B : Nat → Prop) (x0 : Nat) (ad : Nat → Nat) (T : Tt) (H : Heap) : Prop := CX D cA A x0 T.1 H ∧ LX D cA B La ad T.2.1 H
theorem AX.keptA {D : va_G} {cA : Nat → ClassId} {A B : Nat → Prop} {x0 : Nat} {S : St} {G : Gt} {nt nv : Nat} {H H1 : Heap} (h : AX D cA A x0 S G nt nv H) (hAB : ∀ q, A q → ¬ B q) (hq : ∀ q : Nat, q < H.size → ¬ B q → H1[q]? = H[q]?) : AX D cA A x0 S G nt nv H1 := by
  obtain ⟨ad, L, h1, h2⟩ := h
  exact ⟨ad, L, HP.keptA h1 hAB hq, h2⟩
theorem va_D.re {A B : Nat → Prop} {ws : va_W} (h : va_D A ws) (hB : ∀ (k : Nat) (q : Nat × va_E), ws[k]? = some q → B q.1) : va_D B ws := ⟨h.1, hB⟩
theorem va_D.join {A B : Nat → Prop} {w1 w2 : va_W} (h1 : va_D A w1) (h2 : va_D B w2) (hAB : ∀ q, A q → ¬ B q) : va_D (AB A B) (w1 ++ w2) := by
  refine ⟨?_, ?_⟩
  · intro i j x y hx hy hxy
    rw [List.getElem?_append] at hx hy
    split at hx
    · split at hy
      · exact h1.1 i j x y hx hy hxy
      · have z := h1.2 _ _ hx
        have z2 := h2.2 _ _ hy
        rw [hxy] at z
        exact absurd z2 (hAB _ z)
    · split at hy
      · have z := h2.2 _ _ hx
        have z2 := h1.2 _ _ hy
        rw [hxy] at z
        exact absurd z (hAB _ z2)
      · have z := h2.1 _ _ x y hx hy hxy
        omega
  · intro k x hx
    rw [List.getElem?_append] at hx
    split at hx
    · exact Or.inl (h1.2 k x hx)
    · exact Or.inr (h2.2 _ x hx)
def CtT (l : Launch) (D : va_G) (cA : Nat → ClassId) (A B : Nat → Prop) (y : MethodName) (cc : ByteArray) (maxL : Nat) (ret : Option FieldType) (h N : Nat) (av : List Value) (x0 : Nat) (ad : Nat → Nat) (T : Tt) (r : Int32) (T' : Tt) : Prop :=
  Met l y (Cond.code y cc maxL ret :: ALL) (RM h (20 * N) (200 * N)) (CtPW D cA (AB A B) av (fun H => ZX D cA A B x0 ad T H ∧ ∀ q : Nat, H.size ≤ q → A q)) (CtQ (AB A B) (some (.int r)) (ZX D cA A B x0 ad T')) (20 * N) (200 * N) (AB A B)
theorem CtT_of {l : Launch} {D : va_G} {cA : Nat → ClassId} {A B : Nat → Prop} {y : MethodName} {cc : ByteArray} {maxL : Nat} {ret : Option FieldType} {h N : Nat} {av : List Value} {x0 : Nat} {ad : Nat → Nat} {T T' : Tt} {r : Int32}
    (hy : plainName y.cls = true) (hn : (lg_sl av).length ≤ maxL)
    (body : ∀ (p : Program) (e : Env) (s : State) (m : MethodId) (args : Array Value) (below : List Frame) (meth : Method) (c : Code) (ls : Array Slot), CallFix p m c cc maxL s args (Cond.code y cc maxL ret :: ALL) y.cls → meth.sig.returnType = ret → meth.locks = false → ZX D cA A B x0 ad T s.heap → (∀ q : Nat, s.heap.size ≤ q → A q) → KX D cA s → TX (AB A B) s → NX s → lv_has ls maxL (lv_args 0 av) →
      W p l e (RM h (20 * N) (200 * N)) s m args below meth c s.heap [] 0 0 (MQ below (CtQ (AB A B) (some (.int r)) (ZX D cA A B x0 ad T')) args s (20 * N) (200 * N) (AB A B)) (F0 m 0 ls [])) : CtT l D cA A B y cc maxL ret h N av x0 ad T r T' := by
  refine Met.ofW (cc := cc) (maxL := maxL) (ret := ret) hy rfl ?_
  intro p e s m args below meth c s₁ B9 hml hv
  obtain ⟨rfl, hX, hK, hT, hN⟩ := hv
  have hts := atoms_spec (ws := Cond.code y cc maxL ret :: ALL) B9.pre
  have hown : s.vm.findClass y.cls = some m.cls := findClass_of_methodNamed B9.named
  have hl := lv_entry av (n := maxL) hn
  rw [lg_entry_eq]
  exact body p e s m _ below meth c _ ⟨B9.exec, B9.bytes, hml, hown, hts⟩ B9.returns B9.notSynchronized hX.1 hX.2 hK hT hN hl
section TRW
variable {p : Program} {l : Launch} {e : Env} {R : Room} {s : State} {m : MethodId} {args : Array Value} {below : List Frame} {meth : Method} {c : Code} {H : Heap} {locs : List Loc} {cells slots : Nat} {Q : State → Prop}
variable {cc bytes : ByteArray} {pc nL maxL index n h N : Nat} {ls : Array Slot} {As rest : List Value} {D : va_G} {cA : Nat → ClassId} {A B A0 : Nat → Prop} {x0 : Nat} {ad : Nat → Nat} {T T' : Tt} {w0 : Cond} {own : String} {y : MethodName} {ret : Option FieldType} {hh : List (Nat × Nat × Nat × Nat)}
theorem tald {a : Nat} (hx : p.tables.exec = Jvm.exec) (hb : c.code = cc) (hK : va_K D vwCl (tysA cA) s) (hX : ZX D cA A B x0 ad T H) (ha : a ∈ La) {i : Int32} {j : Nat} (hin : vp_in i (llen a)) (hj : i.toNatClampNeg = j) (hdg : decode cc pc = .ok (.iaload, 1))
    (kk : W p l e R s m args below meth c H locs cells slots Q (F0 m (pc + 1) ls (.int (T.2.1 a j) :: rest))) : W p l e R s m args below meth c H locs cells slots Q (F0 m pc ls (.int i :: .ref (ad a) :: rest)) :=
  lald hx hb hK hX.2 ha hin hj hdg kk
theorem tasv {a : Nat} (hx : p.tables.exec = Jvm.exec) (hb : c.code = cc) (hAB : ∀ q, A q → ¬ B q) (hK : va_K D vwCl (tysA cA) s) (hX : ZX D cA A B x0 ad T H) (hS : va_S (AB A B) s.heap H locs) (ha : a ∈ La) {i x : Int32} {j : Nat} (hin : vp_in i (llen a)) (hj : i.toNatClampNeg = j) (hdg : decode cc pc = .ok (.iastore, 1))
    (kk : ∀ (H1 : Heap) (locs1 : List Loc), ZX D cA A B x0 ad (tw T a j x) H1 → va_S (AB A B) s.heap H1 locs1 → W p l e R s m args below meth c H1 locs1 (20 * (tw T a j x).2.2) (200 * (tw T a j x).2.2) Q (F0 m (pc + 1) ls rest)) : W p l e R s m args below meth c H locs (20 * T.2.2) (200 * T.2.2) Q (F0 m pc ls (.int x :: .int i :: .ref (ad a) :: rest)) := by
  obtain ⟨⟨adc, L, hC, hG, hE, h0⟩, hL⟩ := hX
  obtain ⟨k, h1, h2⟩ := wl_get (ad := ad) (ce := lce cA T.2.1) ha
  subst hj
  have hat : (wl L adc (dce cA adc T.1.2.1 T.1.1) ++ wl La ad (lce cA T.2.1))[(wl L adc (dce cA adc T.1.2.1 T.1.1)).length + k]? = some (ad a, lce cA T.2.1 a) := by
    rw [List.getElem?_append_right (Nat.le_add_right _ _), Nat.add_sub_cancel_left]
    exact h2
  refine va_iast (tys := tysA cA) (A := AB A B) (ws := wl L adc (dce cA adc T.1.2.1 T.1.1) ++ wl La ad (lce cA T.2.1)) hx hb hK (va_P.app hC.1 hL.1) (va_D.join hC.2 hL.2 hAB) hS _ 0 hat rfl hin hdg (fun H1 locs1 hP1 hD1 hS1 => ?_)
  rw [List.set_append_right _ _ (Nat.le_add_right _ _), Nat.add_sub_cancel_left, wl_set hL.2 h1] at hP1
  have hP2 : va_P D vwCl (wl La ad (fun d => if d = a then (.inl (cA 0, llen a, .inl (upd (T.2.1 a) i.toNatClampNeg x)) : va_E) else lce cA T.2.1 d)) H1 := fun k z hz => hP1 ((wl L adc (dce cA adc T.1.2.1 T.1.1)).length + k) z (by
    rw [List.getElem?_append_right (Nat.le_add_right _ _), Nat.add_sub_cancel_left]
    exact hz)
  have hD2 := hL.2
  have hP3 : va_P D vwCl (wl L adc (dce cA adc T.1.2.1 T.1.1)) H1 := fun k z hz => hP1 k z (by
    rw [List.getElem?_append_left (List.getElem?_eq_some_iff.mp hz).1]
    exact hz)
  refine kk H1 locs1 ⟨⟨adc, L, ⟨hP3, hC.2⟩, hG, hE, h0⟩, HP.cong ⟨hP2, ?_⟩ (lX_w3 i.toNatClampNeg x)⟩ hS1
  refine ⟨fun i j x y hx hy hxy => ?_, fun k z hz => ?_⟩
  · rw [List.getElem?_map] at hx hy
    obtain ⟨c1, z1, rfl⟩ := Option.map_eq_some_iff.mp hx
    obtain ⟨c2, z2, rfl⟩ := Option.map_eq_some_iff.mp hy
    exact hD2.1 i j _ _ (wl_at z1) (wl_at z2) hxy
  · rw [List.getElem?_map] at hz
    obtain ⟨c1, z1, rfl⟩ := Option.map_eq_some_iff.mp hz
    exact hD2.2 k (ad c1, lce cA T.2.1 c1) (wl_at z1)
theorem CX.keptA {C : Cs} {H1 : Heap} (h : CX D cA A x0 C H) (hAB : ∀ q, A q → ¬ B q) (hq : ∀ q : Nat, q < H.size → ¬ B q → H1[q]? = H[q]?) : CX D cA A x0 C H1 := AX.keptA h hAB hq
/-- a call of a wrapper -/
theorem tW {z : Int32} {C' : Cs} (hAB : ∀ q, A q → ¬ B q) (hC : CallFix p m c cc nL s args (w0 :: ALL) own) (hM : CtW l D cA A y bytes maxL hh h 20 200 As (fun H => CX D cA A x0 T.1 H ∧ ∀ q : Nat, H.size ≤ q → A q) z (CX D cA A x0 C')) (q : VWw y bytes maxL hh n) (hlink : Cond.methodLink own index y ∈ ALL) (hR : h + 1 ≤ R.frames ∧ 8 + (maxL + 11) + 40 * h ≤ R.locals)
    (hX : ZX D cA A B x0 ad T H) (hAs : ∀ q : Nat, H.size ≤ q → A q) (hK : KX D cA s) (hTX : TX A0 s) (hNX : NX s) (hn : As.length = n) (hl : ls.size = nL) (hrest : (rest.map fun v => v.category).sum ≤ 8) (hdg : decode cc pc = .ok (.invokestatic index, 3)) (hf : 20 * (T.2.2 + 1) ≤ R.cells ∧ 200 * (T.2.2 + 1) ≤ R.slots) (hS : va_S A0 s.heap H locs) (hA : ∀ q, AB A B q → A0 q)
    (kk : ∀ (H1 : Heap) (locs1 : List Loc), ZX D cA A B x0 ad (tc T C') H1 → va_S A0 s.heap H1 locs1 → W p l e R s m args below meth c H1 locs1 (20 * (tc T C').2.2) (200 * (tc T C').2.2) Q (F0 m (pc + 3) ls (.int z :: rest))) :
    W p l e R s m args below meth c H locs (20 * T.2.2) (200 * T.2.2) Q (F0 m pc ls (As.reverse ++ rest)) :=
  Ct_SW hC hM q hlink hR ⟨hX.1, hAs⟩ hK hTX hNX hn hl hrest hdg hf hS (fun q z => hA q (Or.inl z)) (fun H1 locs1 hX1 hz hk hS1 => kk H1 locs1 ⟨hX1, HP.keptA hX.2 (fun q z w => hAB q w z) hk⟩ hS1)
/-- a call of the law's own method over its arrays -/
theorem tSi {z : Int32} {M' : Lt} (hAB : ∀ q, A q → ¬ B q) (hC : CallFix p m c cc nL s args (w0 :: ALL) own) (hM : Ct l D cA B y bytes maxL ret h 0 0 As (LX D cA B La ad T.2.1) (some (.int z)) (LX D cA B La ad M')) (q : VWs y bytes maxL ret n) (hlink : Cond.methodLink own index y ∈ ALL) (hR : h + 1 ≤ R.frames ∧ 8 + (maxL + 11) + 40 * h ≤ R.locals) (hX : ZX D cA A B x0 ad T H) (hK : KX D cA s) (hn : As.length = n) (hl : ls.size = nL) (hrest : (rest.map fun v => v.category).sum ≤ 8) (hdg : decode cc pc = .ok (.invokestatic index, 3)) (hf : 20 * T.2.2 ≤ R.cells ∧ 200 * T.2.2 ≤ R.slots) (hS : va_S A0 s.heap H locs) (hA : ∀ q, AB A B q → A0 q)
    (kk : ∀ (H1 : Heap) (locs1 : List Loc), ZX D cA A B x0 ad (tm T M') H1 → va_S A0 s.heap H1 locs1 → W p l e R s m args below meth c H1 locs1 (20 * (tm T M').2.2) (200 * (tm T M').2.2) Q (F0 m (pc + 3) ls (.int z :: rest))) : W p l e R s m args below meth c H locs (20 * T.2.2) (200 * T.2.2) Q (F0 m pc ls (As.reverse ++ rest)) :=
  Ct_go (va_runS hC hM ⟨mkBR hC q.1 q.2.1 hlink q.2.2.2.1 hR, tA hC.2.2.2.2 q.2.2.1⟩ ⟨CtP_blind, fun U hU hW => ⟨rfl, by rw [hU]; exact hX.2, KX.warm hW hK⟩⟩ rfl hn hl rfl (lv_room hrest) hdg hf) hS (fun q z => hA q (Or.inr z)) (fun H1 locs1 hX1 _ hk hS1 => kk H1 locs1 ⟨CX.keptA hX.1 hAB hk, hX1⟩ hS1)
theorem tSv {M' : Lt} (hAB : ∀ q, A q → ¬ B q) (hC : CallFix p m c cc nL s args (w0 :: ALL) own) (hM : Ct l D cA B y bytes maxL ret h 0 0 As (LX D cA B La ad T.2.1) none (LX D cA B La ad M')) (q : VWs y bytes maxL ret n) (hlink : Cond.methodLink own index y ∈ ALL) (hR : h + 1 ≤ R.frames ∧ 8 + (maxL + 11) + 40 * h ≤ R.locals) (hX : ZX D cA A B x0 ad T H) (hK : KX D cA s) (hn : As.length = n) (hl : ls.size = nL) (hrest : (rest.map fun v => v.category).sum ≤ 8) (hdg : decode cc pc = .ok (.invokestatic index, 3)) (hf : 20 * T.2.2 ≤ R.cells ∧ 200 * T.2.2 ≤ R.slots) (hS : va_S A0 s.heap H locs) (hA : ∀ q, AB A B q → A0 q)
    (kk : ∀ (H1 : Heap) (locs1 : List Loc), ZX D cA A B x0 ad (tm T M') H1 → va_S A0 s.heap H1 locs1 → W p l e R s m args below meth c H1 locs1 (20 * (tm T M').2.2) (200 * (tm T M').2.2) Q (F0 m (pc + 3) ls rest)) : W p l e R s m args below meth c H locs (20 * T.2.2) (200 * T.2.2) Q (F0 m pc ls (As.reverse ++ rest)) :=
  Ct_go (va_runS hC hM ⟨mkBR hC q.1 q.2.1 hlink q.2.2.2.1 hR, tA hC.2.2.2.2 q.2.2.1⟩ ⟨CtP_blind, fun U hU hW => ⟨rfl, by rw [hU]; exact hX.2, KX.warm hW hK⟩⟩ rfl hn hl rfl (lv_room hrest) hdg hf) hS (fun q z => hA q (Or.inr z)) (fun H1 locs1 hX1 _ hk hS1 => kk H1 locs1 ⟨CX.keptA hX.1 hAB hk, hX1⟩ hS1)
theorem LX.re {A1 : Nat → Prop} {M M' : Lt} {H1 : Heap} (h0 : LX D cA B La ad M H) (h : LX D cA A1 La ad M' H1) : LX D cA B La ad M' H1 := ⟨h.1, h.2.re (fun k x hx => by
  rw [List.getElem?_map] at hx
  obtain ⟨c1, z1, rfl⟩ := Option.map_eq_some_iff.mp hx
  exact h0.2.2 k (ad c1, lce cA M c1) (wl_at z1))⟩
/-- the call that makes a row of its own -/
theorem tPut {M' : Lt} (hAB : ∀ q, A q → ¬ B q) (hC : CallFix p m c cc nL s args (w0 :: ALL) own) (hM : ∀ B' : Nat → Prop, Ct l D cA B' y bytes maxL ret h 1 20 As (fun H => LX D cA B' La ad T.2.1 H ∧ ∀ q : Nat, H.size ≤ q → B' q) none (LX D cA B' La ad M')) (q : VWs y bytes maxL ret n) (hlink : Cond.methodLink own index y ∈ ALL) (hR : h + 1 ≤ R.frames ∧ 8 + (maxL + 11) + 40 * h ≤ R.locals) (hX : ZX D cA A B x0 ad T H) (hAs : ∀ q : Nat, H.size ≤ q → A q) (hK : KX D cA s) (hn : As.length = n) (hl : ls.size = nL) (hrest : (rest.map fun v => v.category).sum ≤ 8) (hdg : decode cc pc = .ok (.invokestatic index, 3)) (hf : 20 * (T.2.2 + 1) ≤ R.cells ∧ 200 * (T.2.2 + 1) ≤ R.slots) (hS : va_S A0 s.heap H locs) (hA : ∀ q, AB A B q → A0 q)
    (kk : ∀ (H1 : Heap) (locs1 : List Loc), ZX D cA A B x0 ad (tm1 T M') H1 → va_S A0 s.heap H1 locs1 → W p l e R s m args below meth c H1 locs1 (20 * (tm1 T M').2.2) (200 * (tm1 T M').2.2) Q (F0 m (pc + 3) ls rest)) : W p l e R s m args below meth c H locs (20 * T.2.2) (200 * T.2.2) Q (F0 m pc ls (As.reverse ++ rest)) := by
  have hL1 : LX D cA (fun q => B q ∨ H.size ≤ q) La ad T.2.1 H := ⟨hX.2.1, hX.2.2.re (fun k x hx => Or.inl (hX.2.2.2 k x hx))⟩
  refine Ct_go (va_runS hC (hM (fun q => B q ∨ H.size ≤ q)) ⟨mkBR hC q.1 q.2.1 hlink q.2.2.2.1 hR, tA hC.2.2.2.2 q.2.2.1⟩ ⟨CtP_blind, fun U hU hW => ⟨rfl, by rw [hU]; exact ⟨hL1, fun q z => Or.inr z⟩, KX.warm hW hK⟩⟩ rfl hn hl rfl (lv_room hrest) hdg ⟨by omega, by omega⟩) hS (fun q z => ?_) (fun H1 locs1 hX1 _ hk hS1 => ?_)
  · rcases z with z | z
    · exact hA q (Or.inr z)
    · exact hA q (Or.inl (hAs q z))
  · refine W.widen (k := 20 * (tm1 T M').2.2) (n := 200 * (tm1 T M').2.2) (by show 20 * T.2.2 + 1 ≤ 20 * (T.2.2 + 1); omega) (by show 200 * T.2.2 + 20 ≤ 200 * (T.2.2 + 1); omega) ?_
    refine kk H1 locs1 ⟨?_, LX.re hX.2 hX1⟩ hS1
    obtain ⟨adc, L, hC1, h2⟩ := hX.1
    exact ⟨adc, L, ⟨hC1.1.kept (fun k q9 hk9 => hk _ (hC1.1 k q9 hk9).lt (by
      intro z
      rcases z with z | z
      · exact hAB _ (hC1.2.2 k q9 hk9) z
      · exact absurd (hC1.1 k q9 hk9).lt (Nat.not_lt.mpr z))), hC1.2⟩, h2⟩
/-- a call of a method over both pictures -/
theorem tT {z : Int32} (hC : CallFix p m c cc nL s args (w0 :: ALL) own) (hM : CtT l D cA A B y bytes maxL ret h N As x0 ad (T.1, T.2.1, 0) z T') (q : VWs y bytes maxL ret n) (hlink : Cond.methodLink own index y ∈ ALL) (hR : h + 1 ≤ R.frames ∧ 8 + (maxL + 11) + 40 * h ≤ R.locals)
    (hX : ZX D cA A B x0 ad T H) (hAs : ∀ q : Nat, H.size ≤ q → A q) (hK : KX D cA s) (hTX : TX A0 s) (hNX : NX s) (hn : As.length = n) (hl : ls.size = nL) (hrest : (rest.map fun v => v.category).sum ≤ 8) (hdg : decode cc pc = .ok (.invokestatic index, 3)) (hf : 20 * (T.2.2 + N) ≤ R.cells ∧ 200 * (T.2.2 + N) ≤ R.slots) (hS : va_S A0 s.heap H locs) (hA : ∀ q, AB A B q → A0 q)
    (kk : ∀ (H1 : Heap) (locs1 : List Loc), ZX D cA A B x0 ad (tn T T' N) H1 → va_S A0 s.heap H1 locs1 → W p l e R s m args below meth c H1 locs1 (20 * (tn T T' N).2.2) (200 * (tn T T' N).2.2) Q (F0 m (pc + 3) ls (.int z :: rest))) :
    W p l e R s m args below meth c H locs (20 * T.2.2) (200 * T.2.2) Q (F0 m pc ls (As.reverse ++ rest)) := by
  refine Ct_go (rv := some (.int z)) (va_runS hC hM ⟨mkBR hC q.1 q.2.1 hlink q.2.2.2.1 hR, tA hC.2.2.2.2 q.2.2.1⟩ ⟨CtPW_blind, fun U hU hW => ⟨rfl, by rw [hU]; exact ⟨hX, hAs⟩, KX.warm hW hK, TX.warm hW hU hS hA hTX, NX.warm hW hNX⟩⟩ rfl hn hl rfl (lv_room hrest) hdg ⟨by omega, by omega⟩) hS hA (fun H1 locs1 hX1 _ _ hS1 => ?_)
  refine W.widen (k := 20 * (tn T T' N).2.2) (n := 200 * (tn T T' N).2.2) (by show 20 * T.2.2 + 20 * N ≤ 20 * (T.2.2 + N); omega) (by show 200 * T.2.2 + 200 * N ≤ 200 * (T.2.2 + N); omega) ?_
  exact kk H1 locs1 hX1 hS1
theorem CtT_rz {v : Int32} {k9 n9 : Nat} (hx : p.tables.exec = Jvm.exec) (hb : c.code = cc) (hr : meth.sig.returnType = some .boolean) (hlocks : meth.locks = false) (hv : narrow .boolean (.int v) = .int v) (hX : ZX D cA A B x0 ad T H) (hS : va_S (AB A B) s.heap H locs) (hc : cells ≤ k9) (hs : slots ≤ n9) (hdg : decode cc pc = .ok (.ireturn, 1)) :
    W p l e R s m args below meth c H locs cells slots (MQ below (CtQ (AB A B) (some (.int v)) (ZX D cA A B x0 ad T)) args s k9 n9 (AB A B)) (F0 m pc ls [.int v]) :=
  W.widen hc hs (Ct_rz hx hb hr hlocks hv hX hS hdg)
end TRW
theorem W.eqc {p : Program} {l : Launch} {e : Env} {R : Room} {s : State} {m : MethodId} {args : Array Value} {below : List Frame} {meth : Method} {c : Code} {H : Heap} {locs : List Loc} {c1 s1 c2 s2 : Nat} {Q : State → Prop} {g : JFrame} (hc : c1 = c2) (hs : s1 = s2) (h : W p l e R s m args below meth c H locs c2 s2 Q g) : W p l e R s m args below meth c H locs c1 s1 Q g := by
  rw [hc, hs]
  exact h
