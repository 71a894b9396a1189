/-! ===== the law's arrays: code 0 t, 1 w, 2 v, 3 p, 4 n, 5 q, 6 a, 7 order ===== -/
abbrev Lt : Type := Nat → Nat → Int32
def w3 (M : Lt) (k i : Nat) (v : Int32) : Lt := fun j => if j = k then upd (M k) i v else M j
def aL (M : Lt) : Lt := fun j => if j = 7 then fun _ => 0 else M j
def llen (k : Nat) : Nat := if k = 0 then 6 else if k = 1 then 10 else if k = 2 then 10 else if k = 3 then 10 else if k = 4 then 3 else if k = 5 then 15 else if k = 6 then 7 else 12
def La : List Nat := [0, 1, 2, 3, 4, 5, 6]
def Lb : List Nat := [0, 1, 2, 3, 4, 5, 6, 7]
def lce (cA : Nat → ClassId) (M : Lt) : Nat → va_E := fun c => .inl (cA 0, llen c, .inl (M c))
def LX (D : va_G) (cA : Nat → ClassId) (A : Nat → Prop) (K : List Nat) (ad : Nat → Nat) (M : Lt) (H : Heap) : Prop := HP D A K ad (lce cA M) H
theorem La_b : ∀ c ∈ La, c ∈ Lb := by decide +kernel
theorem La_a : ∀ c ∈ La, c ∈ La := fun _ h => h
section LRW
variable {p : Program} {l : Launch} {e : Env} {R : Room} {s : State} {m : MethodId} {args : Array Value} {below : List Frame} {meth : Method} {c : Code} {H : Heap} {locs : List Loc} {cells slots : Nat} {Q : State → Prop}
variable {cc : ByteArray} {pc nL index : Nat} {ls : Array Slot} {rest : List Value} {D : va_G} {cA : Nat → ClassId} {A : Nat → Prop} {K : List Nat} {ad : Nat → Nat} {M : Lt} {w0 : Cond} {H0 : Heap}
theorem lald {a : Nat} (hx : p.tables.exec = Jvm.exec) (hb : c.code = cc) (hK : va_K D vwCl (tysA cA) s) (hX : LX D cA A K ad M H) (ha : a ∈ K) {i : Int32} {j : Nat} (hin : vp_in i (llen a)) (hj : i.toNatClampNeg = j) (hdg : decode cc pc = .ok (.iaload, 1))
    (kk : W p l e R s m args below meth c H locs cells slots Q (F0 m (pc + 1) ls (.int (M a j) :: rest))) : W p l e R s m args below meth c H locs cells slots Q (F0 m pc ls (.int i :: .ref (ad a) :: rest)) := by
  obtain ⟨k, -, h2⟩ := wl_get (ad := ad) (ce := lce cA M) ha
  subst hj
  exact va_iald (tys := tysA cA) hx hb hK hX.1 k 0 h2 rfl hin hdg kk
theorem lX_w3 {a : Nat} (j : Nat) (x : Int32) : ∀ c, c ∈ K → (fun d => if d = a then (.inl (cA 0, llen a, .inl (upd (M a) j x)) : va_E) else lce cA M d) c = lce cA (w3 M a j x) c := by
  intro c _
  by_cases h : c = a
  · subst h
    simp only [if_true, lce, w3]
  · simp only [h, if_false, lce, w3]
theorem lasv {a : Nat} (hx : p.tables.exec = Jvm.exec) (hb : c.code = cc) (hK : va_K D vwCl (tysA cA) s) (hX : LX D cA A K ad M H) (hS : va_S A H0 H locs) (ha : a ∈ K) {i x : Int32} {j : Nat} (hin : vp_in i (llen a)) (hj : i.toNatClampNeg = j) (hdg : decode cc pc = .ok (.iastore, 1))
    (kk : ∀ (H1 : Heap) (locs1 : List Loc), LX D cA A K ad (w3 M a j x) H1 → va_S A H0 H1 locs1 → W p l e R s m args below meth c H1 locs1 cells slots Q (F0 m (pc + 1) ls rest)) : W p l e R s m args below meth c H locs cells slots Q (F0 m pc ls (.int x :: .int i :: .ref (ad a) :: rest)) := by
  obtain ⟨k, h1, h2⟩ := wl_get (ad := ad) (ce := lce cA M) ha
  subst hj
  refine va_iast (tys := tysA cA) hx hb hK hX.1 hX.2 hS k 0 h2 rfl hin hdg (fun H1 locs1 hP hD hS1 => kk H1 locs1 ?_ hS1)
  rw [wl_set hX.2 h1] at hP hD
  exact HP.cong ⟨hP, hD⟩ (lX_w3 i.toNatClampNeg x)
/-- the row of what waits is made -/
theorem lnew7 (hx : p.tables.exec = Jvm.exec) (hb : c.code = cc) (hcl : Cond.arrayClass .int ∈ ALL) {own : String} (hC : CallFix p m c cc nL s args (w0 :: ALL) own) (hK : va_K D vwCl (tysA cA) s) (hX : LX D cA A La ad M H) (hS : va_S A H0 H locs) (hA : ∀ q, H0.size ≤ q → A q) (hcells : cells + 1 ≤ R.cells) (hslots : slots + 12 ≤ R.slots) (hdg : decode cc pc = .ok (.newarray .int, 2))
    (kk : ∀ (q : Nat) (H1 : Heap), LX D cA A Lb (fun c => if c = 7 then q else ad c) (aL M) H1 → va_S A H0 H1 locs → W p l e R s m args below meth c H1 locs (cells + 1) (slots + 12) Q (F0 m (pc + 2) ls (.ref q :: rest))) : W p l e R s m args below meth c H locs cells slots Q (F0 m pc ls (.int 12 :: rest)) := by
  refine l_newI (n := 12) (N := 12) hx hb hcl hC hK hX.1 hX.2 hS hA (by decide) (by decide) (by decide) hcells hslots hdg (fun q H1 hP hD hS1 => kk q H1 ?_ hS1)
  have e : wl Lb (fun c => if c = 7 then q else ad c) (lce cA (aL M)) = wl La ad (lce cA M) ++ [(q, .inl (cA 0, 12, .inl (fun _ => 0)))] := rfl
  unfold LX HP
  rw [e]
  exact ⟨hP, hD⟩
end LRW
theorem lx_cut {D : va_G} {cA : Nat → ClassId} {A : Nat → Prop} {ad ad0 : Nat → Nat} {M : Lt} {H : Heap} (hag : ∀ c ∈ La, ad c = ad0 c) (h : LX D cA A Lb ad M H) : LX D cA A La ad0 M H := by
  have e : wl Lb ad (lce cA M) = wl La ad0 (lce cA M) ++ [(ad 7, lce cA M 7)] := by
    have e2 : wl La ad0 (lce cA M) = wl La ad (lce cA M) := List.map_congr_left (fun c hc => by rw [hag c hc])
    rw [e2]
    rfl
  unfold LX HP at h ⊢
  rw [e] at h
  have g : ∀ (k : Nat) (x : Nat × va_E), (wl La ad0 (lce cA M))[k]? = some x → (wl La ad0 (lce cA M) ++ [(ad 7, lce cA M 7)])[k]? = some x := fun k x hx => by
    rw [List.getElem?_append_left (List.getElem?_eq_some_iff.mp hx).1]
    exact hx
  exact ⟨fun k x hx => h.1 k x (g k x hx), fun i j x y hx hy => h.2.1 i j x y (g i x hx) (g j y hy), fun k x hx => h.2.2 k x (g k x hx)⟩
section LCL
variable {p : Program} {l : Launch} {e : Env} {h0 mc0 ms0 : Nat} {s : State} {m : MethodId} {args : Array Value} {below : List Frame} {meth : Method} {c : Code} {H : Heap} {locs : List Loc} {cells slots : Nat} {Q : State → Prop}
variable {cc bytes : ByteArray} {pc nL maxL index n h : Nat} {ls : Array Slot} {D : va_G} {cA : Nat → ClassId} {A : Nat → Prop} {K : List Nat} {ad : Nat → Nat} {M M' : Lt} {H0 : Heap} {own : String} {w0 : Cond} {y : MethodName} {ret : Option FieldType} {As rest : List Value}
theorem lSi {z : Int32} (hC : CallFix p m c cc nL s args (w0 :: ALL) own) (hM : Ct l D cA A y bytes maxL ret h 0 0 As (LX D cA A K ad M) (some (.int z)) (LX D cA A K ad M')) (q : VWs y bytes maxL ret n) (hlink : Cond.methodLink own index y ∈ ALL) (hR : h + 1 ≤ h0) (hX : LX D cA A K ad M H) (hK : KX D cA s) (hn : As.length = n) (hl : ls.size = nL) (hrest : (rest.map fun v => v.category).sum ≤ 8) (hdg : decode cc pc = .ok (.invokestatic index, 3)) (hf : cells ≤ mc0 ∧ slots ≤ ms0) (hS : va_S A H0 H locs)
    (kk : ∀ (H1 : Heap) (locs1 : List Loc), LX D cA A K ad M' H1 → va_S A H0 H1 locs1 → W p l e (RM h0 mc0 ms0) s m args below meth c H1 locs1 cells slots Q (F0 m (pc + 3) ls (.int z :: rest))) : W p l e (RM h0 mc0 ms0) s m args below meth c H locs cells slots Q (F0 m pc ls (As.reverse ++ rest)) :=
  Ct_S hC hM q.1 q.2.1 hlink q.2.2.1 q.2.2.2.1 ⟨hR, q.2.2.2.2⟩ hX hK hn hl hrest hdg hf hS (fun _ h => h) (fun H1 locs1 hX1 _ _ hS1 => kk H1 locs1 hX1 hS1)
theorem lSv (hC : CallFix p m c cc nL s args (w0 :: ALL) own) (hM : Ct l D cA A y bytes maxL ret h 0 0 As (LX D cA A K ad M) none (LX D cA A K ad M')) (q : VWs y bytes maxL ret n) (hlink : Cond.methodLink own index y ∈ ALL) (hR : h + 1 ≤ h0) (hX : LX D cA A K ad M H) (hK : KX D cA s) (hn : As.length = n) (hl : ls.size = nL) (hrest : (rest.map fun v => v.category).sum ≤ 8) (hdg : decode cc pc = .ok (.invokestatic index, 3)) (hf : cells ≤ mc0 ∧ slots ≤ ms0) (hS : va_S A H0 H locs)
    (kk : ∀ (H1 : Heap) (locs1 : List Loc), LX D cA A K ad M' H1 → va_S A H0 H1 locs1 → W p l e (RM h0 mc0 ms0) s m args below meth c H1 locs1 cells slots Q (F0 m (pc + 3) ls rest)) : W p l e (RM h0 mc0 ms0) s m args below meth c H locs cells slots Q (F0 m pc ls (As.reverse ++ rest)) :=
  Ct_S hC hM q.1 q.2.1 hlink q.2.2.1 q.2.2.2.1 ⟨hR, q.2.2.2.2⟩ hX hK hn hl hrest hdg hf hS (fun _ h => h) (fun H1 locs1 hX1 _ _ hS1 => kk H1 locs1 hX1 hS1)
end LCL
