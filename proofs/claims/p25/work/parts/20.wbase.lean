/-! ===== the law's wrappers: a method with an exception table that never throws ===== -/
def NXp : List (String × String) := [("java/lang/IllegalArgumentException", "java/lang/IllegalStateException"), ("java/lang/IllegalArgumentException", "java/lang/IndexOutOfBoundsException"), ("java/lang/IllegalArgumentException", "java/util/NoSuchElementException"), ("java/lang/IllegalStateException", "java/lang/IllegalArgumentException"), ("java/lang/IllegalStateException", "java/lang/IndexOutOfBoundsException"), ("java/lang/IllegalStateException", "java/util/NoSuchElementException"), ("java/lang/IndexOutOfBoundsException", "java/lang/IllegalArgumentException"), ("java/lang/IndexOutOfBoundsException", "java/lang/IllegalStateException"), ("java/lang/IndexOutOfBoundsException", "java/util/NoSuchElementException"), ("java/util/NoSuchElementException", "java/lang/IllegalArgumentException"), ("java/util/NoSuchElementException", "java/lang/IllegalStateException"), ("java/util/NoSuchElementException", "java/lang/IndexOutOfBoundsException")]
def NXc : List String := ["java/lang/IllegalArgumentException", "java/lang/IllegalStateException", "java/lang/IndexOutOfBoundsException", "java/util/NoSuchElementException"]
/-- of classes of exceptions: which is which -/
def NX (U : State) : Prop := (∀ q, q ∈ NXp → va_Nc q.1 q.2 U) ∧ ∀ E, E ∈ NXc → va_Nw (.castable E E) U
theorem NX.same {s U : State} (hv : s.vm = U.vm) (h : NX s) : NX U := by
  have hal : s.vm.Alike U.vm := by rw [hv]; exact Vm.Alike.refl _
  exact ⟨fun q hq => va_Nc.moved hal (h.1 q hq), fun E hE => va_Nw.same rfl hv (h.2 E hE)⟩
theorem NX.warm {s U : State} (hW : s.WarmedH U.vm) (h : NX s) : NX U := ⟨fun q hq => va_Nc.moved hW.alike (h.1 q hq), fun E hE => va_Nw.warmC hW (h.2 E hE)⟩
def CtPW (D : va_G) (cA : Nat → ClassId) (A : Nat → Prop) (av : List Value) (X : Heap → Prop) : Array Value → State → Prop := fun v U => v = av.toArray ∧ X U.heap ∧ KX D cA U ∧ TX A U ∧ NX U
def CtW (l : Launch) (D : va_G) (cA : Nat → ClassId) (A : Nat → Prop) (y : MethodName) (cc : ByteArray) (maxL : Nat) (hh : List (Nat × Nat × Nat × Nat)) (h mc ms : Nat) (av : List Value) (X : Heap → Prop) (k : Int32) (X' : Heap → Prop) : Prop :=
  vx_Met l y (Cond.codeWith y cc maxL (some .int) hh :: ALL) (RM h mc ms) (CtPW D cA A av X) (CtQ A (some (.int k)) X') (fun _ _ _ => False) mc ms A
theorem CtPW_blind {D : va_G} {cA : Nat → ClassId} {A : Nat → Prop} {av : List Value} {X : Heap → Prop} : FrameBlind (CtPW D cA A av X) := fun a U g mk q => by
  obtain ⟨q0, qX, qK, qT, qN⟩ := q
  exact ⟨q0, qX, KX.same (s := U) (U := U.calling g mk a) rfl qK, TX.same (s := U) (U := U.calling g mk a) rfl rfl qT, NX.same (s := U) (U := U.calling g mk a) rfl qN⟩
theorem CtW_of {l : Launch} {D : va_G} {cA : Nat → ClassId} {A : Nat → Prop} {y : MethodName} {cc : ByteArray} {maxL : Nat} {hh : List (Nat × Nat × Nat × Nat)} {h mc ms : Nat} {av : List Value} {X : Heap → Prop} {k : Int32} {X' : Heap → Prop}
    (hy : plainName y.cls = true) (hn : (lg_sl av).length ≤ maxL)
    (body : ∀ (p : Program) (e : Env) (s : State) (m : MethodId) (args : Array Value) (below : List Frame) (meth : Method) (c : Code) (ls : Array Slot), CallFix p m c cc maxL s args (Cond.codeWith y cc maxL (some .int) hh :: ALL) y.cls → meth.sig.returnType = some .int → meth.locks = false → c.exceptionTable.toList = tableOf hh → X s.heap → KX D cA s → TX A s → NX s → lv_has ls maxL (lv_args 0 av) →
      W p l e (RM h mc ms) s m args below meth c s.heap [] 0 0 (vx_MQ below (CtQ A (some (.int k)) X') (fun _ _ _ => False) args s mc ms A) (F0 m 0 ls [])) : CtW l D cA A y cc maxL hh h mc ms av X k X' := by
  refine vx_ofWH (cc := cc) (maxL := maxL) (ret := some .int) (hh := hh) hy rfl ?_
  intro p e s m args below meth c s₁ B hml hv
  obtain ⟨rfl, hX, hK, hT, hN⟩ := hv
  have hts := atoms_spec (ws := Cond.codeWith y cc maxL (some .int) hh :: ALL) B.pre
  have htab := vx_table (x := y) B (hts _ List.mem_cons_self)
  have hown : s.vm.findClass y.cls = some m.cls := findClass_of_methodNamed B.named
  have hl := lv_entry av (n := maxL) hn
  rw [lg_entry_eq]
  exact body p e s m _ below meth c _ ⟨B.exec, B.bytes, hml, hown, hts⟩ B.returns B.notSynchronized htab hX hK hT hN hl
theorem CtX.to {l : Launch} {D : va_G} {cA : Nat → ClassId} {A : Nat → Prop} {y : MethodName} {cc : ByteArray} {maxL : Nat} {ret : Option FieldType} {h mc ms : Nat} {av : List Value} {X X2 : Heap → Prop} {e0 : Nat} {rv : Option Value} {X' X2' : Heap → Prop} (hM : CtX l D cA A y cc maxL ret h mc ms av X e0 rv X') (hX : ∀ H, X2 H → X H) (hX' : ∀ H, X' H → X2' H) : CtX l D cA A y cc maxL ret h mc ms av X2 e0 rv X2' := by
  refine MetFree.mono hM (fun a s q => ⟨q.1, hX _ q.2.1, q.2.2⟩) (fun _ _ _ _ _ q => q) (fun a s o t _ q => ?_)
  rcases q with ⟨⟨⟨q1, q2, q3⟩, q4⟩, q5⟩ | ⟨x, q1, E, ce, L, ⟨⟨q2, q3, q4⟩, q5⟩, q6⟩
  · exact Or.inl ⟨⟨⟨q1, q2, hX' _ q3⟩, q4⟩, q5⟩
  · exact Or.inr ⟨x, q1, E, ce, L, ⟨⟨q2, q3, hX' _ q4⟩, q5⟩, q6⟩
theorem va_D1o {A : Nat → Prop} {a : Nat} {e : va_E} (h : A a) : va_D A [(a, e)] := ⟨fun i j p q hi hj _ => by
  have h1 := (List.getElem?_eq_some_iff.mp hi).1
  have h2 := (List.getElem?_eq_some_iff.mp hj).1
  simp only [List.length_singleton] at h1 h2
  omega, fun k q hk => by
  have h1 := List.mem_of_getElem? hk
  rw [List.mem_singleton] at h1
  rw [h1]
  exact h⟩
theorem vaD_o {A : Nat → Prop} {ws : va_W} {o : Nat} {e : va_E} (h : va_D A ws) (ho : ¬ A o) : va_D (fun q => A q ∨ q = o) (ws ++ [(o, e)]) := by
  refine ⟨?_, ?_⟩
  · intro i j x y hx hy hxy
    rw [List.getElem?_append] at hx hy
    split at hx
    · split at hy
      · exact h.1 i j x y hx hy hxy
      · have z := List.mem_of_getElem? hy
        rw [List.mem_singleton] at z
        have z2 := h.2 _ _ hx
        rw [hxy, z] at z2
        exact absurd z2 ho
    · split at hy
      · have z := List.mem_of_getElem? hx
        rw [List.mem_singleton] at z
        have z2 := h.2 _ _ hy
        rw [← hxy, z] at z2
        exact absurd z2 ho
      · have z1 := (List.getElem?_eq_some_iff.mp hx).1
        have z2 := (List.getElem?_eq_some_iff.mp hy).1
        simp only [List.length_singleton] at z1 z2
        omega
  · intro k x hx
    rw [List.getElem?_append] at hx
    split at hx
    · exact Or.inl (h.2 k x hx)
    · have z := List.mem_of_getElem? hx
      rw [List.mem_singleton] at z
      exact Or.inr (by rw [z])
section WRW
variable {p : Program} {l : Launch} {e : Env} {R : Room} {h0 mc0 ms0 : Nat} {s : State} {m : MethodId} {args : Array Value} {below : List Frame} {meth : Method} {c : Code} {H : Heap} {locs : List Loc} {cells slots : Nat} {Q : State → Prop}
variable {cc bytes : ByteArray} {pc nL maxL index n h mc ms : Nat} {ls : Array Slot} {D : va_G} {cA : Nat → ClassId} {A A0 A1 : Nat → Prop} {X X' : Heap → Prop} {H0 : Heap} {own C : String} {w0 : Cond} {y : MethodName} {ret : Option FieldType} {rv : Option Value} {As rest st0 : List Value} {b : Addr} {e0 : Nat} {a : Array Value}
theorem CtX_go (hr : vx_Run p l e R s m args below meth c H locs cells slots mc ms (F0 m pc ls st0) rest (CtQX A1 e0 rv X' a) (CtXX A1 e0 X') A1) (hS : va_S A0 H0 H locs) (hA : ∀ q, A1 q → A0 q)
    (k0 : e0 = 0 → ∀ (H1 : Heap) (locs1 : List Loc), X' H1 → H.size ≤ H1.size → (∀ q : Nat, q < H.size → ¬ A1 q → H1[q]? = H[q]?) → va_S A0 H0 H1 locs1 → W p l e R s m args below meth c H1 locs1 (cells + mc) (slots + ms) Q (F0 m (pc + 3) ls (rv.toList ++ rest)))
    (kx : e0 ≠ 0 → ∀ (q9 : Addr) (ce : Cell) (H1 : Heap) (locs1 : List Loc), X' H1 → H.size ≤ H1.size → (∀ q : Nat, q < H.size → ¬ A1 q → H1[q]? = H[q]?) → va_S A0 H0 H1 locs1 → H1[q9]? = some ce → ce.vm = .none → s.vm.findClass (exn e0) = some ce.cls → vx_W p l e R s m args below meth c H1 locs1 (cells + mc) (slots + ms) Q (F0 m pc ls rest) q9) : W p l e R s m args below meth c H locs cells slots Q (F0 m pc ls st0) := by
  intro T hT Y
  rcases hr T hT Y with ⟨v, st₀, t, T', L, h0, Y', hL, e1, e2, ⟨⟨he, hv, hb⟩, hF⟩, st⟩ | ⟨q, st₀, t, T', L, E, ce, h0, Y', hL, e1, e2, ⟨⟨he, hE, hb⟩, hF⟩, hce, hcv, hcl, st⟩
  · cases hv
    obtain ⟨k1, k2, k3⟩ := vx_keep h0 e1 hS (fun q _ z => hA q z) (fun q z => hA q z) hL hF
    obtain ⟨t2, a1, b1⟩ := k0 he T'.heap (locs ++ L) (by rw [e1]; exact hb) k1 k2 k3 T' rfl Y'
    exact ⟨t2, st t2 a1, b1⟩
  · obtain ⟨k1, k2, k3⟩ := vx_keep h0 e1 hS (fun q _ z => hA q z) (fun q z => hA q z) hL hF
    subst hE
    obtain ⟨t2, a1, b1⟩ := kx he q ce T'.heap (locs ++ L) (by rw [e1]; exact hb) k1 k2 k3 (by rw [e1]; exact hce) hcv hcl T' rfl Y'
    exact ⟨t2, st.trans a1, b1⟩
theorem Ct_VX (hC : CallFix p m c cc nL s args (w0 :: ALL) own) (hM : CtX l D cA A y bytes maxL ret h mc ms (.ref b :: As) X e0 rv X') (q : VWv C y bytes maxL ret n) (hlink : Cond.methodLink own index y ∈ ALL) (hR : h + 1 ≤ h0)
    (hrec : ∃ cellB : Cell, H[b]? = some cellB ∧ cellB.vm.isStatics = false ∧ s.vm.findClass C = some cellB.cls) (hX : X H) (hK : KX D cA s) (hTX : TX A0 s) (hS : va_S A0 s.heap H locs) (hA : ∀ q, A q → A0 q) (hn : As.length = n) (hl : ls.size = nL) (hrest : (rest.map fun v => v.category).sum ≤ 8) (hdg : decode cc pc = .ok (.invokevirtual index, 3)) (hf : cells + mc ≤ mc0 ∧ slots + ms ≤ ms0)
    (k0 : e0 = 0 → ∀ (H1 : Heap) (locs1 : List Loc), X' H1 → H.size ≤ H1.size → (∀ q : Nat, q < H.size → ¬ A q → H1[q]? = H[q]?) → va_S A0 s.heap H1 locs1 → W p l e (RM h0 mc0 ms0) s m args below meth c H1 locs1 (cells + mc) (slots + ms) Q (F0 m (pc + 3) ls (rv.toList ++ rest)))
    (kx : e0 ≠ 0 → ∀ (q9 : Addr) (ce : Cell) (H1 : Heap) (locs1 : List Loc), X' H1 → H.size ≤ H1.size → (∀ q : Nat, q < H.size → ¬ A q → H1[q]? = H[q]?) → va_S A0 s.heap H1 locs1 → H1[q9]? = some ce → ce.vm = .none → s.vm.findClass (exn e0) = some ce.cls → vx_W p l e (RM h0 mc0 ms0) s m args below meth c H1 locs1 (cells + mc) (slots + ms) Q (F0 m pc ls rest) q9) :
    W p l e (RM h0 mc0 ms0) s m args below meth c H locs cells slots Q (F0 m pc ls (As.reverse ++ .ref b :: rest)) :=
  CtX_go (vx_runV hC hM ⟨mkB hC q.1 (q.2.2.2.2.1.1 ▸ q.2.1) hlink q.2.2.2.2.1.2 ⟨hR, q.2.2.2.2.2⟩, tA hC.2.2.2.2 q.2.2.1, tA hC.2.2.2.2 q.2.2.2.1⟩ ⟨CtPX_blind, hrec, fun U hU hW => ⟨rfl, by rw [hU]; exact hX, KX.warm hW hK, TX.warm hW hU hS hA hTX⟩⟩ rfl hn hl rfl (lv_room hrest) hdg hf) hS hA k0 kx
theorem CtW_ri {v : Int32} (hx : p.tables.exec = Jvm.exec) (hb : c.code = cc) (hr : meth.sig.returnType = some .int) (hlocks : meth.locks = false) (hX : X' H) (hS : va_S A s.heap H locs) (hc : cells ≤ mc) (hs : slots ≤ ms) (hdg : decode cc pc = .ok (.ireturn, 1)) :
    W p l e R s m args below meth c H locs cells slots (vx_MQ below (CtQ A (some (.int v)) X') (fun _ _ _ => False) args s mc ms A) (F0 m pc ls [.int v]) :=
  W.widen hc hs (vx_ret (W.iret hx hb hr (fun t ht _ => ⟨⟨rfl, by rw [ht]; exact hX⟩, hS.F ht⟩) hS.2.2 hdg hlocks))
theorem ox_kept {o : Nat} {e9 : va_E} {H1 : Heap} (hO : va_P D vwCl [(o, e9)] H) (ho : ¬ A o) (hk : ∀ q : Nat, q < H.size → ¬ A q → H1[q]? = H[q]?) : va_P D vwCl [(o, e9)] H1 := by
  refine hO.kept (fun k q hq => ?_)
  have h1 := (hO k q hq).lt
  have h2 := List.mem_of_getElem? hq
  rw [List.mem_singleton] at h2
  refine hk _ h1 ?_
  rw [h2]
  exact ho
theorem AX.rec {x0 nt nv : Nat} {S : St} {G : Gt} (hK : va_K D vwCl (tysA cA) s) (h : AX D cA A x0 S G nt nv H) : ∃ cellB : Cell, H[x0]? = some cellB ∧ cellB.vm.isStatics = false ∧ s.vm.findClass RX10 = some cellB.cls := by
  obtain ⟨ad, L, hX, hG, hE, rfl⟩ := h
  exact drec hK hX (hG.F 0 (by decide)) rfl rfl
end WRW
/-! ===== what a wrapper answers ===== -/
abbrev Cs : Type := St × Gt × Nat × Nat
def ex (e0 : Nat) (r : Int32) : Int32 := if e0 = 0 then r else if e0 = 1 then -7200 else if e0 = 2 then -7300 else if e0 = 3 then -7100 else -7400
noncomputable def gp {β : Type} (c : Prop) (k : Option β) : Option β := @ite _ c (Classical.propDecidable c) k none
theorem gp_e {β : Type} {c : Prop} {k : Option β} {r : β} (h : gp c k = some r) : c ∧ k = some r := by
  unfold gp at h
  split at h
  · rename_i q
    exact ⟨q, h⟩
  · cases h
theorem gp_i {β : Type} {c : Prop} {k : Option β} (h : c) : gp c k = k := if_pos h
def CX (D : va_G) (cA : Nat → ClassId) (A : Nat → Prop) (x0 : Nat) (C : Cs) (H : Heap) : Prop := AX D cA A x0 C.1 C.2.1 C.2.2.1 C.2.2.2 H
section LWR
variable {p : Program} {l : Launch} {e : Env} {R : Room} {s : State} {m : MethodId} {args : Array Value} {below : List Frame} {meth : Method} {c : Code} {H : Heap} {locs : List Loc} {cells slots : Nat} {Q : State → Prop}
variable {cc bytes : ByteArray} {pc nL maxL index n h mc ms : Nat} {ls : Array Slot} {D : va_G} {cA : Nat → ClassId} {A A0 A1 : Nat → Prop} {X X' : Heap → Prop} {H0 : Heap} {own C : String} {w0 : Cond} {y : MethodName} {ret : Option FieldType} {rv : Option Value} {As rest st0 : List Value} {b : Addr} {a : Array Value} {k : Int32} {hh : List (Nat × Nat × Nat × Nat)}
theorem mkBR (hC : CallFix p m c cc nL s args (w0 :: ALL) own) (hcode : Cond.code y bytes maxL ret ∈ ALL) (hini : Cond.initialized y.cls ∈ ALL) (hlink : Cond.methodLink own index y ∈ ALL)
    (hd : y.cls ≠ "java/lang/invoke/MethodHandle" ∧ y.cls ≠ "java/lang/invoke/VarHandle" ∧ (parseMethodDescriptor y.desc).map (fun d => d.parameters.length) = some n) (hR : h + 1 ≤ R.frames ∧ 8 + (maxL + 11) + 40 * h ≤ R.locals) :
    CallB R s args own index y bytes maxL ret (Cond.code y bytes maxL ret :: ALL) (RM h mc ms) mc ms n := by
  refine ⟨rfl, rfl, hR.1, hR.2, ALL_pay hC.2.2.2.2 hcode, List.mem_cons_self, tA hC.2.2.2.2 hcode, tA hC.2.2.2.2 hini, ⟨hd.1, hd.2.1⟩, fun sig q => ?_, tA hC.2.2.2.2 hlink⟩
  have h2 := hd.2.2
  rw [q] at h2
  exact (Option.some.inj h2).symm
theorem Ct_IR (hC : CallFix p m c cc nL s args (w0 :: ALL) own) (hM : Ct l D cA A y bytes maxL none h mc ms (.ref b :: As) X none X') (q : VWi y bytes maxL n) (hlink : Cond.methodLink own index y ∈ ALL) (hR : h + 1 ≤ R.frames ∧ 8 + (maxL + 11) + 40 * h ≤ R.locals)
    (hX : X H) (hK : KX D cA s) (hn : As.length = n) (hl : ls.size = nL) (hrest : (rest.map fun v => v.category).sum ≤ 8) (hdg : decode cc pc = .ok (.invokespecial index, 3)) (hf : cells + mc ≤ R.cells ∧ slots + ms ≤ R.slots) (hS : va_S A0 H0 H locs) (hA : ∀ q, A q → A0 q)
    (kk : ∀ (H1 : Heap) (locs1 : List Loc), X' H1 → H.size ≤ H1.size → (∀ q : Nat, q < H.size → ¬ A q → H1[q]? = H[q]?) → va_S A0 H0 H1 locs1 → W p l e R s m args below meth c H1 locs1 (cells + mc) (slots + ms) Q (F0 m (pc + 3) ls rest)) :
    W p l e R s m args below meth c H locs cells slots Q (F0 m pc ls (As.reverse ++ .ref b :: rest)) := by
  obtain ⟨q1, q2, q3, q4, q5, q6⟩ := q
  exact Ct_go (va_runI hC hM ⟨mkBR hC q1 q2 hlink q5 hR, q4, tA hC.2.2.2.2 q3⟩ ⟨CtP_blind, fun U hU hW => ⟨rfl, by rw [hU]; exact hX, KX.warm hW hK⟩⟩ rfl hn hl rfl (lv_room hrest) hdg hf) hS hA kk
theorem Ct_VR (hC : CallFix p m c cc nL s args (w0 :: ALL) own) (hM : Ct l D cA A y bytes maxL ret h mc ms (.ref b :: As) X rv X') (hcode : Cond.code y bytes maxL ret ∈ ALL) (hini : Cond.initialized y.cls ∈ ALL) (hlink : Cond.methodLink own index y ∈ ALL) (hinst : Cond.instanceMethod y ∈ ALL) (hsel : Cond.selects C y y ∈ ALL)
    (hd : y.cls ≠ "java/lang/invoke/MethodHandle" ∧ y.cls ≠ "java/lang/invoke/VarHandle" ∧ (parseMethodDescriptor y.desc).map (fun d => d.parameters.length) = some n) (hR : h + 1 ≤ R.frames ∧ 8 + (maxL + 11) + 40 * h ≤ R.locals)
    (hrec : ∃ cellB : Cell, H[b]? = some cellB ∧ cellB.vm.isStatics = false ∧ s.vm.findClass C = some cellB.cls) (hX : X H) (hK : KX D cA s) (hn : As.length = n) (hl : ls.size = nL) (hrest : (rest.map fun v => v.category).sum ≤ 8) (hdg : decode cc pc = .ok (.invokevirtual index, 3)) (hf : cells + mc ≤ R.cells ∧ slots + ms ≤ R.slots) (hS : va_S A0 H0 H locs) (hA : ∀ q, A q → A0 q)
    (kk : ∀ (H1 : Heap) (locs1 : List Loc), X' H1 → H.size ≤ H1.size → (∀ q : Nat, q < H.size → ¬ A q → H1[q]? = H[q]?) → va_S A0 H0 H1 locs1 → W p l e R s m args below meth c H1 locs1 (cells + mc) (slots + ms) Q (F0 m (pc + 3) ls (rv.toList ++ rest))) :
    W p l e R s m args below meth c H locs cells slots Q (F0 m pc ls (As.reverse ++ .ref b :: rest)) :=
  Ct_go (va_runV hC hM ⟨mkBR hC hcode hini hlink hd hR, tA hC.2.2.2.2 hinst, tA hC.2.2.2.2 hsel⟩ ⟨CtP_blind, hrec, fun U hU hW => ⟨rfl, by rw [hU]; exact hX, KX.warm hW hK⟩⟩ rfl hn hl rfl (lv_room hrest) hdg hf) hS hA kk
theorem CtW_go (hr : vx_Run p l e R s m args below meth c H locs cells slots mc ms (F0 m pc ls st0) rest (CtQ A1 rv X' a) (fun _ _ _ => False) A1) (hS : va_S A0 H0 H locs) (hA : ∀ q, A1 q → A0 q)
    (kk : ∀ (H1 : Heap) (locs1 : List Loc), X' H1 → H.size ≤ H1.size → (∀ q : Nat, q < H.size → ¬ A1 q → H1[q]? = H[q]?) → va_S A0 H0 H1 locs1 → W p l e R s m args below meth c H1 locs1 (cells + mc) (slots + ms) Q (F0 m (pc + 3) ls (rv.toList ++ rest))) : W p l e R s m args below meth c H locs cells slots Q (F0 m pc ls st0) := by
  intro T hT Y
  rcases hr T hT Y with ⟨v, st₀, t, T', L, h0, Y', hL, e1, e2, ⟨⟨hv, hb⟩, hF⟩, st⟩ | ⟨q, st₀, t, T', L, E, ce, h0, Y', hL, e1, e2, hx, -⟩
  · cases hv
    obtain ⟨k1, k2, k3⟩ := vx_keep h0 e1 hS (fun q _ z => hA q z) (fun q z => hA q z) hL hF
    obtain ⟨t2, a1, b1⟩ := kk T'.heap (locs ++ L) (by rw [e1]; exact hb) k1 k2 k3 T' rfl Y'
    exact ⟨t2, st t2 a1, b1⟩
  · exact absurd hx id
/-- what is asked of a wrapper's name -/
def VWw (y : MethodName) (bytes : ByteArray) (maxL : Nat) (hh : List (Nat × Nat × Nat × Nat)) (n : Nat) : Prop := Cond.codeWith y bytes maxL (some .int) hh ∈ ALL ∧ Cond.initialized y.cls ∈ ALL ∧ Cond.static y ∈ ALL ∧ (y.cls ≠ "java/lang/invoke/MethodHandle" ∧ y.cls ≠ "java/lang/invoke/VarHandle" ∧ (parseMethodDescriptor y.desc).map (fun d => d.parameters.length) = some n)
theorem Ct_SW (hC : CallFix p m c cc nL s args (w0 :: ALL) own) (hM : CtW l D cA A y bytes maxL hh h mc ms As X k X') (q : VWw y bytes maxL hh n) (hlink : Cond.methodLink own index y ∈ ALL) (hR : h + 1 ≤ R.frames ∧ 8 + (maxL + 11) + 40 * h ≤ R.locals)
    (hX : X H) (hK : KX D cA s) (hTX : TX A0 s) (hNX : NX s) (hn : As.length = n) (hl : ls.size = nL) (hrest : (rest.map fun v => v.category).sum ≤ 8) (hdg : decode cc pc = .ok (.invokestatic index, 3)) (hf : cells + mc ≤ R.cells ∧ slots + ms ≤ R.slots) (hS : va_S A0 s.heap H locs) (hA : ∀ q, A q → A0 q)
    (kk : ∀ (H1 : Heap) (locs1 : List Loc), X' H1 → H.size ≤ H1.size → (∀ q : Nat, q < H.size → ¬ A q → H1[q]? = H[q]?) → va_S A0 s.heap H1 locs1 → W p l e R s m args below meth c H1 locs1 (cells + mc) (slots + ms) Q (F0 m (pc + 3) ls (.int k :: rest))) :
    W p l e R s m args below meth c H locs cells slots Q (F0 m pc ls (As.reverse ++ rest)) := by
  obtain ⟨q1, q2, q3, q5⟩ := q
  have ht := hC.2.2.2.2
  refine CtW_go (rv := some (.int k)) (vx_runSX hC hM ⟨⟨rfl, rfl, hR.1, hR.2, ALL_pay ht q1, List.mem_cons_self⟩, tA ht q1, tA ht q2, ⟨q5.1, q5.2.1⟩, fun sig z => ?_, tA ht hlink, tA ht q3⟩ ⟨CtPW_blind, fun U hU hW => ⟨rfl, by rw [hU]; exact hX, KX.warm hW hK, TX.warm hW hU hS hA hTX, NX.warm hW hNX⟩⟩ rfl hn hl rfl (lv_room hrest) hdg hf) hS hA kk
  have h2 := q5.2.2
  rw [z] at h2
  exact (Option.some.inj h2).symm
end LWR
