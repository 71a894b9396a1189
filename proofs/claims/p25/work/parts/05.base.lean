/-! ===== the pure texts' words: what a method's bytecode does, as a function that may fail ===== -/
abbrev St : Type := (Nat → Int32) × (Nat → Nat → Int32)
def w1 (S : St) (k : Nat) (v : Int32) : St := (upd S.1 k v, S.2)
def w2 (S : St) (k i : Nat) (v : Int32) : St := (S.1, fun j => if j = k then upd (S.2 k) i v else S.2 j)
def rd {β : Type} (i : Int32) (n : Nat) (k : Nat → Option β) : Option β := if i < 0 ∨ n ≤ i.toNatClampNeg then none else k i.toNatClampNeg
def dv {β : Type} (d : Int32) (k : Option β) : Option β := if d = 0 then none else k
def gd {β : Type} (c : Prop) [Decidable c] (k : Option β) : Option β := if c then k else none
def cb {α β : Type} (x : Option α) (k : α → Option β) : Option β := x.bind k
def cb2 {α σ β : Type} (x : Option (α × σ)) (k : α → σ → Option β) : Option β := x.bind fun q => k q.1 q.2
def lt {α β : Type} (x : α) (k : α → Option β) : Option β := k x
def jn {K β : Type} (k : K) (b : K → Option β) : Option β := b k
def lp {K : Type} (bot : K) (F : K → K) : Nat → K
  | 0 => bot
  | n + 1 => F (lp bot F n)
def FU : Nat := 1000
theorem cb_e {α β : Type} {x : Option α} {k : α → Option β} {r : β} (h : cb x k = some r) : ∃ z, x = some z ∧ k z = some r := by
  cases x with
  | none => cases h
  | some z => exact ⟨z, rfl, h⟩
theorem cb2_e {α σ β : Type} {x : Option (α × σ)} {k : α → σ → Option β} {r : β} (h : cb2 x k = some r) : ∃ z S, x = some (z, S) ∧ k z S = some r := by
  cases x with
  | none => cases h
  | some z => exact ⟨z.1, z.2, rfl, h⟩
theorem rd_e {β : Type} {i : Int32} {n : Nat} {k : Nat → Option β} {r : β} (h : rd i n k = some r) : vp_in i n ∧ ∃ j, i.toNatClampNeg = j ∧ k j = some r := by
  unfold rd at h
  split at h
  · cases h
  · rename_i q
    exact ⟨q, _, rfl, h⟩
theorem dv_e {β : Type} {d : Int32} {k : Option β} {r : β} (h : dv d k = some r) : ¬ d = 0 ∧ k = some r := by
  unfold dv at h
  split at h
  · cases h
  · rename_i q
    exact ⟨q, h⟩
theorem gd_e {β : Type} {c : Prop} {dc : Decidable c} {k : Option β} {r : β} (h : gd c k = some r) : c ∧ k = some r := by
  unfold gd at h
  split at h
  · rename_i q
    exact ⟨q, h⟩
  · cases h
theorem lt_e {α β : Type} {x : α} {k : α → Option β} {r : β} (h : lt x k = some r) : ∃ z, z = x ∧ k z = some r := ⟨x, rfl, h⟩
theorem it_t {β : Type} {c : Prop} {dc : Decidable c} {a b : Option β} {r : β} (hc : c) (h : (if c then a else b) = some r) : a = some r := (if_pos hc).symm.trans h
theorem it_f {β : Type} {c : Prop} {dc : Decidable c} {a b : Option β} {r : β} (hc : ¬ c) (h : (if c then a else b) = some r) : b = some r := (if_neg hc).symm.trans h
/-! ===== worlds as lists of codes: cell of code c lies at address ad c ===== -/
abbrev wl {α : Type} (L : List α) (ad : α → Nat) (ce : α → va_E) : va_W := L.map (fun c => (ad c, ce c))
def HP {α : Type} (D : va_G) (A : Nat → Prop) (L : List α) (ad : α → Nat) (ce : α → va_E) (H : Heap) : Prop := va_P D vwCl (wl L ad ce) H ∧ va_D A (wl L ad ce)
theorem wl_at {α : Type} {L : List α} {ad : α → Nat} {ce : α → va_E} {k : Nat} {c : α} (h : L[k]? = some c) : (wl L ad ce)[k]? = some (ad c, ce c) := by
  rw [List.getElem?_map, h]; rfl
theorem wl_get {α : Type} {L : List α} {ad : α → Nat} {ce : α → va_E} {c : α} (h : c ∈ L) : ∃ k : Nat, L[k]? = some c ∧ (wl L ad ce)[k]? = some (ad c, ce c) := by
  obtain ⟨k, hk⟩ := List.getElem?_of_mem h
  exact ⟨k, hk, wl_at hk⟩
theorem wl_set {α : Type} [DecidableEq α] {A : Nat → Prop} {L : List α} {ad : α → Nat} {ce : α → va_E} {c : α} {k : Nat} {e : va_E} (hD : va_D A (wl L ad ce)) (hk : L[k]? = some c) : (wl L ad ce).set k (ad c, e) = wl L ad (fun d => if d = c then e else ce d) := by
  apply List.ext_getElem?
  intro j
  by_cases hj : j = k
  · subst hj
    have hl : j < L.length := (List.getElem?_eq_some_iff.mp hk).1
    rw [List.getElem?_set_self (by rw [List.length_map]; exact hl), wl_at hk, if_pos rfl]
  · rw [List.getElem?_set_ne (Ne.symm hj), List.getElem?_map, List.getElem?_map]
    cases hd : L[j]? with
    | none => rfl
    | some d =>
      have hdc : d ≠ c := by
        intro q
        subst q
        exact hj (hD.1 j k _ _ (wl_at hd) (wl_at hk) rfl)
      simp [hdc]
theorem wl_cong {α : Type} {L : List α} {ad : α → Nat} {ce ce' : α → va_E} (h : ∀ c, c ∈ L → ce c = ce' c) : wl L ad ce = wl L ad ce' := List.map_congr_left (fun c hc => by rw [h c hc])
theorem HP.cong {α : Type} {D : va_G} {A : Nat → Prop} {L : List α} {ad : α → Nat} {ce ce' : α → va_E} {H : Heap} (h : HP D A L ad ce H) (he : ∀ c, c ∈ L → ce c = ce' c) : HP D A L ad ce' H := by
  unfold HP at h ⊢
  rw [← wl_cong he]
  exact h
/-! ===== contracts: from the picture X to the picture X', answering rv ===== -/
def RM (h mc ms : Nat) : Room := { frames := h, cells := mc, slots := ms, locals := 40 * h }
abbrev tysA (cA : Nat → ClassId) : List (ClassId × FieldType) := [(cA 0, .int), (cA 1, .int), (cA 2, .int), (cA 3, .object "Lensbench$Table"), (cA 4, .object "Lensbench$View"), (cA 5, .object "Lensbench$Rows")]
/-- what every method is given of the tables, beside its words -/
def KX (D : va_G) (cA : Nat → ClassId) (U : State) : Prop := va_K D vwCl (tysA cA) U ∧ (va_Nw (.declares ⟨"Lensbench$View", "show", "()V"⟩) U ∧ va_Nw (.declares ⟨"Lensbench$View", "passOn", "()V"⟩) U ∧ va_Nw (.declares ⟨"Lensbench$View", "seekOwnConflict", "(LLensbench$Conflict;)V"⟩) U) ∧
  (va_Nw (.methodLinkNest RX10 32 yX0_init RX10) U ∧ va_Nw (.methodLinkNest RX10 39 yX8_init RX10) U) ∧ (va_Nw (.castable RX2 RX9) U ∧ va_Nw (.castable RX3 RX9) U ∧ va_Nw (.castable RX5 RX9) U ∧ va_Nw (.castable RX7 RX9) U) ∧ (va_AO "Lensbench$Table" U ∧ va_AO "Lensbench$View" U ∧ va_AO "Lensbench$Rows" U)
theorem KX.warm {D : va_G} {cA : Nat → ClassId} {s U : State} (hW : s.WarmedH U.vm) (h : KX D cA s) : KX D cA U := by
  obtain ⟨h0, ⟨h1, h2, h3⟩, ⟨h4, h5⟩, ⟨h6, h7, h8, h9⟩, h10, h11, h12⟩ := h
  exact ⟨va_K.moved hW.alike h0, ⟨va_Nw.warmD hW h1, va_Nw.warmD hW h2, va_Nw.warmD hW h3⟩, ⟨va_Nw.warmM hW h4, va_Nw.warmM hW h5⟩, ⟨va_Nw.warmC hW h6, va_Nw.warmC hW h7, va_Nw.warmC hW h8, va_Nw.warmC hW h9⟩, va_AO.moved hW.alike h10, va_AO.moved hW.alike h11, va_AO.moved hW.alike h12⟩
theorem KX.same {D : va_G} {cA : Nat → ClassId} {s U : State} (hv : s.vm = U.vm) (h : KX D cA s) : KX D cA U := by
  have hal : s.vm.Alike U.vm := by rw [hv]; exact Vm.Alike.refl _
  obtain ⟨h0, ⟨h1, h2, h3⟩, ⟨h4, h5⟩, ⟨h6, h7, h8, h9⟩, h10, h11, h12⟩ := h
  exact ⟨va_K.moved hal h0, ⟨va_Nw.same rfl hv h1, va_Nw.same rfl hv h2, va_Nw.same rfl hv h3⟩, ⟨va_Nw.same rfl hv h4, va_Nw.same rfl hv h5⟩, ⟨va_Nw.same rfl hv h6, va_Nw.same rfl hv h7, va_Nw.same rfl hv h8, va_Nw.same rfl hv h9⟩, va_AO.moved hal h10, va_AO.moved hal h11, va_AO.moved hal h12⟩
def CtP (D : va_G) (cA : Nat → ClassId) (av : List Value) (X : Heap → Prop) : Array Value → State → Prop := fun v U => v = av.toArray ∧ X U.heap ∧ KX D cA U
def CtQ (A : Nat → Prop) (rv : Option Value) (X' : Heap → Prop) : Array Value → State → Outcome → State → Prop := fun _ st oc t => (oc = .returned rv ∧ X' t.heap) ∧ va_F A st t
def Ct (l : Launch) (D : va_G) (cA : Nat → ClassId) (A : Nat → Prop) (y : MethodName) (cc : ByteArray) (maxL : Nat) (ret : Option FieldType) (h mc ms : Nat) (av : List Value) (X : Heap → Prop) (rv : Option Value) (X' : Heap → Prop) : Prop :=
  Met l y (Cond.code y cc maxL ret :: ALL) (RM h mc ms) (CtP D cA av X) (CtQ A rv X') mc ms A
theorem CtP_blind {D : va_G} {cA : Nat → ClassId} {av : List Value} {X : Heap → Prop} : FrameBlind (CtP D cA av X) := fun a U g mk q => by
  obtain ⟨q0, qX, qK⟩ := q
  exact ⟨q0, qX, KX.same (s := U) (U := U.calling g mk a) rfl qK⟩
theorem Ct_of {l : Launch} {D : va_G} {cA : Nat → ClassId} {A : Nat → Prop} {y : MethodName} {cc : ByteArray} {maxL : Nat} {ret : Option FieldType} {h mc ms : Nat} {av : List Value} {X : Heap → Prop} {rv : Option Value} {X' : Heap → Prop}
    (hy : plainName y.cls = true) (hn : (lg_sl av).length ≤ maxL)
    (body : ∀ (p : Program) (e : Env) (s : State) (m : MethodId) (args : Array Value) (below : List Frame) (meth : Method) (c : Code) (ls : Array Slot), CallFix p m c cc maxL s args (Cond.code y cc maxL ret :: ALL) y.cls → meth.sig.returnType = ret → meth.locks = false → meth.name = y.name → X s.heap → KX D cA s → lv_has ls maxL (lv_args 0 av) →
      W p l e (RM h mc ms) s m args below meth c s.heap [] 0 0 (MQ below (CtQ A rv X') args s mc ms A) (F0 m 0 ls [])) : Ct l D cA A y cc maxL ret h mc ms av X rv X' := by
  refine Met.ofW (cc := cc) (maxL := maxL) (ret := ret) hy rfl ?_
  intro p e s m args below meth c s₁ B hml hv
  obtain ⟨rfl, hX, hK⟩ := hv
  have hts := atoms_spec (ws := Cond.code y cc maxL ret :: ALL) B.pre
  have hown : s.vm.findClass y.cls = some m.cls := findClass_of_methodNamed B.named
  have hl := lv_entry av (n := maxL) hn
  rw [lg_entry_eq]
  exact body p e s m _ below meth c _ ⟨B.exec, B.bytes, hml, hown, hts⟩ B.returns B.notSynchronized (name_of_methodNamed B.named B.method).1 hX hK hl
section CTR
variable {p : Program} {l : Launch} {e : Env} {R : Room} {s : State} {m : MethodId} {args : Array Value} {below : List Frame} {meth : Method} {c : Code} {H : Heap} {locs : List Loc} {cells slots : Nat} {Q : State → Prop}
variable {cc : ByteArray} {pc : Nat} {ls : Array Slot} {D : va_G} {cA : Nat → ClassId} {A : Nat → Prop} {X' : Heap → Prop}
theorem Ct_ri {v : Int32} (hx : p.tables.exec = Jvm.exec) (hb : c.code = cc) (hr : meth.sig.returnType = some .int) (hlocks : meth.locks = false) (hX : X' H) (hS : va_S A s.heap H locs) (hdg : decode cc pc = .ok (.ireturn, 1)) :
    W p l e R s m args below meth c H locs cells slots (MQ below (CtQ A (some (.int v)) X') args s cells slots A) (F0 m pc ls [.int v]) :=
  W.iret hx hb hr (fun t ht _ => ⟨⟨rfl, by rw [ht]; exact hX⟩, hS.F ht⟩) hS.2.2 hdg hlocks
theorem Ct_rz {v : Int32} (hx : p.tables.exec = Jvm.exec) (hb : c.code = cc) (hr : meth.sig.returnType = some .boolean) (hlocks : meth.locks = false) (hv : narrow .boolean (.int v) = .int v) (hX : X' H) (hS : va_S A s.heap H locs) (hdg : decode cc pc = .ok (.ireturn, 1)) :
    W p l e R s m args below meth c H locs cells slots (MQ below (CtQ A (some (.int v)) X') args s cells slots A) (F0 m pc ls [.int v]) :=
  W.zret hx hb hr hv (fun t ht _ => ⟨⟨rfl, by rw [ht]; exact hX⟩, hS.F ht⟩) hS.2.2 hdg hlocks
theorem Ct_rv (hx : p.tables.exec = Jvm.exec) (hb : c.code = cc) (hr : meth.sig.returnType = none) (hlocks : meth.locks = false) (hX : X' H) (hS : va_S A s.heap H locs) (hdg : decode cc pc = .ok (.return_, 1)) :
    W p l e R s m args below meth c H locs cells slots (MQ below (CtQ A none X') args s cells slots A) (F0 m pc ls []) :=
  W.vret hx hb hr (fun t ht _ => ⟨⟨rfl, by rw [ht]; exact hX⟩, hS.F ht⟩) hS.2.2 hdg hlocks
theorem Ct_ra {o : Option Nat} {C : String} (hx : p.tables.exec = Jvm.exec) (hb : c.code = cc) (hr : meth.sig.returnType = some (.object C)) (hlocks : meth.locks = false) (hX : X' H) (hS : va_S A s.heap H locs) (hdg : decode cc pc = .ok (.areturn, 1)) :
    W p l e R s m args below meth c H locs cells slots (MQ below (CtQ A (some (va_rf o)) X') args s cells slots A) (F0 m pc ls [va_rf o]) :=
  W.aret hx hb hr (Or.inl ⟨C, rfl⟩) (by cases o with | none => exact Or.inl rfl | some a => exact Or.inr ⟨a, rfl⟩) (fun t ht _ => ⟨⟨rfl, by rw [ht]; exact hX⟩, hS.F ht⟩) hS.2.2 hdg hlocks
theorem nz0 : narrow .boolean (.int 0) = .int 0 := by decide +kernel
theorem nz1 : narrow .boolean (.int 1) = .int 1 := by decide +kernel
theorem nz01 {v : Int32} (h : v = 0 ∨ v = 1) : narrow .boolean (.int v) = .int v := by
  rcases h with rfl | rfl
  · exact nz0
  · exact nz1
/-- behind a call -/
theorem Ct_go {mc ms : Nat} {rest st0 : List Value} {rv : Option Value} {a : Array Value} {A1 A0 : Nat → Prop} {H0 : Heap} (hr : va_Run p l e R s m args below meth c H locs cells slots mc ms (F0 m pc ls st0) rest (CtQ A1 rv X' a) A1) (hS : va_S A0 H0 H locs) (hA : ∀ q, A1 q → A0 q)
    (kk : ∀ (H1 : Heap) (locs1 : List Loc), X' H1 → H.size ≤ H1.size → (∀ q : Nat, q < H.size → ¬ A1 q → H1[q]? = H[q]?) → va_S A0 H0 H1 locs1 → W p l e R s m args below meth c H1 locs1 (cells + mc) (slots + ms) Q (F0 m (pc + 3) ls (rv.toList ++ rest))) : W p l e R s m args below meth c H locs cells slots Q (F0 m pc ls st0) := by
  intro T hT Y
  obtain ⟨v, st₀, t, T', L, h0, Y', hL, e1, e2, ⟨⟨hv, hb⟩, hz, hk⟩, st⟩ := hr T hT Y
  cases hv
  rw [h0] at hz hk
  obtain ⟨t2, a1, b1⟩ := kk T'.heap (locs ++ L) (by rw [e1]; exact hb) (by rw [e1]; exact hz) (fun q h1 h2 => by rw [e1]; exact hk q h1 h2)
    ⟨Nat.le_trans hS.1 (by rw [e1]; exact hz), fun q h1 h2 => by rw [e1, hk q (Nat.lt_of_lt_of_le h1 hS.1) (fun z => h2 (hA q z))]; exact hS.2.1 q h1 h2, fun q hq => by
      rcases List.mem_append.mp hq with h | h
      · exact hS.2.2 q h
      · exact hA _ (hL q h)⟩ T' rfl Y'
  exact ⟨t2, st t2 a1, b1⟩
end CTR
/-! ===== calls ===== -/
theorem ALL_pay {s : State} {args : Array Value} {w0 w1 : Cond} (ht : ∀ w ∈ w0 :: ALL, w.before args s = true) (h1 : w1 ∈ ALL) : ∀ w ∈ w1 :: ALL, ∀ (a' : Array Value) (U : State), s.WarmedH U.vm → w.before a' U = true :=
  pay_in (big := w0 :: ALL) ht (fun w hw => by
    have hA : w ∈ ALL := (List.mem_cons.mp hw).elim (fun q => by rw [q]; exact h1) id
    exact ⟨List.mem_cons_of_mem _ hA, good_of_word (ALL_good w hA)⟩)
theorem tA {s : State} {args : Array Value} {w0 w : Cond} (ht : ∀ w ∈ w0 :: ALL, w.before args s = true) (h : w ∈ ALL) : w.before args s = true := ht w (List.mem_cons_of_mem _ h)
theorem tU {C : String} {T : u_T} {N : Nat} {w0 : Cond} (h : ∀ w ∈ u_ws C T N, w ∈ ALL) : ∀ w ∈ u_ws C T N, w ∈ w0 :: ALL := fun w hw => List.mem_cons_of_mem _ (h w hw)
section CTC
variable {p : Program} {l : Launch} {e : Env} {h0 mc0 ms0 : Nat} {s : State} {m : MethodId} {args : Array Value} {below : List Frame} {meth : Method} {c : Code} {H : Heap} {locs : List Loc} {cells slots : Nat} {Q : State → Prop}
variable {cc bytes : ByteArray} {pc nL maxL index n h mc ms : Nat} {ls : Array Slot} {D : va_G} {cA : Nat → ClassId} {A A0 : Nat → Prop} {X X' : Heap → Prop} {H0 : Heap} {own C : String} {w0 : Cond} {y : MethodName} {ret : Option FieldType} {rv : Option Value} {As rest : List Value} {b : Addr}
/-- what a call asks of words and room -/
theorem mkB (hC : CallFix p m c cc nL s args (w0 :: ALL) own) (hcode : Cond.code y bytes maxL ret ∈ ALL) (hini : Cond.initialized y.cls ∈ ALL) (hlink : Cond.methodLink own index y ∈ ALL)
    (hd : y.cls ≠ "java/lang/invoke/MethodHandle" ∧ y.cls ≠ "java/lang/invoke/VarHandle" ∧ (parseMethodDescriptor y.desc).map (fun d => d.parameters.length) = some n) (hR : h + 1 ≤ h0 ∧ maxL ≤ 21) :
    CallB (RM h0 mc0 ms0) s args own index y bytes maxL ret (Cond.code y bytes maxL ret :: ALL) (RM h mc ms) mc ms n := by
  refine ⟨rfl, rfl, hR.1, ?_, ALL_pay hC.2.2.2.2 hcode, List.mem_cons_self, tA hC.2.2.2.2 hcode, tA hC.2.2.2.2 hini, ⟨hd.1, hd.2.1⟩, fun sig q => ?_, tA hC.2.2.2.2 hlink⟩
  · show 8 + (maxL + 11) + 40 * h ≤ 40 * h0
    omega
  · have h2 := hd.2.2
    rw [q] at h2
    exact (Option.some.inj h2).symm
theorem Ct_V (hC : CallFix p m c cc nL s args (w0 :: ALL) own) (hM : Ct l D cA A y bytes maxL ret h mc ms (.ref b :: As) X rv X') (hcode : Cond.code y bytes maxL ret ∈ ALL) (hini : Cond.initialized y.cls ∈ ALL) (hlink : Cond.methodLink own index y ∈ ALL) (hinst : Cond.instanceMethod y ∈ ALL) (hsel : Cond.selects C y y ∈ ALL)
    (hd : y.cls ≠ "java/lang/invoke/MethodHandle" ∧ y.cls ≠ "java/lang/invoke/VarHandle" ∧ (parseMethodDescriptor y.desc).map (fun d => d.parameters.length) = some n) (hR : h + 1 ≤ h0 ∧ maxL ≤ 21)
    (hrec : ∃ cellB : Cell, H[b]? = some cellB ∧ cellB.vm.isStatics = false ∧ s.vm.findClass C = some cellB.cls) (hX : X H) (hK : KX D cA s) (hn : As.length = n) (hl : ls.size = nL) (hrest : (rest.map fun v => v.category).sum ≤ 8) (hdg : decode cc pc = .ok (.invokevirtual index, 3)) (hf : cells + mc ≤ mc0 ∧ slots + ms ≤ ms0) (hS : va_S A0 H0 H locs) (hA : ∀ q, A q → A0 q)
    (kk : ∀ (H1 : Heap) (locs1 : List Loc), X' H1 → H.size ≤ H1.size → (∀ q : Nat, q < H.size → ¬ A q → H1[q]? = H[q]?) → va_S A0 H0 H1 locs1 → W p l e (RM h0 mc0 ms0) s m args below meth c H1 locs1 (cells + mc) (slots + ms) Q (F0 m (pc + 3) ls (rv.toList ++ rest))) :
    W p l e (RM h0 mc0 ms0) s m args below meth c H locs cells slots Q (F0 m pc ls (As.reverse ++ .ref b :: rest)) :=
  Ct_go (va_runV hC hM ⟨mkB hC hcode hini hlink hd hR, tA hC.2.2.2.2 hinst, tA hC.2.2.2.2 hsel⟩ ⟨CtP_blind, hrec, fun U hU hW => ⟨rfl, by rw [hU]; exact hX, KX.warm hW hK⟩⟩ rfl hn hl rfl (lv_room hrest) hdg hf) hS hA kk
theorem Ct_S (hC : CallFix p m c cc nL s args (w0 :: ALL) own) (hM : Ct l D cA A y bytes maxL ret h mc ms As X rv X') (hcode : Cond.code y bytes maxL ret ∈ ALL) (hini : Cond.initialized y.cls ∈ ALL) (hlink : Cond.methodLink own index y ∈ ALL) (hstat : Cond.static y ∈ ALL)
    (hd : y.cls ≠ "java/lang/invoke/MethodHandle" ∧ y.cls ≠ "java/lang/invoke/VarHandle" ∧ (parseMethodDescriptor y.desc).map (fun d => d.parameters.length) = some n) (hR : h + 1 ≤ h0 ∧ maxL ≤ 21)
    (hX : X H) (hK : KX D cA s) (hn : As.length = n) (hl : ls.size = nL) (hrest : (rest.map fun v => v.category).sum ≤ 8) (hdg : decode cc pc = .ok (.invokestatic index, 3)) (hf : cells + mc ≤ mc0 ∧ slots + ms ≤ ms0) (hS : va_S A0 H0 H locs) (hA : ∀ q, A q → A0 q)
    (kk : ∀ (H1 : Heap) (locs1 : List Loc), X' H1 → H.size ≤ H1.size → (∀ q : Nat, q < H.size → ¬ A q → H1[q]? = H[q]?) → va_S A0 H0 H1 locs1 → W p l e (RM h0 mc0 ms0) s m args below meth c H1 locs1 (cells + mc) (slots + ms) Q (F0 m (pc + 3) ls (rv.toList ++ rest))) :
    W p l e (RM h0 mc0 ms0) s m args below meth c H locs cells slots Q (F0 m pc ls (As.reverse ++ rest)) :=
  Ct_go (va_runS hC hM ⟨mkB hC hcode hini hlink hd hR, tA hC.2.2.2.2 hstat⟩ ⟨CtP_blind, fun U hU hW => ⟨rfl, by rw [hU]; exact hX, KX.warm hW hK⟩⟩ rfl hn hl rfl (lv_room hrest) hdg hf) hS hA kk
/-- a method found by the receiver's class C: named x, declared in owner, code y -/
def VWu (C owner : String) (x y : MethodName) (bytes : ByteArray) (maxL : Nat) (ret : Option FieldType) (n : Nat) : Prop := Cond.code y bytes maxL ret ∈ ALL ∧ Cond.initialized y.cls ∈ ALL ∧ Cond.instanceMethod y ∈ ALL ∧ Cond.selects C x y ∈ ALL ∧ Cond.sameMethod x.cls owner x.name x.desc ∈ ALL ∧ (owner ≠ "java/lang/invoke/MethodHandle" ∧ owner ≠ "java/lang/invoke/VarHandle" ∧ (parseMethodDescriptor x.desc).map (fun d => d.parameters.length) = some n) ∧ maxL ≤ 21
theorem Ct_U {owner : String} {x : MethodName} (hC : CallFix p m c cc nL s args (w0 :: ALL) own) (hM : Ct l D cA A y bytes maxL ret h mc ms (.ref b :: As) X rv X') (q : VWu C owner x y bytes maxL ret n) (hdecl : va_Decl s ⟨owner, x.name, x.desc⟩) (hlink : Cond.methodLink own index x ∈ ALL) (hR : h + 1 ≤ h0)
    (hrec : ∃ cellB : Cell, H[b]? = some cellB ∧ cellB.vm.isStatics = false ∧ s.vm.findClass C = some cellB.cls) (hX : X H) (hK : KX D cA s) (hn : As.length = n) (hl : ls.size = nL) (hrest : (rest.map fun v => v.category).sum ≤ 8) (hdg : decode cc pc = .ok (.invokevirtual index, 3)) (hf : cells + mc ≤ mc0 ∧ slots + ms ≤ ms0) (hS : va_S A0 H0 H locs) (hA : ∀ q, A q → A0 q)
    (kk : ∀ (H1 : Heap) (locs1 : List Loc), X' H1 → H.size ≤ H1.size → (∀ q : Nat, q < H.size → ¬ A q → H1[q]? = H[q]?) → va_S A0 H0 H1 locs1 → W p l e (RM h0 mc0 ms0) s m args below meth c H1 locs1 (cells + mc) (slots + ms) Q (F0 m (pc + 3) ls (rv.toList ++ rest))) :
    W p l e (RM h0 mc0 ms0) s m args below meth c H locs cells slots Q (F0 m pc ls (As.reverse ++ .ref b :: rest)) := by
  obtain ⟨q1, q2, q3, q4, q5, q6, q7⟩ := q
  have ht := hC.2.2.2.2
  refine Ct_go (va_runU hC hM (n := n) (x := x) (owner := owner) ⟨⟨rfl, rfl, hR, ?_, ALL_pay ht q1, List.mem_cons_self⟩, tA ht q1, tA ht q2, ⟨q6.1, q6.2.1⟩, fun sig z => ?_, tA ht hlink, tA ht q5, hdecl, tA ht q4, tA ht q3⟩ ⟨CtP_blind, hrec, fun U hU hW => ⟨rfl, by rw [hU]; exact hX, KX.warm hW hK⟩⟩ rfl hn hl rfl (lv_room hrest) hdg hf) hS hA kk
  · show 8 + (maxL + 11) + 40 * h ≤ 40 * h0
    omega
  · have h2 := q6.2.2
    rw [z] at h2
    exact (Option.some.inj h2).symm
end CTC
