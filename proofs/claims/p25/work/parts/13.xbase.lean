/-! ===== methods that may throw: what they are given, what they owe ===== -/
def isCD : Cond → Bool
  | .castable _ _ => true
  | .declares _ => true
  | _ => false
theorem isCD_warm {w : Cond} (h : isCD w = true) {s U : State} (hW : s.WarmedH U.vm) (hz : va_Nw w s) : va_Nw w U := by
  cases w <;> first | exact va_Nw.warmC hW hz | exact va_Nw.warmD hW hz | cases h
theorem isCD_same {w : Cond} (h : isCD w = true) {s U : State} (hv : s.vm = U.vm) (hz : va_Nw w s) : va_Nw w U := by
  cases w <;> first | exact va_Nw.same rfl hv hz | cases h
theorem isCD_use {w : Cond} (h : isCD w = true) {args : Array Value} {s : State} (hz : va_Nw w s) : w.before args s = true := by
  cases w <;> first | exact va_Nw.use rfl hz | cases h
theorem isCD_of {w : Cond} (h : isCD w = true) {args : Array Value} {s : State} (hz : w.before args s = true) : va_Nw w s := by
  cases w <;> first | exact va_Nw.of rfl hz | cases h
def STR : List (Nat × String) := [(185, "no draft"), (201, "which out of range"), (223, "no table whose rows can be tried"), (193, "no such place"), (183, "no draft, row is there, or draft full"), (81, "row out of range"), (111, "no such row"), (144, "column or value out of range"), (191, "the new row is there"), (169, "no such view or place"), (135, "no such view"), (120, "no more views"), (159, "views that cannot be joined"), (69, "no such table"), (46, "columns or key out of range"), (57, "no more tables"), (97, "key taken, or table full"), (229, "conflict"), (237, "nothing to undo")]
def exn (e : Nat) : String := if e = 1 then "java/lang/IllegalArgumentException" else if e = 2 then "java/lang/IllegalStateException" else if e = 3 then "java/lang/IndexOutOfBoundsException" else "java/util/NoSuchElementException"
/-- of the start of a method that may throw: the JDK's two statics, the words that aren't good, the strings -/
def TX (A : Nat → Prop) (U : State) : Prop := (vx_Zq Bundle.tN "UNASSIGNED_STACK" Bundle.steD A U U.heap ∧ vx_Zq Bundle.tN "SUPPRESSED_SENTINEL" Bundle.listD A U U.heap) ∧ (∀ w, w ∈ lw_tbl → isCD w = true → va_Nw w U) ∧ ∀ q, q ∈ STR → ∃ sa, vk_R RX10 q.1 q.2 sa U
def CtPX (D : va_G) (cA : Nat → ClassId) (A : Nat → Prop) (av : List Value) (X : Heap → Prop) : Array Value → State → Prop := fun v U => v = av.toArray ∧ X U.heap ∧ KX D cA U ∧ TX A U
def CtQX (A : Nat → Prop) (e : Nat) (rv : Option Value) (X' : Heap → Prop) : Array Value → State → Outcome → State → Prop := fun _ st oc t => (e = 0 ∧ oc = .returned rv ∧ X' t.heap) ∧ va_F A st t
def CtXX (A : Nat → Prop) (e : Nat) (X' : Heap → Prop) : String → State → State → Prop := fun E st t => (e ≠ 0 ∧ E = exn e ∧ X' t.heap) ∧ va_F A st t
def CtX (l : Launch) (D : va_G) (cA : Nat → ClassId) (A : Nat → Prop) (y : MethodName) (cc : ByteArray) (maxL : Nat) (ret : Option FieldType) (h mc ms : Nat) (av : List Value) (X : Heap → Prop) (e : Nat) (rv : Option Value) (X' : Heap → Prop) : Prop :=
  vx_Met l y (Cond.code y cc maxL ret :: ALL) (RM h mc ms) (CtPX D cA A av X) (CtQX A e rv X') (CtXX A e X') mc ms A
theorem TX.same {A : Nat → Prop} {s U : State} (hv : s.vm = U.vm) (hh : s.heap = U.heap) (h : TX A s) : TX A U := by
  have hal : s.vm.Alike U.vm := by rw [hv]; exact Vm.Alike.refl _
  obtain ⟨⟨h1, h2⟩, h3, h4⟩ := h
  refine ⟨⟨?_, ?_⟩, fun w hw hc => isCD_same hc hv (h3 w hw hc), fun q hq => ?_⟩
  · rw [← hh]; exact vx_Zq.moved hal h1
  · rw [← hh]; exact vx_Zq.moved hal h2
  · obtain ⟨sa, z⟩ := h4 q hq
    exact ⟨sa, vk_R.same hv.symm z⟩
/-- .. in a later heap, that differs in A alone -/
theorem TX.warm {A B : Nat → Prop} {s U : State} {H : Heap} {locs : List Loc} (hW : s.WarmedH U.vm) (hh : U.heap = H) (hS : va_S A s.heap H locs) (hBA : ∀ q, B q → A q) (h : TX A s) : TX B U := by
  obtain ⟨⟨h1, h2⟩, h3, h4⟩ := h
  refine ⟨⟨?_, ?_⟩, fun w hw hc => isCD_warm hc hW (h3 w hw hc), fun q hq => ?_⟩
  · rw [hh]; exact (vx_Zq.kept (vx_Zq.moved hW.alike h1) hS.2.1).narrow hBA
  · rw [hh]; exact (vx_Zq.kept (vx_Zq.moved hW.alike h2) hS.2.1).narrow hBA
  · obtain ⟨sa, z⟩ := h4 q hq
    exact ⟨sa, vk_R.warm hW z⟩
theorem CtPX_blind {D : va_G} {cA : Nat → ClassId} {A : Nat → Prop} {av : List Value} {X : Heap → Prop} : FrameBlind (CtPX D cA A av X) := fun a U g mk q => by
  obtain ⟨q0, qX, qK, qT⟩ := q
  exact ⟨q0, qX, KX.same (s := U) (U := U.calling g mk a) rfl qK, TX.same (s := U) (U := U.calling g mk a) rfl rfl qT⟩
theorem CtX_of {l : Launch} {D : va_G} {cA : Nat → ClassId} {A : Nat → Prop} {y : MethodName} {cc : ByteArray} {maxL : Nat} {ret : Option FieldType} {h mc ms : Nat} {av : List Value} {X : Heap → Prop} {e0 : Nat} {rv : Option Value} {X' : Heap → Prop}
    (hy : plainName y.cls = true) (hn : (lg_sl av).length ≤ maxL)
    (body : ∀ (p : Program) (e : Env) (s : State) (m : MethodId) (args : Array Value) (below : List Frame) (meth : Method) (c : Code) (ls : Array Slot), CallFix p m c cc maxL s args (Cond.code y cc maxL ret :: ALL) y.cls → meth.sig.returnType = ret → meth.locks = false → (∀ x ∈ c.exceptionTable.toList, False) → X s.heap → KX D cA s → TX A s → lv_has ls maxL (lv_args 0 av) →
      W p l e (RM h mc ms) s m args below meth c s.heap [] 0 0 (vx_MQ below (CtQX A e0 rv X') (CtXX A e0 X') args s mc ms A) (F0 m 0 ls [])) : CtX l D cA A y cc maxL ret h mc ms av X e0 rv X' := by
  refine vx_ofW (cc := cc) (maxL := maxL) (ret := ret) hy rfl ?_
  intro p e s m args below meth c s₁ B hml htab hv
  obtain ⟨rfl, hX, hK, hT⟩ := hv
  have hts := atoms_spec (ws := Cond.code y cc maxL ret :: ALL) B.pre
  have hown : s.vm.findClass y.cls = some m.cls := findClass_of_methodNamed B.named
  have hl := lv_entry av (n := maxL) hn
  rw [lg_entry_eq]
  exact body p e s m _ below meth c _ ⟨B.exec, B.bytes, hml, hown, hts⟩ B.returns B.notSynchronized htab hX hK hT hl
theorem HP.kept {α : Type} {D : va_G} {A : Nat → Prop} {L : List α} {ad : α → Nat} {ce : α → va_E} {H H1 : Heap} (h : HP D A L ad ce H) (hq : ∀ q : Nat, q < H.size → H1[q]? = H[q]?) : HP D A L ad ce H1 := ⟨h.1.kept (fun k q hk => hq _ (h.1 k q hk).lt), h.2⟩
/-- .. where what isn't in B stays, and the picture's cells aren't in B -/
theorem HP.keptA {α : Type} {D : va_G} {A B : Nat → Prop} {L : List α} {ad : α → Nat} {ce : α → va_E} {H H1 : Heap} (h : HP D A L ad ce H) (hAB : ∀ q, A q → ¬ B q) (hq : ∀ q : Nat, q < H.size → ¬ B q → H1[q]? = H[q]?) : HP D A L ad ce H1 := ⟨h.1.kept (fun k q hk => hq _ (h.1 k q hk).lt (hAB _ (h.2.2 k q hk))), h.2⟩
def THW (ik ic : Nat) (cls : String) : Prop := Cond.classLink RX10 ik cls ∈ ALL ∧ Cond.initialized cls ∈ ALL ∧ (∀ w ∈ (vx_atS RX10 ic cls ["java/lang/RuntimeException", "java/lang/Exception"]).filter goodWord, w ∈ lw_tbl) ∧ (∀ w ∈ (vx_atS RX10 ic cls ["java/lang/RuntimeException", "java/lang/Exception"]).filter (fun w => !goodWord w), w ∈ lw_tbl ∧ isCD w = true) ∧ Bundle.fit cls = true ∧ ∀ w ∈ Cond.classLink RX10 ik cls :: Cond.initialized cls :: vx_atS RX10 ic cls ["java/lang/RuntimeException", "java/lang/Exception"], vx_ot w = true
theorem fitNM : ∀ n ∈ (["java/lang/RuntimeException", "java/lang/Exception"] : List String), Bundle.fit n = true := by decide +kernel
theorem thw_1 : THW 44 48 "java/lang/IllegalArgumentException" := ⟨a_397, a_23, by decide +kernel, by decide +kernel, by decide +kernel, by decide +kernel⟩
theorem thw_2 : THW 55 59 "java/lang/IllegalStateException" := ⟨a_152, a_24, by decide +kernel, by decide +kernel, by decide +kernel, by decide +kernel⟩
theorem thw_3 : THW 67 71 "java/lang/IndexOutOfBoundsException" := ⟨a_500, a_26, by decide +kernel, by decide +kernel, by decide +kernel, by decide +kernel⟩
def THWN : Prop := Cond.classLink RX10 109 "java/util/NoSuchElementException" ∈ ALL ∧ Cond.initialized "java/util/NoSuchElementException" ∈ ALL ∧ (∀ w ∈ (xs_atS RX10 113 "java/util/NoSuchElementException" 13 prog_24_method_4_code "java/lang/RuntimeException" ["java/lang/Exception"]).filter goodWord, w ∈ lw_tbl) ∧ (∀ w ∈ (xs_atS RX10 113 "java/util/NoSuchElementException" 13 prog_24_method_4_code "java/lang/RuntimeException" ["java/lang/Exception"]).filter (fun w => !goodWord w), w ∈ lw_tbl ∧ isCD w = true) ∧ Bundle.fit "java/util/NoSuchElementException" = true ∧ ∀ w ∈ Cond.classLink RX10 109 "java/util/NoSuchElementException" :: Cond.initialized "java/util/NoSuchElementException" :: xs_atS RX10 113 "java/util/NoSuchElementException" 13 prog_24_method_4_code "java/lang/RuntimeException" ["java/lang/Exception"], vx_ot w = true
theorem thw_4 : THWN := ⟨a_542, a_29, by decide +kernel, by decide +kernel, by decide +kernel, by decide +kernel⟩
section XRW
variable {p : Program} {l : Launch} {e : Env} {h0 mc ms : Nat} {s : State} {m : MethodId} {args : Array Value} {below : List Frame} {meth : Method} {c : Code} {H : Heap} {locs : List Loc} {cells slots : Nat}
variable {cc : ByteArray} {pc nL : Nat} {ls : Array Slot} {rest : List Value} {D : va_G} {cA : Nat → ClassId} {A : Nat → Prop} {w0 : Cond} {X' : Heap → Prop} {rv : Option Value}
theorem CtX_ri {v : Int32} {R : Room} (hx : p.tables.exec = Jvm.exec) (hb : c.code = cc) (hr : meth.sig.returnType = some .int) (hlocks : meth.locks = false) (hX : X' H) (hS : va_S A s.heap H locs) (hc : cells ≤ mc) (hs : slots ≤ ms) (hdg : decode cc pc = .ok (.ireturn, 1)) :
    W p l e R s m args below meth c H locs cells slots (vx_MQ below (CtQX A 0 (some (.int v)) X') (CtXX A 0 X') args s mc ms A) (F0 m pc ls [.int v]) :=
  W.widen hc hs (vx_ret (W.iret hx hb hr (fun t ht _ => ⟨⟨rfl, rfl, by rw [ht]; exact hX⟩, hS.F ht⟩) hS.2.2 hdg hlocks))
theorem CtX_th {e0 ik ic is : Nat} {cls text : String} (hfl : l.stackTraces = false) (hC : CallFix p m c cc nL s args (w0 :: ALL) RX10) (hlocks : meth.locks = false) (htab : ∀ x ∈ c.exceptionTable.toList, False) (hTX : TX A s) (hX : X' H) (hkp : ∀ H1 : Heap, (∀ q : Nat, q < H.size → H1[q]? = H[q]?) → X' H1) (hS : va_S A s.heap H locs) (hw : THW ik ic cls) (hstr : (is, text) ∈ STR) (he : e0 ≠ 0 ∧ cls = exn e0) (hl : ls.size = nL)
    (d0 : decode cc pc = .ok (.new ik, 3)) (d3 : decode cc (pc + 3) = .ok (.dup, 1)) (d4 : decode cc (pc + 4) = .ok (.ldc is, 2)) (d6 : decode cc (pc + 6) = .ok (.invokespecial ic, 3)) (d9 : decode cc (pc + 9) = .ok (.athrow, 1))
    (hh : 6 ≤ h0) (hrest : (rest.map fun v => v.category).sum ≤ 8) (hc : cells + 1 ≤ mc) (hs : slots + 6 ≤ ms) :
    W p l e (RM h0 mc ms) s m args below meth c H locs cells slots (vx_MQ below (CtQX A e0 rv X') (CtXX A e0 X') args s mc ms A) (F0 m pc ls rest) := by
  obtain ⟨w1, w2, w3, w4, w5, w6⟩ := hw
  obtain ⟨⟨z1, z2⟩, z3, z4⟩ := hTX
  obtain ⟨sa, hsa⟩ := z4 _ hstr
  have ht := hC.2.2.2.2
  refine vx_throwS (own := RX10) (cls := cls) (text := text) (names := ["java/lang/RuntimeException", "java/lang/Exception"]) (sa := sa) hC.1 hC.2.1 hfl hC.2.2.2.1 w5 fitNM (tA ht w1) (tA ht w2) hsa
    (vx_hat (fun w hw => tA ht (List.mem_filter.mpr ⟨w3 w hw, (List.mem_filter.mp hw).2⟩)) (fun w hw => hw) (fun w hw => isCD_use (w4 w hw).2 (z3 w (w4 w hw).1 (w4 w hw).2))) w6 z1 z2 hS (hl.trans hC.2.2.1.symm) d0 d3 d4 d6 d9 (fun x hx => absurd (htab x hx) id) ?_ ?_ hc hs hlocks (fun t _ hz hk => ⟨⟨he.1, he.2, hkp _ hk⟩, ?_⟩) hS.2.2 hc hs
  · show 2 + 3 < h0
    omega
  · show _ + (13 * (2 + 1) + 43) ≤ 40 * h0
    omega
  · exact ⟨Nat.le_trans hS.1 hz, fun q h1 h2 => by rw [hk q (Nat.lt_of_lt_of_le h1 hS.1)]; exact hS.2.1 q h1 h2⟩
theorem CtX_thN {is : Nat} {text : String} (hfl : l.stackTraces = false) (hC : CallFix p m c cc nL s args (w0 :: ALL) RX10) (hlocks : meth.locks = false) (htab : ∀ x ∈ c.exceptionTable.toList, False) (hTX : TX A s) (hX : X' H) (hkp : ∀ H1 : Heap, (∀ q : Nat, q < H.size → H1[q]? = H[q]?) → X' H1) (hS : va_S A s.heap H locs) (hw : THWN) (hstr : (is, text) ∈ STR) (hl : ls.size = nL)
    (d0 : decode cc pc = .ok (.new 109, 3)) (d3 : decode cc (pc + 3) = .ok (.dup, 1)) (d4 : decode cc (pc + 4) = .ok (.ldc is, 2)) (d6 : decode cc (pc + 6) = .ok (.invokespecial 113, 3)) (d9 : decode cc (pc + 9) = .ok (.athrow, 1))
    (hh : 6 ≤ h0) (hrest : (rest.map fun v => v.category).sum ≤ 8) (hc : cells + 1 ≤ mc) (hs : slots + 6 ≤ ms) :
    W p l e (RM h0 mc ms) s m args below meth c H locs cells slots (vx_MQ below (CtQX A 4 rv X') (CtXX A 4 X') args s mc ms A) (F0 m pc ls rest) := by
  obtain ⟨w1, w2, w3, w4, w5, w6⟩ := hw
  obtain ⟨⟨z1, z2⟩, z3, z4⟩ := hTX
  obtain ⟨sa, hsa⟩ := z4 _ hstr
  have ht := hC.2.2.2.2
  refine xs_throw (own := RX10) (cls := "java/util/NoSuchElementException") (text := text) (Y0 := "java/lang/RuntimeException") (r := ["java/lang/Exception"]) (ix := 13) (rx := prog_24_method_4_code) (sa := sa) hC.1 hC.2.1 hfl (by decide +kernel) (by decide +kernel) (by decide +kernel) (by decide +kernel) hC.2.2.2.1 w5 fitNM (tA ht w1) (tA ht w2) hsa
    (vx_hat (fun w hw => tA ht (List.mem_filter.mpr ⟨w3 w hw, (List.mem_filter.mp hw).2⟩)) (fun w hw => hw) (fun w hw => isCD_use (w4 w hw).2 (z3 w (w4 w hw).1 (w4 w hw).2))) w6 z1 z2 hS (hl.trans hC.2.2.1.symm) d0 d3 d4 d6 d9 (fun x hx => absurd (htab x hx) id) ?_ ?_ hc hs hlocks (fun t _ hz hk => ⟨⟨by decide, rfl, hkp _ hk⟩, ?_⟩) hS.2.2 hc hs
  · show 2 + 3 < h0
    omega
  · show _ + (13 * (2 + 1) + 43) ≤ 40 * h0
    omega
  · exact ⟨Nat.le_trans hS.1 hz, fun q h1 h2 => by rw [hk q (Nat.lt_of_lt_of_le h1 hS.1)]; exact hS.2.1 q h1 h2⟩
end XRW
