/-! ===== making objects: worlds as lists of cells ===== -/
theorem ar_u0 {D : va_G} {cA : Nat → ClassId} {s : State} {c' : ClassId} (h1 : va_K D vwCl (tysA cA) s) (h2 : va_K D vwCl (tysA cA ++ [(c', .int)]) s) : c' = cA 0 := Option.some.inj (((h2.2 6 _ rfl).2 : s.vm.findClass _ = some c').symm.trans ((h1.2 0 _ rfl).2 : s.vm.findClass _ = some (cA 0)))
theorem ar_u3 {D : va_G} {cA : Nat → ClassId} {s : State} {c' : ClassId} (h1 : va_K D vwCl (tysA cA) s) (h2 : va_K D vwCl (tysA cA ++ [(c', .object "Lensbench$Table")]) s) : c' = cA 3 := by
  obtain ⟨_, _, _, _, _, e1⟩ := (h2.2 6 _ rfl).2
  obtain ⟨_, _, _, _, _, e2⟩ := (h1.2 3 _ rfl).2
  exact Option.some.inj (e1.symm.trans e2)
theorem ar_u4 {D : va_G} {cA : Nat → ClassId} {s : State} {c' : ClassId} (h1 : va_K D vwCl (tysA cA) s) (h2 : va_K D vwCl (tysA cA ++ [(c', .object "Lensbench$View")]) s) : c' = cA 4 := by
  obtain ⟨_, _, _, _, _, e1⟩ := (h2.2 6 _ rfl).2
  obtain ⟨_, _, _, _, _, e2⟩ := (h1.2 4 _ rfl).2
  exact Option.some.inj (e1.symm.trans e2)
theorem ar_u5 {D : va_G} {cA : Nat → ClassId} {s : State} {c' : ClassId} (h1 : va_K D vwCl (tysA cA) s) (h2 : va_K D vwCl (tysA cA ++ [(c', .object "Lensbench$Rows")]) s) : c' = cA 5 := by
  obtain ⟨_, _, _, _, _, e1⟩ := (h2.2 6 _ rfl).2
  obtain ⟨_, _, _, _, _, e2⟩ := (h1.2 5 _ rfl).2
  exact Option.some.inj (e1.symm.trans e2)
section CBR
variable {p : Program} {l : Launch} {e : Env} {R : Room} {s : State} {m : MethodId} {args : Array Value} {below : List Frame} {meth : Method} {c : Code} {H : Heap} {locs : List Loc} {cells slots : Nat} {Q : State → Prop}
variable {cc : ByteArray} {pc nL : Nat} {ls : Array Slot} {rest : List Value} {D : va_G} {cA : Nat → ClassId} {A : Nat → Prop} {ws : va_W} {H0 : Heap} {w0 : Cond} {own : String}
theorem l_newI {n : Int32} {N : Nat} (hx : p.tables.exec = Jvm.exec) (hb : c.code = cc) (hcl : Cond.arrayClass .int ∈ ALL) (hC : CallFix p m c cc nL s args (w0 :: ALL) own) (hK : va_K D vwCl (tysA cA) s) (hP : va_P D vwCl ws H) (hD : va_D A ws) (hS : va_S A H0 H locs) (hA : ∀ q, H0.size ≤ q → A q) (hn : ¬ n < 0) (hN : n.toNatClampNeg = N) (hb2 : N ≤ 1000) (hcells : cells + 1 ≤ R.cells) (hslots : slots + N ≤ R.slots) (hdg : decode cc pc = .ok (.newarray .int, 2))
    (kk : ∀ (q : Nat) (H1 : Heap), va_P D vwCl (ws ++ [(q, .inl (cA 0, N, .inl (fun _ => 0)))]) H1 → va_D A (ws ++ [(q, .inl (cA 0, N, .inl (fun _ => 0)))]) → va_S A H0 H1 locs → W p l e R s m args below meth c H1 locs (cells + 1) (slots + N) Q (F0 m (pc + 2) ls (.ref q :: rest))) : W p l e R s m args below meth c H locs cells slots Q (F0 m pc ls (.int n :: rest)) := by
  refine va_newa (atype := .int) (ty := .int) (a0 := (N, .inl (fun _ => 0))) hx hb (tA hC.2.2.2.2 hcl) rfl hK hP hD hS hA (fun cA => rfl) hn hN ?_ hcells hslots hdg (fun q c' H1 hK2 hP1 hD1 hS1 => ?_)
  · show N * 4 ≤ 536870912
    omega
  · have q2 := ar_u0 hK hK2
    subst q2
    exact kk q H1 hP1 hD1 hS1
theorem l_newQ3 {n : Int32} {N index : Nat} (hx : p.tables.exec = Jvm.exec) (hb : c.code = cc) (hcl : Cond.classLink own index "Lensbench$Table" ∈ ALL) (hC : CallFix p m c cc nL s args (w0 :: ALL) own) (hKX : KX D cA s) (hP : va_P D vwCl ws H) (hD : va_D A ws) (hS : va_S A H0 H locs) (hA : ∀ q, H0.size ≤ q → A q) (hn : ¬ n < 0) (hN : n.toNatClampNeg = N) (hb2 : N ≤ 1000) (hcells : cells + 1 ≤ R.cells) (hslots : slots + N ≤ R.slots) (hdg : decode cc pc = .ok (.anewarray index, 3))
    (kk : ∀ (q : Nat) (H1 : Heap), va_P D vwCl (ws ++ [(q, .inl (cA 3, N, .inr (.inr (.inr (.inr (fun _ => none))))))]) H1 → va_D A (ws ++ [(q, .inl (cA 3, N, .inr (.inr (.inr (.inr (fun _ => none))))))]) → va_S A H0 H1 locs → W p l e R s m args below meth c H1 locs (cells + 1) (slots + N) Q (F0 m (pc + 3) ls (.ref q :: rest))) : W p l e R s m args below meth c H locs cells slots Q (F0 m pc ls (.int n :: rest)) := by
  refine va_newq (C := "Lensbench$Table") hx hb hC.2.2.2.1 (tA hC.2.2.2.2 hcl) hKX.2.2.2.2.1 hKX.1 hP hD hS hA hn hN (by omega) hcells hslots hdg (fun q c' H1 hK2 hP1 hD1 hS1 => ?_)
  have q2 := ar_u3 hKX.1 hK2
  subst q2
  exact kk q H1 hP1 hD1 hS1
theorem l_newQ4 {n : Int32} {N index : Nat} (hx : p.tables.exec = Jvm.exec) (hb : c.code = cc) (hcl : Cond.classLink own index "Lensbench$View" ∈ ALL) (hC : CallFix p m c cc nL s args (w0 :: ALL) own) (hKX : KX D cA s) (hP : va_P D vwCl ws H) (hD : va_D A ws) (hS : va_S A H0 H locs) (hA : ∀ q, H0.size ≤ q → A q) (hn : ¬ n < 0) (hN : n.toNatClampNeg = N) (hb2 : N ≤ 1000) (hcells : cells + 1 ≤ R.cells) (hslots : slots + N ≤ R.slots) (hdg : decode cc pc = .ok (.anewarray index, 3))
    (kk : ∀ (q : Nat) (H1 : Heap), va_P D vwCl (ws ++ [(q, .inl (cA 4, N, .inr (.inr (.inr (.inr (fun _ => none))))))]) H1 → va_D A (ws ++ [(q, .inl (cA 4, N, .inr (.inr (.inr (.inr (fun _ => none))))))]) → va_S A H0 H1 locs → W p l e R s m args below meth c H1 locs (cells + 1) (slots + N) Q (F0 m (pc + 3) ls (.ref q :: rest))) : W p l e R s m args below meth c H locs cells slots Q (F0 m pc ls (.int n :: rest)) := by
  refine va_newq (C := "Lensbench$View") hx hb hC.2.2.2.1 (tA hC.2.2.2.2 hcl) hKX.2.2.2.2.2.1 hKX.1 hP hD hS hA hn hN (by omega) hcells hslots hdg (fun q c' H1 hK2 hP1 hD1 hS1 => ?_)
  have q2 := ar_u4 hKX.1 hK2
  subst q2
  exact kk q H1 hP1 hD1 hS1
theorem l_newQ5 {n : Int32} {N index : Nat} (hx : p.tables.exec = Jvm.exec) (hb : c.code = cc) (hcl : Cond.classLink own index "Lensbench$Rows" ∈ ALL) (hC : CallFix p m c cc nL s args (w0 :: ALL) own) (hKX : KX D cA s) (hP : va_P D vwCl ws H) (hD : va_D A ws) (hS : va_S A H0 H locs) (hA : ∀ q, H0.size ≤ q → A q) (hn : ¬ n < 0) (hN : n.toNatClampNeg = N) (hb2 : N ≤ 1000) (hcells : cells + 1 ≤ R.cells) (hslots : slots + N ≤ R.slots) (hdg : decode cc pc = .ok (.anewarray index, 3))
    (kk : ∀ (q : Nat) (H1 : Heap), va_P D vwCl (ws ++ [(q, .inl (cA 5, N, .inr (.inr (.inr (.inr (fun _ => none))))))]) H1 → va_D A (ws ++ [(q, .inl (cA 5, N, .inr (.inr (.inr (.inr (fun _ => none))))))]) → va_S A H0 H1 locs → W p l e R s m args below meth c H1 locs (cells + 1) (slots + N) Q (F0 m (pc + 3) ls (.ref q :: rest))) : W p l e R s m args below meth c H locs cells slots Q (F0 m pc ls (.int n :: rest)) := by
  refine va_newq (C := "Lensbench$Rows") hx hb hC.2.2.2.1 (tA hC.2.2.2.2 hcl) hKX.2.2.2.2.2.2 hKX.1 hP hD hS hA hn hN (by omega) hcells hslots hdg (fun q c' H1 hK2 hP1 hD1 hS1 => ?_)
  have q2 := ar_u5 hKX.1 hK2
  subst q2
  exact kk q H1 hP1 hD1 hS1
end CBR
section CBI
variable {p : Program} {l : Launch} {e : Env} {h0 mc0 ms0 : Nat} {s : State} {m : MethodId} {args : Array Value} {below : List Frame} {meth : Method} {c : Code} {H : Heap} {locs : List Loc} {cells slots : Nat} {Q : State → Prop}
variable {cc bytes : ByteArray} {pc nL maxL index n h mc ms : Nat} {ls : Array Slot} {D : va_G} {cA : Nat → ClassId} {A A0 : Nat → Prop} {X X' : Heap → Prop} {H0 : Heap} {own : String} {w0 : Cond} {y : MethodName} {As rest : List Value} {b : Addr}
/-- what is asked of a constructor's name -/
def VWi (y : MethodName) (bytes : ByteArray) (maxL n : Nat) : Prop := Cond.code y bytes maxL none ∈ ALL ∧ Cond.initialized y.cls ∈ ALL ∧ Cond.instanceMethod y ∈ ALL ∧ y.name = "<init>" ∧ (y.cls ≠ "java/lang/invoke/MethodHandle" ∧ y.cls ≠ "java/lang/invoke/VarHandle" ∧ (parseMethodDescriptor y.desc).map (fun d => d.parameters.length) = some n) ∧ maxL ≤ 21
theorem Ct_I (hC : CallFix p m c cc nL s args (w0 :: ALL) own) (hM : Ct l D cA A y bytes maxL none h mc ms (.ref b :: As) X none X') (q : VWi y bytes maxL n) (hlink : Cond.methodLink own index y ∈ ALL) (hR : h + 1 ≤ h0)
    (hX : X H) (hK : KX D cA s) (hn : As.length = n) (hl : ls.size = nL) (hrest : (rest.map fun v => v.category).sum ≤ 8) (hdg : decode cc pc = .ok (.invokespecial index, 3)) (hf : cells + mc ≤ mc0 ∧ slots + ms ≤ ms0) (hS : va_S A0 H0 H locs) (hA : ∀ q, A q → A0 q)
    (kk : ∀ (H1 : Heap) (locs1 : List Loc), X' H1 → H.size ≤ H1.size → (∀ q : Nat, q < H.size → ¬ A q → H1[q]? = H[q]?) → va_S A0 H0 H1 locs1 → W p l e (RM h0 mc0 ms0) s m args below meth c H1 locs1 (cells + mc) (slots + ms) Q (F0 m (pc + 3) ls rest)) :
    W p l e (RM h0 mc0 ms0) s m args below meth c H locs cells slots Q (F0 m pc ls (As.reverse ++ .ref b :: rest)) := by
  obtain ⟨q1, q2, q3, q4, q5, q6⟩ := q
  exact Ct_go (va_runI hC hM ⟨mkB hC q1 q2 hlink q5 ⟨hR, q6⟩, q4, tA hC.2.2.2.2 q3⟩ ⟨CtP_blind, fun U hU hW => ⟨rfl, by rw [hU]; exact hX, KX.warm hW hK⟩⟩ rfl hn hl rfl (lv_room hrest) hdg hf) hS hA kk
/-- a private constructor of a nest mate -/
theorem Ct_IN {host : String} (hC : CallFix p m c cc nL s args (w0 :: ALL) own) (hM : Ct l D cA A y bytes maxL none h mc ms (.ref b :: As) X none X') (q : VWi y bytes maxL n) (hlink : va_Nw (.methodLinkNest own index y host) s) (hR : h + 1 ≤ h0)
    (hX : X H) (hK : KX D cA s) (hn : As.length = n) (hl : ls.size = nL) (hrest : (rest.map fun v => v.category).sum ≤ 8) (hdg : decode cc pc = .ok (.invokespecial index, 3)) (hf : cells + mc ≤ mc0 ∧ slots + ms ≤ ms0) (hS : va_S A0 H0 H locs) (hA : ∀ q, A q → A0 q)
    (kk : ∀ (H1 : Heap) (locs1 : List Loc), X' H1 → H.size ≤ H1.size → (∀ q : Nat, q < H.size → ¬ A q → H1[q]? = H[q]?) → va_S A0 H0 H1 locs1 → W p l e (RM h0 mc0 ms0) s m args below meth c H1 locs1 (cells + mc) (slots + ms) Q (F0 m (pc + 3) ls rest)) :
    W p l e (RM h0 mc0 ms0) s m args below meth c H locs cells slots Q (F0 m pc ls (As.reverse ++ .ref b :: rest)) := by
  obtain ⟨q1, q2, q3, q4, q5, q6⟩ := q
  have ht := hC.2.2.2.2
  refine Ct_go (va_runIN hC hM ⟨⟨⟨rfl, rfl, hR, ?_, ALL_pay ht q1, List.mem_cons_self⟩, tA ht q1, tA ht q2, ⟨q5.1, q5.2.1⟩, fun sig z => ?_, va_Nw.use rfl hlink⟩, q4, tA ht q3⟩ ⟨CtP_blind, fun U hU hW => ⟨rfl, by rw [hU]; exact hX, KX.warm hW hK⟩⟩ rfl hn hl rfl (lv_room hrest) hdg hf) hS hA kk
  · show 8 + (maxL + 11) + 40 * h ≤ 40 * h0
    omega
  · have h2 := q5.2.2
    rw [z] at h2
    exact (Option.some.inj h2).symm
end CBI
theorem dfX0 : ∀ j, j < 3 → defaultValue (tyX0 j) = vp_V [.int 0, .int 0, .int 0] j := by
  intro j hj
  have q : j = 0 ∨ j = 1 ∨ j = 2 := by omega
  rcases q with rfl | rfl | rfl <;> rfl
theorem dfX2 : ∀ j, j < 11 → defaultValue (tyX2 j) = vp_V [.int 0, .int 0, .int 0, .int 0, .null, .null, .null, .null, .null, .int 0, .int 0] j := by
  intro j hj
  have q : j = 0 ∨ j = 1 ∨ j = 2 ∨ j = 3 ∨ j = 4 ∨ j = 5 ∨ j = 6 ∨ j = 7 ∨ j = 8 ∨ j = 9 ∨ j = 10 := by omega
  rcases q with rfl | rfl | rfl | rfl | rfl | rfl | rfl | rfl | rfl | rfl | rfl <;> rfl
theorem dfX3 : ∀ j, j < 11 → defaultValue (tyX3 j) = vp_V [.int 0, .int 0, .int 0, .int 0, .null, .null, .null, .null, .null, .null, .int 0] j := by
  intro j hj
  have q : j = 0 ∨ j = 1 ∨ j = 2 ∨ j = 3 ∨ j = 4 ∨ j = 5 ∨ j = 6 ∨ j = 7 ∨ j = 8 ∨ j = 9 ∨ j = 10 := by omega
  rcases q with rfl | rfl | rfl | rfl | rfl | rfl | rfl | rfl | rfl | rfl | rfl <;> rfl
theorem dfX4 : ∀ j, j < 2 → defaultValue (tyX4 j) = vp_V [.null, .int 0] j := by
  intro j hj
  have q : j = 0 ∨ j = 1 := by omega
  rcases q with rfl | rfl <;> rfl
theorem dfX5 : ∀ j, j < 12 → defaultValue (tyX5 j) = vp_V [.int 0, .int 0, .int 0, .int 0, .null, .null, .null, .null, .null, .int 0, .int 0, .int 0] j := by
  intro j hj
  have q : j = 0 ∨ j = 1 ∨ j = 2 ∨ j = 3 ∨ j = 4 ∨ j = 5 ∨ j = 6 ∨ j = 7 ∨ j = 8 ∨ j = 9 ∨ j = 10 ∨ j = 11 := by omega
  rcases q with rfl | rfl | rfl | rfl | rfl | rfl | rfl | rfl | rfl | rfl | rfl | rfl <;> rfl
theorem dfX6 : ∀ j, j < 5 → defaultValue (tyX6 j) = vp_V [.int 0, .int 0, .null, .null, .null] j := by
  intro j hj
  have q : j = 0 ∨ j = 1 ∨ j = 2 ∨ j = 3 ∨ j = 4 := by omega
  rcases q with rfl | rfl | rfl | rfl | rfl <;> rfl
theorem dfX7 : ∀ j, j < 9 → defaultValue (tyX7 j) = vp_V [.int 0, .int 0, .int 0, .int 0, .null, .null, .null, .null, .null] j := by
  intro j hj
  have q : j = 0 ∨ j = 1 ∨ j = 2 ∨ j = 3 ∨ j = 4 ∨ j = 5 ∨ j = 6 ∨ j = 7 ∨ j = 8 := by omega
  rcases q with rfl | rfl | rfl | rfl | rfl | rfl | rfl | rfl | rfl <;> rfl
theorem dfX8 : ∀ j, j < 6 → defaultValue (tyX8 j) = vp_V [.null, .null, .int 0, .int 0, .int 0, .int 0] j := by
  intro j hj
  have q : j = 0 ∨ j = 1 ∨ j = 2 ∨ j = 3 ∨ j = 4 ∨ j = 5 := by omega
  rcases q with rfl | rfl | rfl | rfl | rfl | rfl <;> rfl
theorem dfX10 : ∀ j, j < 9 → defaultValue (tyX10 j) = vp_V [.null, .int 0, .null, .int 0, .null, .null, .null, .null, .int 0] j := by
  intro j hj
  have q : j = 0 ∨ j = 1 ∨ j = 2 ∨ j = 3 ∨ j = 4 ∨ j = 5 ∨ j = 6 ∨ j = 7 ∨ j = 8 := by omega
  rcases q with rfl | rfl | rfl | rfl | rfl | rfl | rfl | rfl | rfl <;> rfl
