/-! THE CLAIM OUT OF ONE WALK OF THE LAW'S BODY. Your part is whole_start (and what it stands on); all else here is the same for every law, but numbers. -/
def R_law : String := "LensbenchLaw"
def lw_P (b : Addr) (xs : List Int32) (args : Array Value) (s : State) : Prop := args = #[.ref b] ∧ s.IntsAt b xs ∧ xs.length ≤ 260 ∧ (Jvm.Cond.and given_1 narrow_1).before args s = true
def lw_Q (_ : Array Value) (s : State) (o : Outcome) (t : State) : Prop := o = .returned (some (.int 1)) ∧ Framed s o t [] 605177 7286094
def lw_Z (below : List Frame) (a : Array Value) (s : State) : State → Prop := fun t => ∃ o, t.status = .running ∧ Ended t below o ∧ lw_Q a s o t
/-- the law's own end, with 1 on the stack, nothing written that was there before, its room as the claim has it -/
theorem lw_ret {p : Program} {l : Launch} {e : Env} {s : State} {m : MethodId} {below : List Frame} {meth : Method} {c : Code} {b : Nat} (hx : p.tables.exec = Jvm.exec) (hb : c.code = code) (hr : meth.sig.returnType = ret) (hlocks : meth.locks = false) {pc : Nat} {H : Heap} {ls : Array Slot} (hdg : decode code pc = .ok (.ireturn, 1)) : W p l e room_1 s m #[Value.ref b] below meth c H [] 605177 7286094 (lw_Z below #[Value.ref b] s) (F0 m pc ls [.int 1]) := by
  intro T hT X
  obtain ⟨fs, hret, hrun, hended, hW, hframe⟩ := X.leave (v := some (.int 1)) (hlocks := hlocks) (fun h => by rw [hr] at h; cases h)
  have hmeth' : T.vm.method? m = some meth := X.method'
  refine ⟨T.setFrames fs, ?_, .returned (some (.int 1)), hrun, hended, rfl, ⟨_, rfl⟩, hW, hframe⟩
  jvm_step X.here [X.here.top, hx, hb, hdg, hmeth', hr, ret, narrow_b1]
  (try refine ⟨rfl, ?_⟩); (try refine ⟨rfl, ?_⟩)
  first | (intro acts; rw [hret _ acts rfl rfl rfl]) | rw [hret _ _ rfl rfl rfl]
  exact Steps.refl _
/-- what holds at the law's entry: the machine, the code, the tables' words (any of lw_tbl by 'hts w (by decide +kernel)'), the script of L ints xs at the cell b, what the Statement gives of the start (any of its parts by flat_of_before) -/
def lw_At (p : Program) (s : State) (m : MethodId) (meth : Method) (c : Code) (b L : Nat) (xs : Nat → Int32) : Prop :=
  p.tables.exec = Jvm.exec ∧ c.code = code ∧ meth.sig.returnType = ret ∧ c.maxLocals = 14 ∧ s.vm.findClass R_law = some m.cls ∧ (∀ w ∈ lw_tbl, w.before #[Value.ref b] s = true) ∧ va_X b L xs s s.heap ∧ b < s.heap.size ∧ meth.locks = false ∧ (Jvm.Cond.and given_1 narrow_1).before #[Value.ref b] s = true
/-! ===== the script's cells ===== -/
def l_cell (xs : Nat → Int32) (L : Nat) (x2 : Int32) : Option Int32 := if Int32.ofNat L ≤ x2 then some (1205586917 * (x2 + 9)) else rd x2 L fun j => some (xs j)
theorem c_cell {l : Launch} {b L : Nat} {xs : Nat → Int32} {k r : Int32} (hL : L ≤ 260) (hf : l_cell xs L k = some r) : Met l yL_cell (Cond.code yL_cell cL_cell 2 (some .int) :: ALL) (RM 0 0 0) (fun v U => v = #[.ref b, .int k] ∧ va_X b L xs U U.heap ∧ b < U.heap.size) (CtQ (fun _ => False) (some (.int r)) (fun _ => True)) 0 0 (fun _ => False) := by
  refine Met.ofW (cc := cL_cell) (maxL := 2) (ret := some .int) (by decide +kernel) rfl ?_
  intro p e s m args below meth c s₁ B9 hml hv
  obtain ⟨rfl, hXs, hbl⟩ := hv
  have hts := atoms_spec (ws := Cond.code yL_cell cL_cell 2 (some .int) :: ALL) B9.pre
  have hown : s.vm.findClass yL_cell.cls = some m.cls := findClass_of_methodNamed B9.named
  have hl := lv_entry ([.ref b, .int k]) (n := 2) (Nat.le_of_ble_eq_true rfl)
  rw [show (#[Value.ref b, Value.int k] : Array Value) = [Value.ref b, Value.int k].toArray from rfl, lg_entry_eq]
  have hl : lv_has ((lg_sl [Value.ref b, Value.int k] ++ List.replicate (2 - (lg_sl [Value.ref b, Value.int k]).length) Slot.unset).toArray) 2 [(0, .ref b), (1, .int k)] := hl
  generalize ((lg_sl [Value.ref b, Value.int k] ++ List.replicate (2 - (lg_sl [Value.ref b, Value.int k]).length) Slot.unset).toArray) = ls at hl ⊢
  have hx := B9.exec
  have hb := B9.bytes
  have hr := B9.returns
  have hlk := B9.notSynchronized
  have hS : va_S (fun _ => False) s.heap s.heap [] := va_S.rf
  unfold l_cell at hf
  refine lv_iload_n hx hb dL_cell_0 rfl (lv_at hl 1 rfl) ?_
  refine lv_aload_n hx hb dL_cell_1 rfl (lv_at hl 0 rfl) ?_
  refine va_slen hx hb hXs hbl (fun z => z) hS dL_cell_2 ?_
  refine lv_icmp_ge (tgt := 12) hx hb dL_cell_3 (by decide) (fun h => ?_) (fun h => ?_)
  · have hf := it_t h hf
    cases hf
    refine lv_ldc (v := 1205586917) hx hb hown (hts _ (List.mem_cons_of_mem _ a_137)) dL_cell_12 ?_
    refine lv_iload_n hx hb dL_cell_14 rfl (lv_at hl 1 rfl) ?_
    refine lv_bipush (v := 9) hx hb dL_cell_15 (by decide) ?_
    refine lv_iadd hx hb dL_cell_17 ?_
    refine lv_imul hx hb dL_cell_18 ?_
    exact Ct_ri hx hb hr hlk trivial hS dL_cell_19
  · have hf := it_f h hf
    obtain ⟨h1, j, ej, hf⟩ := rd_e hf
    cases hf
    refine lv_aload_n hx hb dL_cell_6 rfl (lv_at hl 0 rfl) ?_
    refine lv_iload_n hx hb dL_cell_7 rfl (lv_at hl 1 rfl) ?_
    refine va_sld hx hb hXs hbl (fun z => z) hS h1 dL_cell_8 ?_
    rw [ej]
    refine lv_goto (tgt := 19) hx hb dL_cell_9 (by decide) ?_
    exact Ct_ri hx hb hr hlk trivial hS dL_cell_19
theorem q_cell : VWs yL_cell cL_cell 2 (some .int) 2 := ⟨a_136, a_15, a_135, by decide +kernel⟩
theorem tCell {p : Program} {l : Launch} {e : Env} {R : Room} {s : State} {m : MethodId} {args : Array Value} {below : List Frame} {meth : Method} {c : Code} {H : Heap} {locs : List Loc} {Q : State → Prop} {cc : ByteArray} {pc nL index : Nat} {ls : Array Slot} {rest : List Value} {D : va_G} {cA : Nat → ClassId} {A B : Nat → Prop} {x0 : Nat} {ad : Nat → Nat} {T : Tt} {w0 : Cond} {own : String} {b L : Nat} {xs : Nat → Int32} {k z : Int32}
    (hC : CallFix p m c cc nL s args (w0 :: ALL) own) (hXs : va_X b L xs s s.heap) (hbl : b < s.heap.size) (hL : L ≤ 260) (hz : l_cell xs L k = some z) (hlink : Cond.methodLink own index yL_cell ∈ ALL) (hX : ZX D cA A B x0 ad T H) (hl : ls.size = nL) (hrest : (rest.map fun v => v.category).sum ≤ 8) (hdg : decode cc pc = .ok (.invokestatic index, 3)) (hf : 20 * T.2.2 ≤ R.cells ∧ 200 * T.2.2 ≤ R.slots) (hS : va_S (fun q => s.heap.size ≤ q) s.heap H locs) (hR : 0 + 1 ≤ R.frames ∧ 8 + (2 + 11) + 40 * 0 ≤ R.locals)
    (kk : ∀ (H1 : Heap) (locs1 : List Loc), ZX D cA A B x0 ad T H1 → va_S (fun q => s.heap.size ≤ q) s.heap H1 locs1 → W p l e R s m args below meth c H1 locs1 (20 * T.2.2) (200 * T.2.2) Q (F0 m (pc + 3) ls (.int z :: rest))) : W p l e R s m args below meth c H locs (20 * T.2.2) (200 * T.2.2) Q (F0 m pc ls (.int k :: .ref b :: rest)) := by
  have q := q_cell
  have hbH : H[b]? = s.heap[b]? := hS.2.1 b hbl (Nat.not_le.mpr hbl)
  refine Ct_go (rv := some (.int z)) (va_runS (As := [.ref b, .int k]) (rest := rest) hC (c_cell (b := b) hL hz) ⟨mkBR hC q.1 q.2.1 hlink q.2.2.2.1 hR, tA hC.2.2.2.2 q.2.2.1⟩ ⟨fun a U g mk z => ?_, fun U hU hW => ⟨rfl, ?_, ?_⟩⟩ rfl rfl hl rfl (lv_room hrest) hdg hf) hS (fun q z => z.elim) (fun H1 locs1 _ _ hk hS1 => ?_)
  · obtain ⟨z1, z2, z3⟩ := z
    have hal : U.vm.Alike (U.calling g mk a).vm := by rw [show (U.calling g mk a).vm = U.vm from rfl]; exact Vm.Alike.refl _
    exact ⟨z1, va_X.moved (u := U) (U := U.calling g mk a) hal z2, z3⟩
  · rw [hU]
    exact va_X.moved hW.alike (hXs.kept hbH)
  · rw [hU]
    exact Nat.lt_of_lt_of_le hbl hS.1
  · refine kk H1 locs1 ⟨?_, HP.kept hX.2 (fun q hq => hk q hq (fun z => z))⟩ hS1
    obtain ⟨adc, L9, hC1, h2⟩ := hX.1
    exact ⟨adc, L9, HP.kept hC1 (fun q hq => hk q hq (fun z => z)), h2⟩
noncomputable def p_law (xs : Nat → Int32) (L : Nat) (T : Tt) : Option Int32 :=
  lp (fun _ _ => none) (fun (g4 : Int32 → Tt → Option Int32) (x2 : Int32) (S3 : Tt) => if 140 ≤ x2 then (gd (S3.2.2 ≤ 30000) <| some 1) else (jn (fun (x7 : Int32) => gd (S3.2.2 ≤ 30000) <| cb (l_cell xs L (((3 : Int32) * x2) + 1)) fun (z10 : Int32) => gd (S3.2.2 ≤ 30000) <| cb (l_cell xs L (((3 : Int32) * x2) + 2)) fun (z12 : Int32) => jn (fun (x13 : Int32) (S14 : Tt) => if x13 = 0 then (none) else (jn (fun (S18 : Tt) => if (x2 - x2 / 2 * 2) = 0 then (jn (fun (x23 : Int32) => gd (S18.2.2 + 60 ≤ 30000) <| cb2 (p_draftTold x23 (S18.1, S18.2.1, 0)) fun (z25 : Int32) (T27 : Tt) => lt (tn S18 T27 60) fun (S28 : Tt) => if z25 = 0 then (none) else (g4 (x2 + 1) S28)) fun k24 => if (x2 - x2 / 20 * 20) = 0 then (k24 1) else (k24 0)) else (g4 (x2 + 1) S18)) fun k19 => if (x2 - x2 / 4 * 4) = 3 then (gd (S14.2.2 + 340 ≤ 30000) <| cb2 (p_isTold (S14.1, S14.2.1, 0)) fun (z32 : Int32) (T34 : Tt) => lt (tn S14 T34 340) fun (S35 : Tt) => if z32 = 0 then (none) else (k19 S35)) else (k19 S14))) fun k15 => if 1 ≤ x7 then (if 12 ≤ x7 then (if 21 ≤ x7 then (jn (fun (x40 : Int32) => gd (S3.2.2 + 16 ≤ 30000) <| cb2 (p_drafts x40 z10 z12 (S3.1, S3.2.1, 0)) fun (z42 : Int32) (T44 : Tt) => lt (tn S3 T44 16) fun (S45 : Tt) => k15 z42 S45) fun k41 => if 25 ≤ x7 then (if 31 ≤ x7 then (if 34 ≤ x7 then (if 38 ≤ x7 then (if 42 ≤ x7 then (k41 6) else (k41 5)) else (k41 3)) else (k41 2)) else (k41 1)) else (k41 0)) else (jn (fun (x51 : Int32) => gd (S3.2.2 + 16 ≤ 30000) <| cb2 (p_views x51 z10 z12 (S3.1, S3.2.1, 0)) fun (z53 : Int32) (T55 : Tt) => lt (tn S3 T55 16) fun (S56 : Tt) => k15 z53 S56) fun k52 => if 14 ≤ x7 then (if 16 ≤ x7 then (if 18 ≤ x7 then (k52 3) else (k52 2)) else (k52 1)) else (k52 0))) else (jn (fun (x60 : Int32) => gd (S3.2.2 + 16 ≤ 30000) <| cb2 (p_tables x60 z10 z12 (S3.1, S3.2.1, 0)) fun (z62 : Int32) (T64 : Tt) => lt (tn S3 T64 16) fun (S65 : Tt) => k15 z62 S65) fun k61 => if 11 ≤ x7 then (k61 2) else (k61 1))) else (gd (S3.2.2 + 16 ≤ 30000) <| cb2 (p_tables 0 z10 z12 (S3.1, S3.2.1, 0)) fun (z67 : Int32) (T69 : Tt) => lt (tn S3 T69 16) fun (S70 : Tt) => k15 z67 S70)) fun k8 => if 3 ≤ x2 then (gd (S3.2.2 ≤ 30000) <| cb (l_cell xs L ((3 : Int32) * x2)) fun (z73 : Int32) => if 20 ≤ x2 then (gd (S3.2.2 ≤ 30000) <| cb (l_low z73 44) fun (z75 : Int32) => k8 z75) else (gd (S3.2.2 ≤ 30000) <| cb (l_low z73 21) fun (z77 : Int32) => k8 z77)) else (k8 0))) FU 0 T
set_option maxRecDepth 100000 in
set_option maxHeartbeats 8000000 in
theorem c_p_law {p : Program} {l : Launch} {e : Env} {s : State} {m : MethodId} {below : List Frame} {meth : Method} {c : Code} {b L : Nat} {xs : Nat → Int32} {D : va_G} {cA : Nat → ClassId} {A B : Nat → Prop} {x0 : Nat} {ad : Nat → Nat} (hAB : ∀ q, A q → ¬ B q) (hfl : l.stackTraces = false) (hL : L ≤ 260) (C0 : lw_At p s m meth c b L xs) (hKX : KX D cA s) (hTX : TX (fun q => s.heap.size ≤ q) s) (hNX : NX s) (hA0 : ∀ q, AB A B q → s.heap.size ≤ q) (hAsL : ∀ {T : Tt} {H : Heap} {locs : List Loc}, ZX D cA A B x0 ad T H → va_S (fun q => s.heap.size ≤ q) s.heap H locs → ∀ q : Nat, H.size ≤ q → A q) {T : Tt} {r : Int32} {H : Heap} {locs : List Loc} {ls : Array Slot} (hX : ZX D cA A B x0 ad T H) (hS : va_S (fun q => s.heap.size ≤ q) s.heap H locs) (hl : lv_has ls 14 [(0, .ref b), (1, .ref x0), (2, .ref (ad 0)), (3, .ref (ad 1)), (4, .ref (ad 2)), (5, .ref (ad 3)), (6, .ref (ad 4)), (7, .ref (ad 5)), (8, .ref (ad 6))]) (hf : p_law xs L T = some r) : W p l e room_1 s m #[Value.ref b] below meth c H locs (20 * T.2.2) (200 * T.2.2) (lw_Z below #[Value.ref b] s) (F0 m 47 ls []) := by
  obtain ⟨hx, hb, hr, hml, hown, hts, hXs, hbl, hlocks, hgv⟩ := id C0
  have hT0 : ∀ w ∈ Cond.initialized "LensbenchLaw" :: ALL, w.before #[Value.ref b] s = true := fun w hw => hts w (by
    rcases List.mem_cons.mp hw with rfl | hw
    · exact (List.mem_filter.mp a_15).1
    · exact (List.mem_filter.mp hw).1)
  have hC : CallFix p m c code 14 s #[Value.ref b] (Cond.initialized "LensbenchLaw" :: ALL) "LensbenchLaw" := ⟨hx, hb, hml, hown, hT0⟩
  unfold p_law at hf
  refine lv_iconst (v := 0) hx hb dL_law_47 (by decide) ?_
  refine lv_istore (lv' := [(9, .int 0), (0, .ref b), (1, .ref x0), (2, .ref (ad 0)), (3, .ref (ad 1)), (4, .ref (ad 2)), (5, .ref (ad 3)), (6, .ref (ad 4)), (7, .ref (ad 5)), (8, .ref (ad 6))]) hx hb dL_law_48 hl (by decide) rfl (fun ls hl => ?_)
  obtain ⟨g4, g40, g4s, hf⟩ := lp2_e hf
  have Lg4 : ∀ (n : Nat) (x2 : Int32) (S3 : Tt) (H : Heap) (locs : List Loc) (ls : Array Slot), ZX D cA A B x0 ad S3 H → va_S (fun q => s.heap.size ≤ q) s.heap H locs → lv_has ls 14 [(0, .ref b), (1, .ref x0), (2, .ref (ad 0)), (3, .ref (ad 1)), (4, .ref (ad 2)), (5, .ref (ad 3)), (6, .ref (ad 4)), (7, .ref (ad 5)), (8, .ref (ad 6)), (9, .int x2)] → g4 n x2 S3 = some r → W p l e room_1 s m #[Value.ref b] below meth c H locs (20 * S3.2.2) (200 * S3.2.2) (lw_Z below #[Value.ref b] s) (F0 m 50 ls []) := by
    intro n
    induction n with
    | zero => intro x2 S3 H locs ls hX hS hl hf; rw [g40] at hf; cases hf
    | succ n ihg4 =>
      intro x2 S3 H locs ls hX hS hl hf
      rw [g4s] at hf
      refine lv_iload hx hb dL_law_50 (lv_at hl 9 rfl) ?_
      refine lv_sipush (v := 140) hx hb dL_law_52 (by decide) ?_
      refine lv_icmp_ge (tgt := 385) hx hb dL_law_55 (by decide) (fun c5 => ?_) (fun c5 => ?_)
      · have hf := it_t c5 hf
        refine lv_iconst (v := 1) hx hb dL_law_385 (by decide) ?_
        obtain ⟨h6, hf⟩ := gd_e hf
        refine va_forget hS.2.2 ?_
        refine W.widen (k := 605177) (n := 7286094) (by omega) (by omega) ?_
        exact lw_ret hx hb hr hlocks dL_law_386
      · have hf := it_f c5 hf
        refine lv_iload hx hb dL_law_58 (lv_at hl 9 rfl) ?_
        refine lv_iconst (v := 3) hx hb dL_law_60 (by decide) ?_
        obtain ⟨k8, hk8, hf⟩ := jn1_e hf
        have Jk8 : ∀ (x7 : Int32) (H : Heap) (locs : List Loc) (ls : Array Slot), ZX D cA A B x0 ad S3 H → va_S (fun q => s.heap.size ≤ q) s.heap H locs → lv_has ls 14 [(0, .ref b), (1, .ref x0), (2, .ref (ad 0)), (3, .ref (ad 1)), (4, .ref (ad 2)), (5, .ref (ad 3)), (6, .ref (ad 4)), (7, .ref (ad 5)), (8, .ref (ad 6)), (9, .int x2)] → k8 x7 = some r → W p l e room_1 s m #[Value.ref b] below meth c H locs (20 * S3.2.2) (200 * S3.2.2) (lw_Z below #[Value.ref b] s) (F0 m 93 ls [.int x7]) := by
          intro x7 H locs ls hX hS hl hf
          rw [hk8] at hf
          refine lv_istore (lv' := [(10, .int x7), (0, .ref b), (1, .ref x0), (2, .ref (ad 0)), (3, .ref (ad 1)), (4, .ref (ad 2)), (5, .ref (ad 3)), (6, .ref (ad 4)), (7, .ref (ad 5)), (8, .ref (ad 6)), (9, .int x2)]) hx hb dL_law_93 hl (by decide) rfl (fun ls hl => ?_)
          refine lv_aload_n hx hb dL_law_95 rfl (lv_at hl 1 rfl) ?_
          refine lv_iconst (v := 3) hx hb dL_law_96 (by decide) ?_
          refine lv_iload hx hb dL_law_97 (lv_at hl 10 rfl) ?_
          refine lv_imul hx hb dL_law_99 ?_
          refine lv_iconst (v := 1) hx hb dL_law_100 (by decide) ?_
          refine lv_iadd hx hb dL_law_101 ?_
          obtain ⟨h9, hf⟩ := gd_e hf
          obtain ⟨z10, hz10, hf⟩ := cb_e hf
          refine tCell (rest := []) hC hXs hbl hL hz10 a_134 hX hl.1 (Nat.le_of_ble_eq_true rfl) dL_law_102 ⟨by show 20 * S3.2.2 ≤ 605177; omega, by show 200 * S3.2.2 ≤ 7286094; omega⟩ hS ⟨Nat.le_of_ble_eq_true rfl, Nat.le_of_ble_eq_true rfl⟩ (fun H locs hX hS => ?_)
          refine lv_istore (lv' := [(11, .int z10), (10, .int x7), (0, .ref b), (1, .ref x0), (2, .ref (ad 0)), (3, .ref (ad 1)), (4, .ref (ad 2)), (5, .ref (ad 3)), (6, .ref (ad 4)), (7, .ref (ad 5)), (8, .ref (ad 6)), (9, .int x2)]) hx hb dL_law_105 hl (by decide) rfl (fun ls hl => ?_)
          refine lv_aload_n hx hb dL_law_107 rfl (lv_at hl 2 rfl) ?_
          refine lv_iconst (v := 3) hx hb dL_law_108 (by decide) ?_
          refine lv_iload hx hb dL_law_109 (lv_at hl 11 rfl) ?_
          refine lv_imul hx hb dL_law_111 ?_
          refine lv_iconst (v := 2) hx hb dL_law_112 (by decide) ?_
          refine lv_iadd hx hb dL_law_113 ?_
          obtain ⟨h11, hf⟩ := gd_e hf
          obtain ⟨z12, hz12, hf⟩ := cb_e hf
          refine tCell (rest := []) hC hXs hbl hL hz12 a_134 hX hl.1 (Nat.le_of_ble_eq_true rfl) dL_law_114 ⟨by show 20 * S3.2.2 ≤ 605177; omega, by show 200 * S3.2.2 ≤ 7286094; omega⟩ hS ⟨Nat.le_of_ble_eq_true rfl, Nat.le_of_ble_eq_true rfl⟩ (fun H locs hX hS => ?_)
          refine lv_istore (lv' := [(12, .int z12), (11, .int z10), (10, .int x7), (0, .ref b), (1, .ref x0), (2, .ref (ad 0)), (3, .ref (ad 1)), (4, .ref (ad 2)), (5, .ref (ad 3)), (6, .ref (ad 4)), (7, .ref (ad 5)), (8, .ref (ad 6)), (9, .int x2)]) hx hb dL_law_117 hl (by decide) rfl (fun ls hl => ?_)
          refine lv_iload hx hb dL_law_119 (lv_at hl 2 rfl) ?_
          refine lv_iconst (v := 1) hx hb dL_law_121 (by decide) ?_
          obtain ⟨k15, hk15, hf⟩ := jn2_e hf
          have Jk15 : ∀ (x13 : Int32) (S14 : Tt) (H : Heap) (locs : List Loc) (ls : Array Slot), ZX D cA A B x0 ad S14 H → va_S (fun q => s.heap.size ≤ q) s.heap H locs → lv_has ls 14 [(0, .ref b), (1, .ref x0), (2, .ref (ad 0)), (3, .ref (ad 1)), (4, .ref (ad 2)), (5, .ref (ad 3)), (6, .ref (ad 4)), (7, .ref (ad 5)), (8, .ref (ad 6)), (9, .int x2), (13, .int x13)] → k15 x13 S14 = some r → W p l e room_1 s m #[Value.ref b] below meth c H locs (20 * S14.2.2) (200 * S14.2.2) (lw_Z below #[Value.ref b] s) (F0 m 314 ls []) := by
            intro x13 S14 H locs ls hX hS hl hf
            rw [hk15] at hf
            refine lv_iload hx hb dL_law_314 (lv_at hl 10 rfl) ?_
            refine lv_if_eq (tgt := 377) hx hb dL_law_316 (by decide) (fun c16 => ?_) (fun c16 => ?_)
            · have hf := it_t c16 hf
              refine lv_iconst (v := 0) hx hb dL_law_377 (by decide) ?_
              cases hf
            · have hf := it_f c16 hf
              refine lv_iload hx hb dL_law_319 (lv_at hl 9 rfl) ?_
              refine lv_iconst (v := 4) hx hb dL_law_321 (by decide) ?_
              have h17 : ¬ (4 : Int32) = 0 := by decide
              refine lv_irem hx hb dL_law_322 h17 ?_
              refine lv_iconst (v := 3) hx hb dL_law_323 (by decide) ?_
              obtain ⟨k19, hk19, hf⟩ := jn1_e hf
              have Jk19 : ∀ (S18 : Tt) (H : Heap) (locs : List Loc) (ls : Array Slot), ZX D cA A B x0 ad S18 H → va_S (fun q => s.heap.size ≤ q) s.heap H locs → lv_has ls 14 [(0, .ref b), (1, .ref x0), (2, .ref (ad 0)), (3, .ref (ad 1)), (4, .ref (ad 2)), (5, .ref (ad 3)), (6, .ref (ad 4)), (7, .ref (ad 5)), (8, .ref (ad 6)), (9, .int x2)] → k19 S18 = some r → W p l e room_1 s m #[Value.ref b] below meth c H locs (20 * S18.2.2) (200 * S18.2.2) (lw_Z below #[Value.ref b] s) (F0 m 340 ls []) := by
                intro S18 H locs ls hX hS hl hf
                rw [hk19] at hf
                refine lv_iload hx hb dL_law_340 (lv_at hl 9 rfl) ?_
                refine lv_iconst (v := 2) hx hb dL_law_342 (by decide) ?_
                have h20 : ¬ (2 : Int32) = 0 := by decide
                refine lv_irem hx hb dL_law_343 h20 ?_
                refine lv_if_ne (tgt := 379) hx hb dL_law_344 (by decide) (fun c21 => ?_) (fun c21 => ?_)
                · have hf := it_f c21 hf
                  refine lv_iinc (v := (x2 + 1)) (lv' := [(9, .int (x2 + 1)), (0, .ref b), (1, .ref x0), (2, .ref (ad 0)), (3, .ref (ad 1)), (4, .ref (ad 2)), (5, .ref (ad 3)), (6, .ref (ad 4)), (7, .ref (ad 5)), (8, .ref (ad 6))]) hx hb dL_law_379 hl (k := 9) rfl rfl (by decide) rfl (fun ls hl => ?_)
                  refine lv_goto (tgt := 50) hx hb dL_law_382 (by decide) ?_
                  exact ihg4 _ _ _ _ _ hX hS (lv_sub hl [1, 2, 3, 4, 5, 6, 7, 8, 9, 0] rfl) hf
                · have hf := it_t c21 hf
                  refine lv_aload_n hx hb dL_law_347 rfl (lv_at hl 1 rfl) ?_
                  refine lv_aload_n hx hb dL_law_348 rfl (lv_at hl 2 rfl) ?_
                  refine lv_aload_n hx hb dL_law_349 rfl (lv_at hl 3 rfl) ?_
                  refine lv_aload hx hb dL_law_350 (lv_at hl 4 rfl) ?_
                  refine lv_aload hx hb dL_law_352 (lv_at hl 5 rfl) ?_
                  refine lv_aload hx hb dL_law_354 (lv_at hl 6 rfl) ?_
                  refine lv_aload hx hb dL_law_356 (lv_at hl 8 rfl) ?_
                  refine lv_iload hx hb dL_law_358 (lv_at hl 9 rfl) ?_
                  refine lv_bipush (v := 20) hx hb dL_law_360 (by decide) ?_
                  have h22 : ¬ (20 : Int32) = 0 := by decide
                  refine lv_irem hx hb dL_law_362 h22 ?_
                  obtain ⟨k24, hk24, hf⟩ := jn1_e hf
                  have Jk24 : ∀ (x23 : Int32) (H : Heap) (locs : List Loc) (ls : Array Slot), ZX D cA A B x0 ad S18 H → va_S (fun q => s.heap.size ≤ q) s.heap H locs → lv_has ls 14 [(0, .ref b), (1, .ref x0), (2, .ref (ad 0)), (3, .ref (ad 1)), (4, .ref (ad 2)), (5, .ref (ad 3)), (6, .ref (ad 4)), (7, .ref (ad 5)), (8, .ref (ad 6)), (9, .int x2)] → k24 x23 = some r → W p l e room_1 s m #[Value.ref b] below meth c H locs (20 * S18.2.2) (200 * S18.2.2) (lw_Z below #[Value.ref b] s) (F0 m 371 ls [.int x23, .ref (ad 6), .ref (ad 4), .ref (ad 3), .ref (ad 2), .ref (ad 1), .ref (ad 0), .ref x0]) := by
                    intro x23 H locs ls hX hS hl hf
                    rw [hk24] at hf
                    obtain ⟨h26, hf⟩ := gd_e hf
                    obtain ⟨z25, T27, hz25, hf⟩ := cb2_e hf
                    refine tT (N := 60) (As := [.ref x0, .ref (ad 0), .ref (ad 1), .ref (ad 2), .ref (ad 3), .ref (ad 4), .ref (ad 6), .int x23]) (rest := []) hC (c_p_draftTold hAB hfl hz25) q_p_draftTold a_141 ⟨Nat.le_of_ble_eq_true rfl, Nat.le_of_ble_eq_true rfl⟩ hX (hAsL hX hS) hKX hTX hNX rfl hl.1 (Nat.le_of_ble_eq_true rfl) dL_law_371 ⟨by show 20 * (S18.2.2 + 60) ≤ 605177; omega, by show 200 * (S18.2.2 + 60) ≤ 7286094; omega⟩ hS hA0 (fun H locs hX hS => ?_)
                    obtain ⟨S28, eS28, hf⟩ := lt_e hf
                    rw [← eS28] at hX ⊢
                    refine lv_if_ne (tgt := 379) hx hb dL_law_374 (by decide) (fun c29 => ?_) (fun c29 => ?_)
                    · have hf := it_f c29 hf
                      refine lv_iinc (v := (x2 + 1)) (lv' := [(9, .int (x2 + 1)), (0, .ref b), (1, .ref x0), (2, .ref (ad 0)), (3, .ref (ad 1)), (4, .ref (ad 2)), (5, .ref (ad 3)), (6, .ref (ad 4)), (7, .ref (ad 5)), (8, .ref (ad 6))]) hx hb dL_law_379 hl (k := 9) rfl rfl (by decide) rfl (fun ls hl => ?_)
                      refine lv_goto (tgt := 50) hx hb dL_law_382 (by decide) ?_
                      exact ihg4 _ _ _ _ _ hX hS (lv_sub hl [1, 2, 3, 4, 5, 6, 7, 8, 9, 0] rfl) hf
                    · have hf := it_t c29 hf
                      refine lv_iconst (v := 0) hx hb dL_law_377 (by decide) ?_
                      cases hf
                  refine lv_if_ne (tgt := 370) hx hb dL_law_363 (by decide) (fun c30 => ?_) (fun c30 => ?_)
                  · have hf := it_f c30 hf
                    refine lv_iconst (v := 0) hx hb dL_law_370 (by decide) ?_
                    exact Jk24 _ _ _ _ hX hS (lv_sub hl [0, 1, 2, 3, 4, 5, 6, 7, 8, 9] rfl) hf
                  · have hf := it_t c30 hf
                    refine lv_iconst (v := 1) hx hb dL_law_366 (by decide) ?_
                    refine lv_goto (tgt := 371) hx hb dL_law_367 (by decide) ?_
                    exact Jk24 _ _ _ _ hX hS (lv_sub hl [0, 1, 2, 3, 4, 5, 6, 7, 8, 9] rfl) hf
              refine lv_icmp_ne (tgt := 340) hx hb dL_law_324 (by decide) (fun c31 => ?_) (fun c31 => ?_)
              · have hf := it_f c31 hf
                exact Jk19 _ _ _ _ hX hS (lv_sub hl [0, 1, 2, 3, 4, 5, 6, 7, 8, 9] rfl) hf
              · have hf := it_t c31 hf
                refine lv_aload_n hx hb dL_law_327 rfl (lv_at hl 1 rfl) ?_
                refine lv_aload_n hx hb dL_law_328 rfl (lv_at hl 2 rfl) ?_
                refine lv_aload_n hx hb dL_law_329 rfl (lv_at hl 3 rfl) ?_
                refine lv_aload hx hb dL_law_330 (lv_at hl 4 rfl) ?_
                refine lv_aload hx hb dL_law_332 (lv_at hl 8 rfl) ?_
                obtain ⟨h33, hf⟩ := gd_e hf
                obtain ⟨z32, T34, hz32, hf⟩ := cb2_e hf
                refine tT (N := 340) (As := [.ref x0, .ref (ad 0), .ref (ad 1), .ref (ad 2), .ref (ad 6)]) (rest := []) hC (c_p_isTold hAB hfl hz32) q_p_isTold a_623 ⟨Nat.le_of_ble_eq_true rfl, Nat.le_of_ble_eq_true rfl⟩ hX (hAsL hX hS) hKX hTX hNX rfl hl.1 (Nat.le_of_ble_eq_true rfl) dL_law_334 ⟨by show 20 * (S14.2.2 + 340) ≤ 605177; omega, by show 200 * (S14.2.2 + 340) ≤ 7286094; omega⟩ hS hA0 (fun H locs hX hS => ?_)
                obtain ⟨S35, eS35, hf⟩ := lt_e hf
                rw [← eS35] at hX ⊢
                refine lv_if_eq (tgt := 377) hx hb dL_law_337 (by decide) (fun c36 => ?_) (fun c36 => ?_)
                · have hf := it_t c36 hf
                  refine lv_iconst (v := 0) hx hb dL_law_377 (by decide) ?_
                  cases hf
                · have hf := it_f c36 hf
                  exact Jk19 _ _ _ _ hX hS (lv_sub hl [0, 1, 2, 3, 4, 5, 6, 7, 8, 9] rfl) hf
          refine lv_icmp_ge (tgt := 142) hx hb dL_law_122 (by decide) (fun c37 => ?_) (fun c37 => ?_)
          · have hf := it_t c37 hf
            refine lv_iload hx hb dL_law_142 (lv_at hl 2 rfl) ?_
            refine lv_bipush (v := 12) hx hb dL_law_144 (by decide) ?_
            refine lv_icmp_ge (tgt := 177) hx hb dL_law_146 (by decide) (fun c38 => ?_) (fun c38 => ?_)
            · have hf := it_t c38 hf
              refine lv_iload hx hb dL_law_177 (lv_at hl 2 rfl) ?_
              refine lv_bipush (v := 21) hx hb dL_law_179 (by decide) ?_
              refine lv_icmp_ge (tgt := 235) hx hb dL_law_181 (by decide) (fun c39 => ?_) (fun c39 => ?_)
              · have hf := it_t c39 hf
                refine lv_aload_n hx hb dL_law_235 rfl (lv_at hl 4 rfl) ?_
                refine lv_iload hx hb dL_law_236 (lv_at hl 2 rfl) ?_
                refine lv_bipush (v := 25) hx hb dL_law_238 (by decide) ?_
                obtain ⟨k41, hk41, hf⟩ := jn1_e hf
                have Jk41 : ∀ (x40 : Int32) (H : Heap) (locs : List Loc) (ls : Array Slot), ZX D cA A B x0 ad S3 H → va_S (fun q => s.heap.size ≤ q) s.heap H locs → lv_has ls 14 [(0, .ref b), (1, .ref x0), (2, .ref (ad 0)), (3, .ref (ad 1)), (4, .ref (ad 2)), (5, .ref (ad 3)), (6, .ref (ad 4)), (7, .ref (ad 5)), (8, .ref (ad 6)), (9, .int x2), (11, .int z10), (12, .int z12)] → k41 x40 = some r → W p l e room_1 s m #[Value.ref b] below meth c H locs (20 * S3.2.2) (200 * S3.2.2) (lw_Z below #[Value.ref b] s) (F0 m 293 ls [.int x40, .ref x0]) := by
                  intro x40 H locs ls hX hS hl hf
                  rw [hk41] at hf
                  refine lv_iload hx hb dL_law_293 (lv_at hl 10 rfl) ?_
                  refine lv_iload hx hb dL_law_295 (lv_at hl 11 rfl) ?_
                  refine lv_aload_n hx hb dL_law_297 rfl (lv_at hl 2 rfl) ?_
                  refine lv_aload_n hx hb dL_law_298 rfl (lv_at hl 3 rfl) ?_
                  refine lv_aload hx hb dL_law_299 (lv_at hl 4 rfl) ?_
                  refine lv_aload hx hb dL_law_301 (lv_at hl 5 rfl) ?_
                  refine lv_aload hx hb dL_law_303 (lv_at hl 6 rfl) ?_
                  refine lv_aload hx hb dL_law_305 (lv_at hl 7 rfl) ?_
                  refine lv_aload hx hb dL_law_307 (lv_at hl 8 rfl) ?_
                  obtain ⟨h43, hf⟩ := gd_e hf
                  obtain ⟨z42, T44, hz42, hf⟩ := cb2_e hf
                  refine tT (N := 16) (As := [.ref x0, .int x40, .int z10, .int z12, .ref (ad 0), .ref (ad 1), .ref (ad 2), .ref (ad 3), .ref (ad 4), .ref (ad 5), .ref (ad 6)]) (rest := []) hC (c_p_drafts hAB hfl hz42) q_p_drafts a_956 ⟨Nat.le_of_ble_eq_true rfl, Nat.le_of_ble_eq_true rfl⟩ hX (hAsL hX hS) hKX hTX hNX rfl hl.1 (Nat.le_of_ble_eq_true rfl) dL_law_309 ⟨by show 20 * (S3.2.2 + 16) ≤ 605177; omega, by show 200 * (S3.2.2 + 16) ≤ 7286094; omega⟩ hS hA0 (fun H locs hX hS => ?_)
                  obtain ⟨S45, eS45, hf⟩ := lt_e hf
                  rw [← eS45] at hX ⊢
                  refine lv_istore (lv' := [(13, .int z42), (0, .ref b), (1, .ref x0), (2, .ref (ad 0)), (3, .ref (ad 1)), (4, .ref (ad 2)), (5, .ref (ad 3)), (6, .ref (ad 4)), (7, .ref (ad 5)), (8, .ref (ad 6)), (9, .int x2), (11, .int z10), (12, .int z12)]) hx hb dL_law_312 hl (by decide) rfl (fun ls hl => ?_)
                  exact Jk15 _ _ _ _ _ hX hS (lv_sub hl [1, 2, 3, 4, 5, 6, 7, 8, 9, 10, 0] rfl) hf
                refine lv_icmp_ge (tgt := 247) hx hb dL_law_240 (by decide) (fun c46 => ?_) (fun c46 => ?_)
                · have hf := it_t c46 hf
                  refine lv_iload hx hb dL_law_247 (lv_at hl 2 rfl) ?_
                  refine lv_bipush (v := 31) hx hb dL_law_249 (by decide) ?_
                  refine lv_icmp_ge (tgt := 258) hx hb dL_law_251 (by decide) (fun c47 => ?_) (fun c47 => ?_)
                  · have hf := it_t c47 hf
                    refine lv_iload hx hb dL_law_258 (lv_at hl 2 rfl) ?_
                    refine lv_bipush (v := 34) hx hb dL_law_260 (by decide) ?_
                    refine lv_icmp_ge (tgt := 269) hx hb dL_law_262 (by decide) (fun c48 => ?_) (fun c48 => ?_)
                    · have hf := it_t c48 hf
                      refine lv_iload hx hb dL_law_269 (lv_at hl 2 rfl) ?_
                      refine lv_bipush (v := 38) hx hb dL_law_271 (by decide) ?_
                      refine lv_icmp_ge (tgt := 280) hx hb dL_law_273 (by decide) (fun c49 => ?_) (fun c49 => ?_)
                      · have hf := it_t c49 hf
                        refine lv_iload hx hb dL_law_280 (lv_at hl 2 rfl) ?_
                        refine lv_bipush (v := 42) hx hb dL_law_282 (by decide) ?_
                        refine lv_icmp_ge (tgt := 291) hx hb dL_law_284 (by decide) (fun c50 => ?_) (fun c50 => ?_)
                        · have hf := it_t c50 hf
                          refine lv_bipush (v := 6) hx hb dL_law_291 (by decide) ?_
                          exact Jk41 _ _ _ _ hX hS (lv_sub hl [3, 4, 5, 6, 7, 8, 9, 10, 11, 12, 1, 0] rfl) hf
                        · have hf := it_f c50 hf
                          refine lv_iconst (v := 5) hx hb dL_law_287 (by decide) ?_
                          refine lv_goto (tgt := 293) hx hb dL_law_288 (by decide) ?_
                          exact Jk41 _ _ _ _ hX hS (lv_sub hl [3, 4, 5, 6, 7, 8, 9, 10, 11, 12, 1, 0] rfl) hf
                      · have hf := it_f c49 hf
                        refine lv_iconst (v := 3) hx hb dL_law_276 (by decide) ?_
                        refine lv_goto (tgt := 293) hx hb dL_law_277 (by decide) ?_
                        exact Jk41 _ _ _ _ hX hS (lv_sub hl [3, 4, 5, 6, 7, 8, 9, 10, 11, 12, 1, 0] rfl) hf
                    · have hf := it_f c48 hf
                      refine lv_iconst (v := 2) hx hb dL_law_265 (by decide) ?_
                      refine lv_goto (tgt := 293) hx hb dL_law_266 (by decide) ?_
                      exact Jk41 _ _ _ _ hX hS (lv_sub hl [3, 4, 5, 6, 7, 8, 9, 10, 11, 12, 1, 0] rfl) hf
                  · have hf := it_f c47 hf
                    refine lv_iconst (v := 1) hx hb dL_law_254 (by decide) ?_
                    refine lv_goto (tgt := 293) hx hb dL_law_255 (by decide) ?_
                    exact Jk41 _ _ _ _ hX hS (lv_sub hl [3, 4, 5, 6, 7, 8, 9, 10, 11, 12, 1, 0] rfl) hf
                · have hf := it_f c46 hf
                  refine lv_iconst (v := 0) hx hb dL_law_243 (by decide) ?_
                  refine lv_goto (tgt := 293) hx hb dL_law_244 (by decide) ?_
                  exact Jk41 _ _ _ _ hX hS (lv_sub hl [3, 4, 5, 6, 7, 8, 9, 10, 11, 12, 1, 0] rfl) hf
              · have hf := it_f c39 hf
                refine lv_aload_n hx hb dL_law_184 rfl (lv_at hl 4 rfl) ?_
                refine lv_iload hx hb dL_law_185 (lv_at hl 2 rfl) ?_
                refine lv_bipush (v := 14) hx hb dL_law_187 (by decide) ?_
                obtain ⟨k52, hk52, hf⟩ := jn1_e hf
                have Jk52 : ∀ (x51 : Int32) (H : Heap) (locs : List Loc) (ls : Array Slot), ZX D cA A B x0 ad S3 H → va_S (fun q => s.heap.size ≤ q) s.heap H locs → lv_has ls 14 [(0, .ref b), (1, .ref x0), (2, .ref (ad 0)), (3, .ref (ad 1)), (4, .ref (ad 2)), (5, .ref (ad 3)), (6, .ref (ad 4)), (7, .ref (ad 5)), (8, .ref (ad 6)), (9, .int x2), (11, .int z10), (12, .int z12)] → k52 x51 = some r → W p l e room_1 s m #[Value.ref b] below meth c H locs (20 * S3.2.2) (200 * S3.2.2) (lw_Z below #[Value.ref b] s) (F0 m 219 ls [.int x51, .ref x0]) := by
                  intro x51 H locs ls hX hS hl hf
                  rw [hk52] at hf
                  refine lv_iload hx hb dL_law_219 (lv_at hl 10 rfl) ?_
                  refine lv_iload hx hb dL_law_221 (lv_at hl 11 rfl) ?_
                  refine lv_aload_n hx hb dL_law_223 rfl (lv_at hl 2 rfl) ?_
                  refine lv_aload_n hx hb dL_law_224 rfl (lv_at hl 3 rfl) ?_
                  refine lv_aload hx hb dL_law_225 (lv_at hl 8 rfl) ?_
                  obtain ⟨h54, hf⟩ := gd_e hf
                  obtain ⟨z53, T55, hz53, hf⟩ := cb2_e hf
                  refine tT (N := 16) (As := [.ref x0, .int x51, .int z10, .int z12, .ref (ad 0), .ref (ad 1), .ref (ad 6)]) (rest := []) hC (c_p_views hAB hfl hz53) q_p_views a_667 ⟨Nat.le_of_ble_eq_true rfl, Nat.le_of_ble_eq_true rfl⟩ hX (hAsL hX hS) hKX hTX hNX rfl hl.1 (Nat.le_of_ble_eq_true rfl) dL_law_227 ⟨by show 20 * (S3.2.2 + 16) ≤ 605177; omega, by show 200 * (S3.2.2 + 16) ≤ 7286094; omega⟩ hS hA0 (fun H locs hX hS => ?_)
                  obtain ⟨S56, eS56, hf⟩ := lt_e hf
                  rw [← eS56] at hX ⊢
                  refine lv_istore (lv' := [(13, .int z53), (0, .ref b), (1, .ref x0), (2, .ref (ad 0)), (3, .ref (ad 1)), (4, .ref (ad 2)), (5, .ref (ad 3)), (6, .ref (ad 4)), (7, .ref (ad 5)), (8, .ref (ad 6)), (9, .int x2), (11, .int z10), (12, .int z12)]) hx hb dL_law_230 hl (by decide) rfl (fun ls hl => ?_)
                  refine lv_goto (tgt := 314) hx hb dL_law_232 (by decide) ?_
                  exact Jk15 _ _ _ _ _ hX hS (lv_sub hl [1, 2, 3, 4, 5, 6, 7, 8, 9, 10, 0] rfl) hf
                refine lv_icmp_ge (tgt := 196) hx hb dL_law_189 (by decide) (fun c57 => ?_) (fun c57 => ?_)
                · have hf := it_t c57 hf
                  refine lv_iload hx hb dL_law_196 (lv_at hl 2 rfl) ?_
                  refine lv_bipush (v := 16) hx hb dL_law_198 (by decide) ?_
                  refine lv_icmp_ge (tgt := 207) hx hb dL_law_200 (by decide) (fun c58 => ?_) (fun c58 => ?_)
                  · have hf := it_t c58 hf
                    refine lv_iload hx hb dL_law_207 (lv_at hl 2 rfl) ?_
                    refine lv_bipush (v := 18) hx hb dL_law_209 (by decide) ?_
                    refine lv_icmp_ge (tgt := 218) hx hb dL_law_211 (by decide) (fun c59 => ?_) (fun c59 => ?_)
                    · have hf := it_t c59 hf
                      refine lv_iconst (v := 3) hx hb dL_law_218 (by decide) ?_
                      exact Jk52 _ _ _ _ hX hS (lv_sub hl [3, 4, 5, 6, 7, 8, 9, 10, 11, 12, 1, 0] rfl) hf
                    · have hf := it_f c59 hf
                      refine lv_iconst (v := 2) hx hb dL_law_214 (by decide) ?_
                      refine lv_goto (tgt := 219) hx hb dL_law_215 (by decide) ?_
                      exact Jk52 _ _ _ _ hX hS (lv_sub hl [3, 4, 5, 6, 7, 8, 9, 10, 11, 12, 1, 0] rfl) hf
                  · have hf := it_f c58 hf
                    refine lv_iconst (v := 1) hx hb dL_law_203 (by decide) ?_
                    refine lv_goto (tgt := 219) hx hb dL_law_204 (by decide) ?_
                    exact Jk52 _ _ _ _ hX hS (lv_sub hl [3, 4, 5, 6, 7, 8, 9, 10, 11, 12, 1, 0] rfl) hf
                · have hf := it_f c57 hf
                  refine lv_iconst (v := 0) hx hb dL_law_192 (by decide) ?_
                  refine lv_goto (tgt := 219) hx hb dL_law_193 (by decide) ?_
                  exact Jk52 _ _ _ _ hX hS (lv_sub hl [3, 4, 5, 6, 7, 8, 9, 10, 11, 12, 1, 0] rfl) hf
            · have hf := it_f c38 hf
              refine lv_aload_n hx hb dL_law_149 rfl (lv_at hl 4 rfl) ?_
              refine lv_iload hx hb dL_law_150 (lv_at hl 2 rfl) ?_
              refine lv_bipush (v := 11) hx hb dL_law_152 (by decide) ?_
              obtain ⟨k61, hk61, hf⟩ := jn1_e hf
              have Jk61 : ∀ (x60 : Int32) (H : Heap) (locs : List Loc) (ls : Array Slot), ZX D cA A B x0 ad S3 H → va_S (fun q => s.heap.size ≤ q) s.heap H locs → lv_has ls 14 [(0, .ref b), (1, .ref x0), (2, .ref (ad 0)), (3, .ref (ad 1)), (4, .ref (ad 2)), (5, .ref (ad 3)), (6, .ref (ad 4)), (7, .ref (ad 5)), (8, .ref (ad 6)), (9, .int x2), (11, .int z10), (12, .int z12)] → k61 x60 = some r → W p l e room_1 s m #[Value.ref b] below meth c H locs (20 * S3.2.2) (200 * S3.2.2) (lw_Z below #[Value.ref b] s) (F0 m 162 ls [.int x60, .ref x0]) := by
                intro x60 H locs ls hX hS hl hf
                rw [hk61] at hf
                refine lv_iload hx hb dL_law_162 (lv_at hl 10 rfl) ?_
                refine lv_iload hx hb dL_law_164 (lv_at hl 11 rfl) ?_
                refine lv_aload_n hx hb dL_law_166 rfl (lv_at hl 2 rfl) ?_
                refine lv_aload hx hb dL_law_167 (lv_at hl 8 rfl) ?_
                obtain ⟨h63, hf⟩ := gd_e hf
                obtain ⟨z62, T64, hz62, hf⟩ := cb2_e hf
                refine tT (N := 16) (As := [.ref x0, .int x60, .int z10, .int z12, .ref (ad 0), .ref (ad 6)]) (rest := []) hC (c_p_tables hAB hfl hz62) q_p_tables a_888 ⟨Nat.le_of_ble_eq_true rfl, Nat.le_of_ble_eq_true rfl⟩ hX (hAsL hX hS) hKX hTX hNX rfl hl.1 (Nat.le_of_ble_eq_true rfl) dL_law_169 ⟨by show 20 * (S3.2.2 + 16) ≤ 605177; omega, by show 200 * (S3.2.2 + 16) ≤ 7286094; omega⟩ hS hA0 (fun H locs hX hS => ?_)
                obtain ⟨S65, eS65, hf⟩ := lt_e hf
                rw [← eS65] at hX ⊢
                refine lv_istore (lv' := [(13, .int z62), (0, .ref b), (1, .ref x0), (2, .ref (ad 0)), (3, .ref (ad 1)), (4, .ref (ad 2)), (5, .ref (ad 3)), (6, .ref (ad 4)), (7, .ref (ad 5)), (8, .ref (ad 6)), (9, .int x2), (11, .int z10), (12, .int z12)]) hx hb dL_law_172 hl (by decide) rfl (fun ls hl => ?_)
                refine lv_goto (tgt := 314) hx hb dL_law_174 (by decide) ?_
                exact Jk15 _ _ _ _ _ hX hS (lv_sub hl [1, 2, 3, 4, 5, 6, 7, 8, 9, 10, 0] rfl) hf
              refine lv_icmp_ge (tgt := 161) hx hb dL_law_154 (by decide) (fun c66 => ?_) (fun c66 => ?_)
              · have hf := it_t c66 hf
                refine lv_iconst (v := 2) hx hb dL_law_161 (by decide) ?_
                exact Jk61 _ _ _ _ hX hS (lv_sub hl [3, 4, 5, 6, 7, 8, 9, 10, 11, 12, 1, 0] rfl) hf
              · have hf := it_f c66 hf
                refine lv_iconst (v := 1) hx hb dL_law_157 (by decide) ?_
                refine lv_goto (tgt := 162) hx hb dL_law_158 (by decide) ?_
                exact Jk61 _ _ _ _ hX hS (lv_sub hl [3, 4, 5, 6, 7, 8, 9, 10, 11, 12, 1, 0] rfl) hf
          · have hf := it_f c37 hf
            refine lv_aload_n hx hb dL_law_125 rfl (lv_at hl 4 rfl) ?_
            refine lv_iconst (v := 0) hx hb dL_law_126 (by decide) ?_
            refine lv_iload hx hb dL_law_127 (lv_at hl 1 rfl) ?_
            refine lv_iload hx hb dL_law_129 (lv_at hl 0 rfl) ?_
            refine lv_aload_n hx hb dL_law_131 rfl (lv_at hl 5 rfl) ?_
            refine lv_aload hx hb dL_law_132 (lv_at hl 11 rfl) ?_
            obtain ⟨h68, hf⟩ := gd_e hf
            obtain ⟨z67, T69, hz67, hf⟩ := cb2_e hf
            refine tT (N := 16) (As := [.ref x0, .int 0, .int z10, .int z12, .ref (ad 0), .ref (ad 6)]) (rest := []) hC (c_p_tables hAB hfl hz67) q_p_tables a_888 ⟨Nat.le_of_ble_eq_true rfl, Nat.le_of_ble_eq_true rfl⟩ hX (hAsL hX hS) hKX hTX hNX rfl hl.1 (Nat.le_of_ble_eq_true rfl) dL_law_134 ⟨by show 20 * (S3.2.2 + 16) ≤ 605177; omega, by show 200 * (S3.2.2 + 16) ≤ 7286094; omega⟩ hS hA0 (fun H locs hX hS => ?_)
            obtain ⟨S70, eS70, hf⟩ := lt_e hf
            rw [← eS70] at hX ⊢
            refine lv_istore (lv' := [(13, .int z67), (12, .int z12), (11, .int z10), (10, .int x7), (0, .ref b), (1, .ref x0), (2, .ref (ad 0)), (3, .ref (ad 1)), (4, .ref (ad 2)), (5, .ref (ad 3)), (6, .ref (ad 4)), (7, .ref (ad 5)), (8, .ref (ad 6)), (9, .int x2)]) hx hb dL_law_137 hl (by decide) rfl (fun ls hl => ?_)
            refine lv_goto (tgt := 314) hx hb dL_law_139 (by decide) ?_
            exact Jk15 _ _ _ _ _ hX hS (lv_sub hl [4, 5, 6, 7, 8, 9, 10, 11, 12, 13, 0] rfl) hf
        refine lv_icmp_ge (tgt := 68) hx hb dL_law_61 (by decide) (fun c71 => ?_) (fun c71 => ?_)
        · have hf := it_t c71 hf
          refine lv_aload_n hx hb dL_law_68 rfl (lv_at hl 0 rfl) ?_
          refine lv_iconst (v := 3) hx hb dL_law_69 (by decide) ?_
          refine lv_iload hx hb dL_law_70 (lv_at hl 9 rfl) ?_
          refine lv_imul hx hb dL_law_72 ?_
          obtain ⟨h72, hf⟩ := gd_e hf
          obtain ⟨z73, hz73, hf⟩ := cb_e hf
          refine tCell (rest := []) hC hXs hbl hL hz73 a_134 hX hl.1 (Nat.le_of_ble_eq_true rfl) dL_law_73 ⟨by show 20 * S3.2.2 ≤ 605177; omega, by show 200 * S3.2.2 ≤ 7286094; omega⟩ hS ⟨Nat.le_of_ble_eq_true rfl, Nat.le_of_ble_eq_true rfl⟩ (fun H locs hX hS => ?_)
          refine lv_iload hx hb dL_law_76 (lv_at hl 9 rfl) ?_
          refine lv_bipush (v := 20) hx hb dL_law_78 (by decide) ?_
          refine lv_icmp_ge (tgt := 88) hx hb dL_law_80 (by decide) (fun c74 => ?_) (fun c74 => ?_)
          · have hf := it_t c74 hf
            refine lv_bipush (v := 44) hx hb dL_law_88 (by decide) ?_
            obtain ⟨h76, hf⟩ := gd_e hf
            obtain ⟨z75, hz75, hf⟩ := cb_e hf
            refine tSi (As := [.int z73, .int 44]) (rest := []) hAB hC (c_l_low La_a hz75) q_l_low a_138 ⟨Nat.le_of_ble_eq_true rfl, Nat.le_of_ble_eq_true rfl⟩ hX hKX rfl hl.1 (Nat.le_of_ble_eq_true rfl) dL_law_90 ⟨by show 20 * S3.2.2 ≤ 605177; omega, by show 200 * S3.2.2 ≤ 7286094; omega⟩ hS hA0 (fun H locs hX hS => ?_)
            change ZX D cA A B x0 ad S3 H at hX
            change W p l e room_1 s m #[Value.ref b] below meth c H locs (20 * S3.2.2) (200 * S3.2.2) (lw_Z below #[Value.ref b] s) (F0 m 93 ls [.int z75])
            exact Jk8 _ _ _ _ hX hS (lv_sub hl [0, 1, 2, 3, 4, 5, 6, 7, 8, 9] rfl) hf
          · have hf := it_f c74 hf
            refine lv_bipush (v := 21) hx hb dL_law_83 (by decide) ?_
            refine lv_goto (tgt := 90) hx hb dL_law_85 (by decide) ?_
            obtain ⟨h78, hf⟩ := gd_e hf
            obtain ⟨z77, hz77, hf⟩ := cb_e hf
            refine tSi (As := [.int z73, .int 21]) (rest := []) hAB hC (c_l_low La_a hz77) q_l_low a_138 ⟨Nat.le_of_ble_eq_true rfl, Nat.le_of_ble_eq_true rfl⟩ hX hKX rfl hl.1 (Nat.le_of_ble_eq_true rfl) dL_law_90 ⟨by show 20 * S3.2.2 ≤ 605177; omega, by show 200 * S3.2.2 ≤ 7286094; omega⟩ hS hA0 (fun H locs hX hS => ?_)
            change ZX D cA A B x0 ad S3 H at hX
            change W p l e room_1 s m #[Value.ref b] below meth c H locs (20 * S3.2.2) (200 * S3.2.2) (lw_Z below #[Value.ref b] s) (F0 m 93 ls [.int z77])
            exact Jk8 _ _ _ _ hX hS (lv_sub hl [0, 1, 2, 3, 4, 5, 6, 7, 8, 9] rfl) hf
        · have hf := it_f c71 hf
          refine lv_iconst (v := 0) hx hb dL_law_64 (by decide) ?_
          refine lv_goto (tgt := 93) hx hb dL_law_65 (by decide) ?_
          exact Jk8 _ _ _ _ hX hS (lv_sub hl [0, 1, 2, 3, 4, 5, 6, 7, 8, 9] rfl) hf
  exact Lg4 FU _ _ _ _ _ hX hS (lv_sub hl [1, 2, 3, 4, 5, 6, 7, 8, 9, 0] rfl) hf
