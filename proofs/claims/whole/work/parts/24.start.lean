/-! ===== what the law is given at its entry ===== -/
set_option maxHeartbeats 4000000 in
set_option maxRecDepth 100000 in
theorem law_start {s : State} {b : Addr} (hts : ∀ w ∈ lw_tbl, w.before #[Value.ref b] s = true) (hgv : (Jvm.Cond.and given_1 narrow_1).before #[Value.ref b] s = true) : ∃ (D : va_G) (cA : Nat → ClassId), KX D cA s ∧ (∀ A : Nat → Prop, (∀ a : Nat, a < s.heap.size → ¬ A a) → TX A s) ∧ NX s := by
  have hA : ∀ w ∈ ALL, w.before #[Value.ref b] s = true := fun w hw => hts w (List.mem_filter.mp hw).1
  have hs := flat_of_before _ hgv
  obtain ⟨c0, i0, h0⟩ := u_known (C := RX0) (T := TX0) (N := 3) (n := 3) hA inX0 (hA _ a_99)
  obtain ⟨c1, i1, h1⟩ := u_known (C := RX2) (T := TX2) (N := 11) (n := 11) hA inX2 (hA _ a_598)
  obtain ⟨c2, i2, h2⟩ := u_known (C := RX3) (T := TX3) (N := 11) (n := 11) hA inX3 (hA _ a_630)
  obtain ⟨c3, i3, h3⟩ := u_known (C := RX4) (T := TX4) (N := 2) (n := 2) hA inX4 (hA _ a_85)
  obtain ⟨c4, i4, h4⟩ := u_known (C := RX5) (T := TX5) (N := 12) (n := 12) hA inX5 (hA _ a_564)
  obtain ⟨c5, i5, h5⟩ := u_known (C := RX6) (T := TX6) (N := 5) (n := 5) hA inX6 (hA _ a_264)
  obtain ⟨c6, i6, h6⟩ := u_known (C := RX7) (T := TX7) (N := 9) (n := 9) hA inX7 (hA _ a_455)
  obtain ⟨c7, i7, h7⟩ := u_known (C := RX8) (T := TX8) (N := 6) (n := 6) hA inX8 (hA _ a_118)
  obtain ⟨c8, i8, h8⟩ := u_known (C := RX10) (T := TX10) (N := 9) (n := 9) hA inX10 (hA _ a_73)
  obtain ⟨c9, i9, h9⟩ := u_known (C := RX11) (T := TX11) (N := 36) (n := 36) hA inX11 (hA _ a_962)
  obtain ⟨k0, kk0, co0, f0, g0, e0⟩ := Cond.arrayClass_spec (hA _ a_97)
  obtain ⟨k1, kk1, co1, f1, g1, e1⟩ := Cond.arrayClass_spec (hA _ a_1077)
  obtain ⟨k2, kk2, co2, f2, g2, e2⟩ := Cond.arrayClass_spec (hA _ a_1329)
  obtain ⟨co3, k3, kk3, f3, u3, g3, e3, t3⟩ := Cond.arrayOver_spec (hts _ a_81)
  obtain ⟨co4, k4, kk4, f4, u4, g4, e4, t4⟩ := Cond.arrayOver_spec (hts _ a_83)
  obtain ⟨co5, k5, kk5, f5, u5, g5, e5, t5⟩ := Cond.arrayOver_spec (hts _ a_271)
  have hK : va_K (fun k => [c0, c1, c2, c3, c4, c5, c6, c7, c8, c9].getD k c0, fun k => [i0, i1, i2, i3, i4, i5, i6, i7, i8, i9].getD k i0) vwCl (tysA (fun k => [k0, k1, k2, k3, k4, k5].getD k k0)) s := by
    refine ⟨fun k q hq => ?_, fun k q hq => ?_⟩
    · match k, hq with
      | 0, hq => cases hq; exact h0
      | 1, hq => cases hq; exact h1
      | 2, hq => cases hq; exact h2
      | 3, hq => cases hq; exact h3
      | 4, hq => cases hq; exact h4
      | 5, hq => cases hq; exact h5
      | 6, hq => cases hq; exact h6
      | 7, hq => cases hq; exact h7
      | 8, hq => cases hq; exact h8
      | 9, hq => cases hq; exact h9
      | k + 10, hq => simp at hq
    · match k, hq with
      | 0, hq => cases hq; exact ⟨fun n z => ⟨(fun k h => by cases h), kk0, g0, co0, e0⟩, f0⟩
      | 1, hq => cases hq; exact ⟨fun n z => ⟨(fun k h => by cases h), kk1, g1, co1, e1⟩, f1⟩
      | 2, hq => cases hq; exact ⟨fun n z => ⟨(fun k h => by cases h), kk2, g2, co2, e2⟩, f2⟩
      | 3, hq => cases hq; exact ⟨fun n z => ⟨(fun k h => by cases h), kk3, g3, co3, e3⟩, kk3, co3, g3, e3, f3, t3⟩
      | 4, hq => cases hq; exact ⟨fun n z => ⟨(fun k h => by cases h), kk4, g4, co4, e4⟩, kk4, co4, g4, e4, f4, t4⟩
      | 5, hq => cases hq; exact ⟨fun n z => ⟨(fun k h => by cases h), kk5, g5, co5, e5⟩, kk5, co5, g5, e5, f5, t5⟩
      | k + 6, hq => simp at hq
  have w1 : ∀ q ∈ STR, Cond.stringRef RX10 q.1 q.2 ∈ lw_tbl := by decide +kernel
  have w2 : ∀ q ∈ STR, Cond.exactly (Term.string RX10 q.1) "java/lang/String" ∈ flatC (Jvm.Cond.and given_1 narrow_1) := by decide +kernel
  have w3 : ∀ q ∈ NXp, Cond.not (.castable q.1 q.2) ∈ flatC (Jvm.Cond.and given_1 narrow_1) := by decide +kernel
  have w4 : ∀ E ∈ NXc, Cond.castable E E ∈ lw_tbl := by decide +kernel
  have w5 : Cond.laysStatic Bundle.tN "UNASSIGNED_STACK" Bundle.steD ∈ lw_tbl ∧ Cond.laysStatic Bundle.tN "SUPPRESSED_SENTINEL" Bundle.listD ∈ lw_tbl := by decide +kernel
  have w6 : Cond.isRef (.static Bundle.tN "UNASSIGNED_STACK" Bundle.steD) ∈ flatC (Jvm.Cond.and given_1 narrow_1) ∧ Cond.isRef (.static Bundle.tN "SUPPRESSED_SENTINEL" Bundle.listD) ∈ flatC (Jvm.Cond.and given_1 narrow_1) := by decide +kernel
  refine ⟨_, _, ⟨hK, ⟨va_Nw.of rfl (hts _ a_371), va_Nw.of rfl (hts _ a_792), va_Nw.of rfl (hts _ a_773)⟩, ⟨va_Nw.of rfl (hts _ a_100), va_Nw.of rfl (hts _ a_119)⟩, ⟨va_Nw.of rfl (hts _ a_1349), va_Nw.of rfl (hts _ a_1350), va_Nw.of rfl (hts _ a_1348), va_Nw.of rfl (hts _ a_1347)⟩, va_AO.of (hts _ a_81), va_AO.of (hts _ a_83), va_AO.of (hts _ a_271)⟩, fun A hA9 => ⟨⟨vx_Zqof (hts _ w5.1) (hA _ a_56) (hs _ w6.1) hA9, vx_Zqof (hts _ w5.2) (hA _ a_56) (hs _ w6.2) hA9⟩, fun w hw hc => isCD_of hc (hts w hw), fun q hq => ?_⟩, fun q hq => va_Nc.of (hs _ (w3 q hq)), fun E hE => va_Nw.of rfl (hts _ (w4 E hE))⟩
  obtain ⟨a, c, cell, k, ht, -⟩ := Cond.exactly_spec (hs _ (w2 q hq))
  exact ⟨a, vk_R.of (hts _ (w1 q hq)) ht⟩
section LWR
variable {p : Program} {l : Launch} {e : Env} {R : Room} {s : State} {m : MethodId} {args : Array Value} {below : List Frame} {meth : Method} {c : Code} {H : Heap} {locs : List Loc} {cells slots : Nat} {Q : State → Prop}
variable {cc bytes : ByteArray} {pc nL maxL index n h mc ms : Nat} {ls : Array Slot} {D : va_G} {cA : Nat → ClassId} {A A0 A1 : Nat → Prop} {X X' : Heap → Prop} {H0 : Heap} {own C : String} {w0 : Cond} {y : MethodName} {ret : Option FieldType} {rv : Option Value} {As rest st0 : List Value} {b : Addr} {a : Array Value} {k : Int32} {hh : List (Nat × Nat × Nat × Nat)}
theorem mkBR (hC : CallFix p m c cc nL s args (w0 :: ALL) own) (hcode : Cond.code y bytes maxL ret ∈ ALL) (hini : Cond.initialized y.cls ∈ ALL) (hlink : Cond.methodLink own index y ∈ ALL)
    (hd : y.cls ≠ "java/lang/invoke/MethodHandle" ∧ y.cls ≠ "java/lang/invoke/VarHandle" ∧ (parseMethodDescriptor y.desc).map (fun d => d.parameters.length) = some n) (hR : h + 1 ≤ R.frames ∧ 8 + (maxL + 11) + 40 * h ≤ R.locals) :
    CallB R s args own index y bytes maxL ret (Cond.code y bytes maxL ret :: ALL) (RM h mc ms) mc ms n := by
  refine ⟨rfl, rfl, hR.1, hR.2, ALL_pay hC.2.2.2.2 hcode, List.mem_cons_self, tA hC.2.2.2.2 hcode, tA hC.2.2.2.2 hini, ⟨hd.1, hd.2.1⟩, fun sig q => ?_, tA hC.2.2.2.2 hlink⟩
  have h2 := hd.2.2
  rw [q] at h2
  exact (Option.some.inj h2).symm
theorem Ct_IR (hC : CallFix p m c cc nL s args (w0 :: ALL) own) (hM : Ct l D cA A y bytes maxL none h mc ms (.ref b :: As) X none X') (q : VWi y bytes maxL n) (hlink : Cond.methodLink own index y ∈ ALL) (hR : h + 1 ≤ R.frames ∧ 8 + (maxL + 11) + 40 * h ≤ R.locals)
    (hX : X H) (hK : KX D cA s) (hn : As.length = n) (hl : ls.size = nL) (hrest : (rest.map fun v => v.category).sum ≤ 8) (hdg : decode cc pc = .ok (.invokespecial index, 3)) (hf : cells + mc ≤ R.cells ∧ slots + ms ≤ R.slots) (hS : va_S A0 H0 H locs) (hA : ∀ q, A q → A0 q)
    (kk : ∀ (H1 : Heap) (locs1 : List Loc), X' H1 → H.size ≤ H1.size → (∀ q : Nat, q < H.size → ¬ A q → H1[q]? = H[q]?) → va_S A0 H0 H1 locs1 → W p l e R s m args below meth c H1 locs1 (cells + mc) (slots + ms) Q (F0 m (pc + 3) ls rest)) :
    W p l e R s m args below meth c H locs cells slots Q (F0 m pc ls (As.reverse ++ .ref b :: rest)) := by
  obtain ⟨q1, q2, q3, q4, q5, q6⟩ := q
  exact Ct_go (va_runI hC hM ⟨mkBR hC q1 q2 hlink q5 hR, q4, tA hC.2.2.2.2 q3⟩ ⟨CtP_blind, fun U hU hW => ⟨rfl, by rw [hU]; exact hX, KX.warm hW hK⟩⟩ rfl hn hl rfl (lv_room hrest) hdg hf) hS hA kk
theorem Ct_VR (hC : CallFix p m c cc nL s args (w0 :: ALL) own) (hM : Ct l D cA A y bytes maxL ret h mc ms (.ref b :: As) X rv X') (hcode : Cond.code y bytes maxL ret ∈ ALL) (hini : Cond.initialized y.cls ∈ ALL) (hlink : Cond.methodLink own index y ∈ ALL) (hinst : Cond.instanceMethod y ∈ ALL) (hsel : Cond.selects C y y ∈ ALL)
    (hd : y.cls ≠ "java/lang/invoke/MethodHandle" ∧ y.cls ≠ "java/lang/invoke/VarHandle" ∧ (parseMethodDescriptor y.desc).map (fun d => d.parameters.length) = some n) (hR : h + 1 ≤ R.frames ∧ 8 + (maxL + 11) + 40 * h ≤ R.locals)
    (hrec : ∃ cellB : Cell, H[b]? = some cellB ∧ cellB.vm.isStatics = false ∧ s.vm.findClass C = some cellB.cls) (hX : X H) (hK : KX D cA s) (hn : As.length = n) (hl : ls.size = nL) (hrest : (rest.map fun v => v.category).sum ≤ 8) (hdg : decode cc pc = .ok (.invokevirtual index, 3)) (hf : cells + mc ≤ R.cells ∧ slots + ms ≤ R.slots) (hS : va_S A0 H0 H locs) (hA : ∀ q, A q → A0 q)
    (kk : ∀ (H1 : Heap) (locs1 : List Loc), X' H1 → H.size ≤ H1.size → (∀ q : Nat, q < H.size → ¬ A q → H1[q]? = H[q]?) → va_S A0 H0 H1 locs1 → W p l e R s m args below meth c H1 locs1 (cells + mc) (slots + ms) Q (F0 m (pc + 3) ls (rv.toList ++ rest))) :
    W p l e R s m args below meth c H locs cells slots Q (F0 m pc ls (As.reverse ++ .ref b :: rest)) :=
  Ct_go (va_runV hC hM ⟨mkBR hC hcode hini hlink hd hR, tA hC.2.2.2.2 hinst, tA hC.2.2.2.2 hsel⟩ ⟨CtP_blind, hrec, fun U hU hW => ⟨rfl, by rw [hU]; exact hX, KX.warm hW hK⟩⟩ rfl hn hl rfl (lv_room hrest) hdg hf) hS hA kk
theorem CtW_go (hr : vx_Run p l e R s m args below meth c H locs cells slots mc ms (F0 m pc ls st0) rest (CtQ A1 rv X' a) (fun _ _ _ => False) A1) (hS : va_S A0 H0 H locs) (hA : ∀ q, A1 q → A0 q)
    (kk : ∀ (H1 : Heap) (locs1 : List Loc), X' H1 → H.size ≤ H1.size → (∀ q : Nat, q < H.size → ¬ A1 q → H1[q]? = H[q]?) → va_S A0 H0 H1 locs1 → W p l e R s m args below meth c H1 locs1 (cells + mc) (slots + ms) Q (F0 m (pc + 3) ls (rv.toList ++ rest))) : W p l e R s m args below meth c H locs cells slots Q (F0 m pc ls st0) := by
  intro T hT Y
  rcases hr T hT Y with ⟨v, st₀, t, T', L, h0, Y', hL, e1, e2, ⟨⟨hv, hb⟩, hF⟩, st⟩ | ⟨q, st₀, t, T', L, E, ce, h0, Y', hL, e1, e2, hx, -⟩
  · cases hv
    obtain ⟨k1, k2, k3⟩ := vx_keep h0 e1 hS (fun q _ z => hA q z) (fun q z => hA q z) hL hF
    obtain ⟨t2, a1, b1⟩ := kk T'.heap (locs ++ L) (by rw [e1]; exact hb) k1 k2 k3 T' rfl Y'
    exact ⟨t2, st t2 a1, b1⟩
  · exact absurd hx id
/-- what is asked of a wrapper's name -/
def VWw (y : MethodName) (bytes : ByteArray) (maxL : Nat) (hh : List (Nat × Nat × Nat × Nat)) (n : Nat) : Prop := Cond.codeWith y bytes maxL (some .int) hh ∈ ALL ∧ Cond.initialized y.cls ∈ ALL ∧ Cond.static y ∈ ALL ∧ (y.cls ≠ "java/lang/invoke/MethodHandle" ∧ y.cls ≠ "java/lang/invoke/VarHandle" ∧ (parseMethodDescriptor y.desc).map (fun d => d.parameters.length) = some n)
theorem Ct_SW (hC : CallFix p m c cc nL s args (w0 :: ALL) own) (hM : CtW l D cA A y bytes maxL hh h mc ms As X k X') (q : VWw y bytes maxL hh n) (hlink : Cond.methodLink own index y ∈ ALL) (hR : h + 1 ≤ R.frames ∧ 8 + (maxL + 11) + 40 * h ≤ R.locals)
    (hX : X H) (hK : KX D cA s) (hTX : TX A0 s) (hNX : NX s) (hn : As.length = n) (hl : ls.size = nL) (hrest : (rest.map fun v => v.category).sum ≤ 8) (hdg : decode cc pc = .ok (.invokestatic index, 3)) (hf : cells + mc ≤ R.cells ∧ slots + ms ≤ R.slots) (hS : va_S A0 s.heap H locs) (hA : ∀ q, A q → A0 q)
    (kk : ∀ (H1 : Heap) (locs1 : List Loc), X' H1 → H.size ≤ H1.size → (∀ q : Nat, q < H.size → ¬ A q → H1[q]? = H[q]?) → va_S A0 s.heap H1 locs1 → W p l e R s m args below meth c H1 locs1 (cells + mc) (slots + ms) Q (F0 m (pc + 3) ls (.int k :: rest))) :
    W p l e R s m args below meth c H locs cells slots Q (F0 m pc ls (As.reverse ++ rest)) := by
  obtain ⟨q1, q2, q3, q5⟩ := q
  have ht := hC.2.2.2.2
  refine CtW_go (rv := some (.int k)) (vx_runSX hC hM ⟨⟨rfl, rfl, hR.1, hR.2, ALL_pay ht q1, List.mem_cons_self⟩, tA ht q1, tA ht q2, ⟨q5.1, q5.2.1⟩, fun sig z => ?_, tA ht hlink, tA ht q3⟩ ⟨CtPW_blind, fun U hU hW => ⟨rfl, by rw [hU]; exact hX, KX.warm hW hK, TX.warm hW hU hS hA hTX, NX.warm hW hNX⟩⟩ rfl hn hl rfl (lv_room hrest) hdg hf) hS hA kk
  have h2 := q5.2.2
  rw [z] at h2
  exact (Option.some.inj h2).symm
end LWR
theorem qw_table : VWw yL_table cL_table 5 [(0, 10, 13, 13), (0, 10, 17, 15)] 4 := ⟨a_172, a_50, a_171, by decide +kernel⟩
theorem qw_insert : VWw yL_insert cL_insert 5 [(0, 10, 13, 20), (0, 10, 17, 13), (0, 10, 21, 15)] 4 := ⟨a_301, a_50, a_300, by decide +kernel⟩
theorem qw_delete : VWw yL_delete cL_delete 5 [(0, 10, 13, 20), (0, 10, 17, 25)] 4 := ⟨a_419, a_50, a_418, by decide +kernel⟩
theorem qw_of : VWw yL_of cL_of 4 [(0, 9, 12, 20), (0, 9, 15, 15)] 3 := ⟨a_448, a_50, a_447, by decide +kernel⟩
theorem qw_select : VWw yL_select cL_select 7 [(0, 14, 17, 20), (0, 14, 21, 13), (0, 14, 25, 15)] 6 := ⟨a_550, a_50, a_549, by decide +kernel⟩
theorem qw_drop : VWw yL_drop cL_drop 6 [(0, 12, 15, 20), (0, 12, 19, 13), (0, 12, 23, 15)] 5 := ⟨a_592, a_50, a_591, by decide +kernel⟩
theorem qw_join : VWw yL_join cL_join 5 [(0, 10, 13, 20), (0, 10, 17, 13), (0, 10, 21, 15)] 4 := ⟨a_623, a_50, a_622, by decide +kernel⟩
theorem qw_columns : VWw yL_columns cL_columns 4 [(0, 9, 12, 20)] 3 := ⟨a_655, a_50, a_654, by decide +kernel⟩
theorem qw_key : VWw yL_key cL_key 4 [(0, 9, 12, 20)] 3 := ⟨a_662, a_50, a_661, by decide +kernel⟩
theorem qw_rows : VWw yL_rows cL_rows 4 [(0, 9, 12, 20)] 3 := ⟨a_669, a_50, a_668, by decide +kernel⟩
theorem qw_row : VWw yL_row cL_row 5 [(0, 10, 13, 20)] 4 := ⟨a_676, a_50, a_675, by decide +kernel⟩
theorem qw_open : VWw yL_open cL_open 4 [(0, 9, 12, 20)] 3 := ⟨a_685, a_50, a_684, by decide +kernel⟩
theorem qw_add : VWw yL_add cL_add 4 [(0, 9, 12, 15), (0, 9, 15, 13)] 3 := ⟨a_693, a_50, a_692, by decide +kernel⟩
theorem qw_takeOut : VWw yL_takeOut cL_takeOut 4 [(0, 9, 12, 15), (0, 9, 15, 25)] 3 := ⟨a_701, a_50, a_700, by decide +kernel⟩
theorem qw_change : VWw yL_change cL_change 6 [(0, 12, 15, 15), (0, 12, 19, 13), (0, 12, 23, 25)] 5 := ⟨a_709, a_50, a_708, by decide +kernel⟩
theorem qw_draftRow : VWw yL_draftRow cL_draftRow 4 [(0, 9, 12, 15), (0, 9, 15, 20)] 3 := ⟨a_724, a_50, a_723, by decide +kernel⟩
theorem qw_conflict : VWw yL_conflict cL_conflict 3 [(0, 8, 11, 15)] 2 := ⟨a_732, a_50, a_731, by decide +kernel⟩
theorem qw_conflictRow : VWw yL_conflictRow cL_conflictRow 4 [(0, 9, 12, 15), (0, 9, 15, 13)] 3 := ⟨a_842, a_50, a_841, by decide +kernel⟩
theorem qw_changes : VWw yL_changes cL_changes 3 [(0, 8, 11, 15)] 2 := ⟨a_850, a_50, a_849, by decide +kernel⟩
theorem qw_fewest : VWw yL_fewest cL_fewest 3 [(0, 8, 11, 15)] 2 := ⟨a_865, a_50, a_864, by decide +kernel⟩
theorem qw_putBack : VWw yL_putBack cL_putBack 3 [(0, 8, 11, 15)] 2 := ⟨a_929, a_50, a_928, by decide +kernel⟩
theorem qw_undo : VWw yL_undo cL_undo 3 [(0, 8, 11, 15)] 2 := ⟨a_951, a_50, a_950, by decide +kernel⟩
