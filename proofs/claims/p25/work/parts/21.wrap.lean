set_option maxRecDepth 100000 in
set_option maxHeartbeats 4000000 in
theorem w_table {l : Launch} {D : va_G} {cA : Nat → ClassId} {A : Nat → Prop} {G : Gt} {nt nv x0 : Nat} (hfl : l.stackTraces = false) {x1 : Int32} {x2 : Int32} {S : St} (hSX : SX S nt nv) {e0 : Nat} {r : Int32} {S' : St} {G' : Gt} {nt' nv' : Nat} (hf : d10_table G nt nv x1 x2 S = some (e0, r, S', G', nt', nv')) (hk : e0 = 0 ∨ e0 = 1 ∨ e0 = 2) :
    CtW l D cA A yL_table cL_table 5 [(0, 7, 10, 14), (0, 7, 16, 16)] 7 20 200 [.ref x0, .int x1, .int x2] (fun H => AX D cA A x0 S G nt nv H ∧ (∀ q : Nat, H.size ≤ q → A q)) (ex e0 r) (AX D cA A x0 S' G' nt' nv') := by
  refine CtW_of (by decide +kernel) (Nat.le_of_ble_eq_true rfl) ?_
  intro p e s m args below meth c ls hC hr hlk htab hX hKX hTX hNX hl
  obtain ⟨hAX, hAs⟩ := hX
  have hrec := AX.rec hKX.1 hAX
  obtain ⟨ad, L, hX, hG, hE, hx0⟩ := hAX
  have hx := hC.1
  have hb := hC.2.1
  have hS : va_S A s.heap s.heap [] := va_S.rf
  have hl : lv_has ls 5 [(0, .ref x0), (1, .int x1), (2, .int x2)] := hl
  refine lv_aload_n hx hb dL_table_0 rfl (lv_at hl 0 rfl) ?_
  refine lv_iload_n hx hb dL_table_1 rfl (lv_at hl 1 rfl) ?_
  refine lv_iload_n hx hb dL_table_2 rfl (lv_at hl 2 rfl) ?_
  rw [← hx0] at hrec
  refine W.eq (g2 := F0 m 3 ls [.int x2, .int x1, .ref (ad (5, 0))]) (by rw [hx0]) ?_
  refine Ct_VX (X := fun H => DX D cA A ad L G S H ∧ ∀ q : Nat, H.size ≤ q → A q) (X' := AX D cA A x0 S' G' nt' nv') (As := [.int x1, .int x2]) (rest := []) hC (c_d10_table hfl hG hE hx0 hSX hf) q_d10_table a_894 (Nat.le_of_ble_eq_true rfl) hrec ⟨hX, hAs⟩ hKX hTX hS (fun q z => z) rfl hl.1 (Nat.le_of_ble_eq_true rfl) dL_table_3 ⟨Nat.le_of_ble_eq_true rfl, Nat.le_of_ble_eq_true rfl⟩ (fun he H locs hX1 hz1 hk1 hS => ?_) (fun he q9 ce H locs hX1 hz1 hk1 hS hce hcv hcl => ?_)
  · subst he
    refine lv_istore_n (lv' := [(3, .int r), (0, .ref x0), (1, .int x1), (2, .int x2)]) hx hb dL_table_6 rfl hl (by decide) rfl (fun ls hl => ?_)
    refine lv_goto (tgt := 22) hx hb dL_table_7 (by decide) ?_
    refine lv_iload_n hx hb dL_table_22 rfl (lv_at hl 0 rfl) ?_
    exact CtW_ri hx hb hr hlk hX1 hS (Nat.le_of_ble_eq_true rfl) (Nat.le_of_ble_eq_true rfl) dL_table_23
  · rcases hk with h | h | h
    · exact absurd h he
    · subst h
      refine vx_catch (own := "LensbenchLaw") (name := "java/lang/IllegalArgumentException") (E := "java/lang/IllegalArgumentException") hC.2.2.2.1 [] ⟨0, 7, 10, 14⟩ [⟨0, 7, 16, 16⟩] htab (fun z hz => by cases hz) (by decide) (by decide) (tA hC.2.2.2.2 a_392) (va_Nw.use rfl (hNX.2 _ (by decide))) hce hcv hcl ?_
      refine lv_astore (lv' := [(4, .ref q9), (0, .ref x0), (1, .int x1), (2, .int x2)]) hx hb dL_table_10 hl (by decide) rfl (fun ls hl => ?_)
      refine lv_sipush (v := (-7200)) hx hb dL_table_12 (by decide) ?_
      exact CtW_ri hx hb hr hlk hX1 hS (Nat.le_of_ble_eq_true rfl) (Nat.le_of_ble_eq_true rfl) dL_table_15
    · subst h
      refine vx_catch (own := "LensbenchLaw") (name := "java/lang/IllegalStateException") (E := "java/lang/IllegalStateException") hC.2.2.2.1 [⟨0, 7, 10, 14⟩] ⟨0, 7, 16, 16⟩ [] htab (fun z hz => by
        simp only [List.mem_cons, List.not_mem_nil, or_false] at hz
        subst hz
        · exact Or.inr ⟨by decide, "java/lang/IllegalArgumentException", tA hC.2.2.2.2 a_392, hNX.1 ("java/lang/IllegalStateException", "java/lang/IllegalArgumentException") (by decide)⟩
        ) (by decide) (by decide) (tA hC.2.2.2.2 a_147) (va_Nw.use rfl (hNX.2 _ (by decide))) hce hcv hcl ?_
      refine lv_astore (lv' := [(4, .ref q9), (0, .ref x0), (1, .int x1), (2, .int x2)]) hx hb dL_table_16 hl (by decide) rfl (fun ls hl => ?_)
      refine lv_sipush (v := (-7300)) hx hb dL_table_18 (by decide) ?_
      exact CtW_ri hx hb hr hlk hX1 hS (Nat.le_of_ble_eq_true rfl) (Nat.le_of_ble_eq_true rfl) dL_table_21
noncomputable def k_table (x1 : Int32) (x2 : Int32) (C : Cs) : Option (Int32 × Cs) :=
  gp (SX C.1 C.2.2.1 C.2.2.2) <| (d10_table C.2.1 C.2.2.1 C.2.2.2 x1 x2 C.1).bind fun q => gd (q.1 = 0 ∨ q.1 = 1 ∨ q.1 = 2) <| some (ex q.1 q.2.1, (q.2.2.1, q.2.2.2.1, q.2.2.2.2.1, q.2.2.2.2.2))
theorem v_table {l : Launch} {D : va_G} {cA : Nat → ClassId} {A : Nat → Prop} {x0 : Nat} (hfl : l.stackTraces = false) {x1 : Int32} {x2 : Int32} {C C' : Cs} {z : Int32} (hf : k_table x1 x2 C = some (z, C')) : CtW l D cA A yL_table cL_table 5 [(0, 7, 10, 14), (0, 7, 16, 16)] 7 20 200 [.ref x0, .int x1, .int x2] (fun H => CX D cA A x0 C H ∧ (∀ q : Nat, H.size ≤ q → A q)) z (CX D cA A x0 C') := by
  unfold k_table at hf
  obtain ⟨hSX, hf⟩ := gp_e hf
  obtain ⟨q, hq, hf⟩ := Option.bind_eq_some_iff.mp hf
  obtain ⟨hk, hf⟩ := gd_e hf
  cases hf
  obtain ⟨S, G, nt, nv⟩ := C
  obtain ⟨e0, r, S', G', nt', nv'⟩ := q
  exact w_table hfl hSX hq hk
theorem qw_table : VWw yL_table cL_table 5 [(0, 7, 10, 14), (0, 7, 16, 16)] 3 := ⟨a_893, a_15, a_892, by decide +kernel⟩

set_option maxRecDepth 100000 in
set_option maxHeartbeats 4000000 in
theorem w_insert {l : Launch} {D : va_G} {cA : Nat → ClassId} {A : Nat → Prop} {G : Gt} {nt nv x0 : Nat} (hfl : l.stackTraces = false) {x1 : Int32} {x2 : Int32} {S : St} {e0 : Nat} {r : Int32} {S' : St} (hf : d10_insert G nt nv x1 x2 S = some (e0, r, S')) (hk : e0 = 0 ∨ e0 = 3 ∨ e0 = 1 ∨ e0 = 2) :
    CtW l D cA A yL_insert cL_insert 5 [(0, 7, 10, 21), (0, 7, 16, 14), (0, 7, 22, 16)] 7 20 200 [.ref x0, .int x1, .int x2] (fun H => AX D cA A x0 S G nt nv H ∧ (∀ q : Nat, H.size ≤ q → A q)) (ex e0 r) (AX D cA A x0 S' G nt nv) := by
  refine CtW_of (by decide +kernel) (Nat.le_of_ble_eq_true rfl) ?_
  intro p e s m args below meth c ls hC hr hlk htab hX hKX hTX hNX hl
  obtain ⟨hAX, hAs⟩ := hX
  have hrec := AX.rec hKX.1 hAX
  obtain ⟨ad, L, hX, hG, hE, hx0⟩ := hAX
  have hx := hC.1
  have hb := hC.2.1
  have hS : va_S A s.heap s.heap [] := va_S.rf
  have hl : lv_has ls 5 [(0, .ref x0), (1, .int x1), (2, .int x2)] := hl
  refine lv_aload_n hx hb dL_insert_0 rfl (lv_at hl 0 rfl) ?_
  refine lv_iload_n hx hb dL_insert_1 rfl (lv_at hl 1 rfl) ?_
  refine lv_iload_n hx hb dL_insert_2 rfl (lv_at hl 2 rfl) ?_
  rw [← hx0] at hrec
  refine W.eq (g2 := F0 m 3 ls [.int x2, .int x1, .ref (ad (5, 0))]) (by rw [hx0]) ?_
  refine Ct_VX (X := fun H => DX D cA A ad L G S H ∧ ∀ q : Nat, H.size ≤ q → A q) (X' := AX D cA A x0 S' G nt nv) (As := [.int x1, .int x2]) (rest := []) hC (CtX.to (c_d10_insert hfl hG hf) (fun H q => q.1) (fun H q => AX_of q hG hE hx0)) q_d10_insert a_938 (Nat.le_of_ble_eq_true rfl) hrec ⟨hX, hAs⟩ hKX hTX hS (fun q z => z) rfl hl.1 (Nat.le_of_ble_eq_true rfl) dL_insert_3 ⟨Nat.le_of_ble_eq_true rfl, Nat.le_of_ble_eq_true rfl⟩ (fun he H locs hX1 hz1 hk1 hS => ?_) (fun he q9 ce H locs hX1 hz1 hk1 hS hce hcv hcl => ?_)
  · subst he
    refine lv_istore_n (lv' := [(3, .int r), (0, .ref x0), (1, .int x1), (2, .int x2)]) hx hb dL_insert_6 rfl hl (by decide) rfl (fun ls hl => ?_)
    refine lv_goto (tgt := 28) hx hb dL_insert_7 (by decide) ?_
    refine lv_iload_n hx hb dL_insert_28 rfl (lv_at hl 0 rfl) ?_
    exact CtW_ri hx hb hr hlk hX1 hS (Nat.le_of_ble_eq_true rfl) (Nat.le_of_ble_eq_true rfl) dL_insert_29
  · rcases hk with h | h | h | h
    · exact absurd h he
    · subst h
      refine vx_catch (own := "LensbenchLaw") (name := "java/lang/IndexOutOfBoundsException") (E := "java/lang/IndexOutOfBoundsException") hC.2.2.2.1 [] ⟨0, 7, 10, 21⟩ [⟨0, 7, 16, 14⟩, ⟨0, 7, 22, 16⟩] htab (fun z hz => by cases hz) (by decide) (by decide) (tA hC.2.2.2.2 a_495) (va_Nw.use rfl (hNX.2 _ (by decide))) hce hcv hcl ?_
      refine lv_astore (lv' := [(4, .ref q9), (0, .ref x0), (1, .int x1), (2, .int x2)]) hx hb dL_insert_10 hl (by decide) rfl (fun ls hl => ?_)
      refine lv_sipush (v := (-7100)) hx hb dL_insert_12 (by decide) ?_
      exact CtW_ri hx hb hr hlk hX1 hS (Nat.le_of_ble_eq_true rfl) (Nat.le_of_ble_eq_true rfl) dL_insert_15
    · subst h
      refine vx_catch (own := "LensbenchLaw") (name := "java/lang/IllegalArgumentException") (E := "java/lang/IllegalArgumentException") hC.2.2.2.1 [⟨0, 7, 10, 21⟩] ⟨0, 7, 16, 14⟩ [⟨0, 7, 22, 16⟩] htab (fun z hz => by
        simp only [List.mem_cons, List.not_mem_nil, or_false] at hz
        subst hz
        · exact Or.inr ⟨by decide, "java/lang/IndexOutOfBoundsException", tA hC.2.2.2.2 a_495, hNX.1 ("java/lang/IllegalArgumentException", "java/lang/IndexOutOfBoundsException") (by decide)⟩
        ) (by decide) (by decide) (tA hC.2.2.2.2 a_392) (va_Nw.use rfl (hNX.2 _ (by decide))) hce hcv hcl ?_
      refine lv_astore (lv' := [(4, .ref q9), (0, .ref x0), (1, .int x1), (2, .int x2)]) hx hb dL_insert_16 hl (by decide) rfl (fun ls hl => ?_)
      refine lv_sipush (v := (-7200)) hx hb dL_insert_18 (by decide) ?_
      exact CtW_ri hx hb hr hlk hX1 hS (Nat.le_of_ble_eq_true rfl) (Nat.le_of_ble_eq_true rfl) dL_insert_21
    · subst h
      refine vx_catch (own := "LensbenchLaw") (name := "java/lang/IllegalStateException") (E := "java/lang/IllegalStateException") hC.2.2.2.1 [⟨0, 7, 10, 21⟩, ⟨0, 7, 16, 14⟩] ⟨0, 7, 22, 16⟩ [] htab (fun z hz => by
        simp only [List.mem_cons, List.not_mem_nil, or_false] at hz
        rcases hz with rfl | rfl
        · exact Or.inr ⟨by decide, "java/lang/IndexOutOfBoundsException", tA hC.2.2.2.2 a_495, hNX.1 ("java/lang/IllegalStateException", "java/lang/IndexOutOfBoundsException") (by decide)⟩
        · exact Or.inr ⟨by decide, "java/lang/IllegalArgumentException", tA hC.2.2.2.2 a_392, hNX.1 ("java/lang/IllegalStateException", "java/lang/IllegalArgumentException") (by decide)⟩
        ) (by decide) (by decide) (tA hC.2.2.2.2 a_147) (va_Nw.use rfl (hNX.2 _ (by decide))) hce hcv hcl ?_
      refine lv_astore (lv' := [(4, .ref q9), (0, .ref x0), (1, .int x1), (2, .int x2)]) hx hb dL_insert_22 hl (by decide) rfl (fun ls hl => ?_)
      refine lv_sipush (v := (-7300)) hx hb dL_insert_24 (by decide) ?_
      exact CtW_ri hx hb hr hlk hX1 hS (Nat.le_of_ble_eq_true rfl) (Nat.le_of_ble_eq_true rfl) dL_insert_27
def k_insert (x1 : Int32) (x2 : Int32) (C : Cs) : Option (Int32 × Cs) :=
  (d10_insert C.2.1 C.2.2.1 C.2.2.2 x1 x2 C.1).bind fun q => gd (q.1 = 0 ∨ q.1 = 3 ∨ q.1 = 1 ∨ q.1 = 2) <| some (ex q.1 q.2.1, (q.2.2, C.2))
theorem v_insert {l : Launch} {D : va_G} {cA : Nat → ClassId} {A : Nat → Prop} {x0 : Nat} (hfl : l.stackTraces = false) {x1 : Int32} {x2 : Int32} {C C' : Cs} {z : Int32} (hf : k_insert x1 x2 C = some (z, C')) : CtW l D cA A yL_insert cL_insert 5 [(0, 7, 10, 21), (0, 7, 16, 14), (0, 7, 22, 16)] 7 20 200 [.ref x0, .int x1, .int x2] (fun H => CX D cA A x0 C H ∧ (∀ q : Nat, H.size ≤ q → A q)) z (CX D cA A x0 C') := by
  unfold k_insert at hf
  obtain ⟨q, hq, hf⟩ := Option.bind_eq_some_iff.mp hf
  obtain ⟨hk, hf⟩ := gd_e hf
  cases hf
  obtain ⟨S, G, nt, nv⟩ := C
  obtain ⟨e0, r, S'⟩ := q
  exact w_insert hfl hq hk
theorem qw_insert : VWw yL_insert cL_insert 5 [(0, 7, 10, 21), (0, 7, 16, 14), (0, 7, 22, 16)] 3 := ⟨a_937, a_15, a_936, by decide +kernel⟩

set_option maxRecDepth 100000 in
set_option maxHeartbeats 4000000 in
theorem w_delete {l : Launch} {D : va_G} {cA : Nat → ClassId} {A : Nat → Prop} {G : Gt} {nt nv x0 : Nat} (hfl : l.stackTraces = false) {x1 : Int32} {x2 : Int32} {S : St} {e0 : Nat} {r : Int32} {S' : St} (hf : d10_delete G nt nv x1 x2 S = some (e0, r, S')) (hk : e0 = 0 ∨ e0 = 3 ∨ e0 = 4) :
    CtW l D cA A yL_delete cL_delete 5 [(0, 7, 10, 21), (0, 7, 16, 26)] 7 20 200 [.ref x0, .int x1, .int x2] (fun H => AX D cA A x0 S G nt nv H ∧ (∀ q : Nat, H.size ≤ q → A q)) (ex e0 r) (AX D cA A x0 S' G nt nv) := by
  refine CtW_of (by decide +kernel) (Nat.le_of_ble_eq_true rfl) ?_
  intro p e s m args below meth c ls hC hr hlk htab hX hKX hTX hNX hl
  obtain ⟨hAX, hAs⟩ := hX
  have hrec := AX.rec hKX.1 hAX
  obtain ⟨ad, L, hX, hG, hE, hx0⟩ := hAX
  have hx := hC.1
  have hb := hC.2.1
  have hS : va_S A s.heap s.heap [] := va_S.rf
  have hl : lv_has ls 5 [(0, .ref x0), (1, .int x1), (2, .int x2)] := hl
  refine lv_aload_n hx hb dL_delete_0 rfl (lv_at hl 0 rfl) ?_
  refine lv_iload_n hx hb dL_delete_1 rfl (lv_at hl 1 rfl) ?_
  refine lv_iload_n hx hb dL_delete_2 rfl (lv_at hl 2 rfl) ?_
  rw [← hx0] at hrec
  refine W.eq (g2 := F0 m 3 ls [.int x2, .int x1, .ref (ad (5, 0))]) (by rw [hx0]) ?_
  refine Ct_VX (X := fun H => DX D cA A ad L G S H ∧ ∀ q : Nat, H.size ≤ q → A q) (X' := AX D cA A x0 S' G nt nv) (As := [.int x1, .int x2]) (rest := []) hC (CtX.to (c_d10_delete hfl hG hf) (fun H q => q.1) (fun H q => AX_of q hG hE hx0)) q_d10_delete a_951 (Nat.le_of_ble_eq_true rfl) hrec ⟨hX, hAs⟩ hKX hTX hS (fun q z => z) rfl hl.1 (Nat.le_of_ble_eq_true rfl) dL_delete_3 ⟨Nat.le_of_ble_eq_true rfl, Nat.le_of_ble_eq_true rfl⟩ (fun he H locs hX1 hz1 hk1 hS => ?_) (fun he q9 ce H locs hX1 hz1 hk1 hS hce hcv hcl => ?_)
  · subst he
    refine lv_istore_n (lv' := [(3, .int r), (0, .ref x0), (1, .int x1), (2, .int x2)]) hx hb dL_delete_6 rfl hl (by decide) rfl (fun ls hl => ?_)
    refine lv_goto (tgt := 22) hx hb dL_delete_7 (by decide) ?_
    refine lv_iload_n hx hb dL_delete_22 rfl (lv_at hl 0 rfl) ?_
    exact CtW_ri hx hb hr hlk hX1 hS (Nat.le_of_ble_eq_true rfl) (Nat.le_of_ble_eq_true rfl) dL_delete_23
  · rcases hk with h | h | h
    · exact absurd h he
    · subst h
      refine vx_catch (own := "LensbenchLaw") (name := "java/lang/IndexOutOfBoundsException") (E := "java/lang/IndexOutOfBoundsException") hC.2.2.2.1 [] ⟨0, 7, 10, 21⟩ [⟨0, 7, 16, 26⟩] htab (fun z hz => by cases hz) (by decide) (by decide) (tA hC.2.2.2.2 a_495) (va_Nw.use rfl (hNX.2 _ (by decide))) hce hcv hcl ?_
      refine lv_astore (lv' := [(4, .ref q9), (0, .ref x0), (1, .int x1), (2, .int x2)]) hx hb dL_delete_10 hl (by decide) rfl (fun ls hl => ?_)
      refine lv_sipush (v := (-7100)) hx hb dL_delete_12 (by decide) ?_
      exact CtW_ri hx hb hr hlk hX1 hS (Nat.le_of_ble_eq_true rfl) (Nat.le_of_ble_eq_true rfl) dL_delete_15
    · subst h
      refine vx_catch (own := "LensbenchLaw") (name := "java/util/NoSuchElementException") (E := "java/util/NoSuchElementException") hC.2.2.2.1 [⟨0, 7, 10, 21⟩] ⟨0, 7, 16, 26⟩ [] htab (fun z hz => by
        simp only [List.mem_cons, List.not_mem_nil, or_false] at hz
        subst hz
        · exact Or.inr ⟨by decide, "java/lang/IndexOutOfBoundsException", tA hC.2.2.2.2 a_495, hNX.1 ("java/util/NoSuchElementException", "java/lang/IndexOutOfBoundsException") (by decide)⟩
        ) (by decide) (by decide) (tA hC.2.2.2.2 a_537) (va_Nw.use rfl (hNX.2 _ (by decide))) hce hcv hcl ?_
      refine lv_astore (lv' := [(4, .ref q9), (0, .ref x0), (1, .int x1), (2, .int x2)]) hx hb dL_delete_16 hl (by decide) rfl (fun ls hl => ?_)
      refine lv_sipush (v := (-7400)) hx hb dL_delete_18 (by decide) ?_
      exact CtW_ri hx hb hr hlk hX1 hS (Nat.le_of_ble_eq_true rfl) (Nat.le_of_ble_eq_true rfl) dL_delete_21
def k_delete (x1 : Int32) (x2 : Int32) (C : Cs) : Option (Int32 × Cs) :=
  (d10_delete C.2.1 C.2.2.1 C.2.2.2 x1 x2 C.1).bind fun q => gd (q.1 = 0 ∨ q.1 = 3 ∨ q.1 = 4) <| some (ex q.1 q.2.1, (q.2.2, C.2))
theorem v_delete {l : Launch} {D : va_G} {cA : Nat → ClassId} {A : Nat → Prop} {x0 : Nat} (hfl : l.stackTraces = false) {x1 : Int32} {x2 : Int32} {C C' : Cs} {z : Int32} (hf : k_delete x1 x2 C = some (z, C')) : CtW l D cA A yL_delete cL_delete 5 [(0, 7, 10, 21), (0, 7, 16, 26)] 7 20 200 [.ref x0, .int x1, .int x2] (fun H => CX D cA A x0 C H ∧ (∀ q : Nat, H.size ≤ q → A q)) z (CX D cA A x0 C') := by
  unfold k_delete at hf
  obtain ⟨q, hq, hf⟩ := Option.bind_eq_some_iff.mp hf
  obtain ⟨hk, hf⟩ := gd_e hf
  cases hf
  obtain ⟨S, G, nt, nv⟩ := C
  obtain ⟨e0, r, S'⟩ := q
  exact w_delete hfl hq hk
theorem qw_delete : VWw yL_delete cL_delete 5 [(0, 7, 10, 21), (0, 7, 16, 26)] 3 := ⟨a_950, a_15, a_949, by decide +kernel⟩

set_option maxRecDepth 100000 in
set_option maxHeartbeats 4000000 in
theorem w_of {l : Launch} {D : va_G} {cA : Nat → ClassId} {A : Nat → Prop} {G : Gt} {nt nv x0 : Nat} (hfl : l.stackTraces = false) {x1 : Int32} {S : St} (hSX : SX S nt nv) {e0 : Nat} {r : Int32} {S' : St} {G' : Gt} {nt' nv' : Nat} (hf : d10_of G nt nv x1 S = some (e0, r, S', G', nt', nv')) (hk : e0 = 0 ∨ e0 = 3 ∨ e0 = 2) :
    CtW l D cA A yL_of cL_of 4 [(0, 6, 9, 21), (0, 6, 14, 16)] 7 20 200 [.ref x0, .int x1] (fun H => AX D cA A x0 S G nt nv H ∧ (∀ q : Nat, H.size ≤ q → A q)) (ex e0 r) (AX D cA A x0 S' G' nt' nv') := by
  refine CtW_of (by decide +kernel) (Nat.le_of_ble_eq_true rfl) ?_
  intro p e s m args below meth c ls hC hr hlk htab hX hKX hTX hNX hl
  obtain ⟨hAX, hAs⟩ := hX
  have hrec := AX.rec hKX.1 hAX
  obtain ⟨ad, L, hX, hG, hE, hx0⟩ := hAX
  have hx := hC.1
  have hb := hC.2.1
  have hS : va_S A s.heap s.heap [] := va_S.rf
  have hl : lv_has ls 4 [(0, .ref x0), (1, .int x1)] := hl
  refine lv_aload_n hx hb dL_of_0 rfl (lv_at hl 0 rfl) ?_
  refine lv_iload_n hx hb dL_of_1 rfl (lv_at hl 1 rfl) ?_
  rw [← hx0] at hrec
  refine W.eq (g2 := F0 m 2 ls [.int x1, .ref (ad (5, 0))]) (by rw [hx0]) ?_
  refine Ct_VX (X := fun H => DX D cA A ad L G S H ∧ ∀ q : Nat, H.size ≤ q → A q) (X' := AX D cA A x0 S' G' nt' nv') (As := [.int x1]) (rest := []) hC (c_d10_of hfl hG hE hx0 hSX hf) q_d10_of a_865 (Nat.le_of_ble_eq_true rfl) hrec ⟨hX, hAs⟩ hKX hTX hS (fun q z => z) rfl hl.1 (Nat.le_of_ble_eq_true rfl) dL_of_2 ⟨Nat.le_of_ble_eq_true rfl, Nat.le_of_ble_eq_true rfl⟩ (fun he H locs hX1 hz1 hk1 hS => ?_) (fun he q9 ce H locs hX1 hz1 hk1 hS hce hcv hcl => ?_)
  · subst he
    refine lv_istore_n (lv' := [(2, .int r), (0, .ref x0), (1, .int x1)]) hx hb dL_of_5 rfl hl (by decide) rfl (fun ls hl => ?_)
    refine lv_goto (tgt := 19) hx hb dL_of_6 (by decide) ?_
    refine lv_iload_n hx hb dL_of_19 rfl (lv_at hl 0 rfl) ?_
    exact CtW_ri hx hb hr hlk hX1 hS (Nat.le_of_ble_eq_true rfl) (Nat.le_of_ble_eq_true rfl) dL_of_20
  · rcases hk with h | h | h
    · exact absurd h he
    · subst h
      refine vx_catch (own := "LensbenchLaw") (name := "java/lang/IndexOutOfBoundsException") (E := "java/lang/IndexOutOfBoundsException") hC.2.2.2.1 [] ⟨0, 6, 9, 21⟩ [⟨0, 6, 14, 16⟩] htab (fun z hz => by cases hz) (by decide) (by decide) (tA hC.2.2.2.2 a_495) (va_Nw.use rfl (hNX.2 _ (by decide))) hce hcv hcl ?_
      refine lv_astore_n (lv' := [(3, .ref q9), (0, .ref x0), (1, .int x1)]) hx hb dL_of_9 rfl hl (by decide) rfl (fun ls hl => ?_)
      refine lv_sipush (v := (-7100)) hx hb dL_of_10 (by decide) ?_
      exact CtW_ri hx hb hr hlk hX1 hS (Nat.le_of_ble_eq_true rfl) (Nat.le_of_ble_eq_true rfl) dL_of_13
    · subst h
      refine vx_catch (own := "LensbenchLaw") (name := "java/lang/IllegalStateException") (E := "java/lang/IllegalStateException") hC.2.2.2.1 [⟨0, 6, 9, 21⟩] ⟨0, 6, 14, 16⟩ [] htab (fun z hz => by
        simp only [List.mem_cons, List.not_mem_nil, or_false] at hz
        subst hz
        · exact Or.inr ⟨by decide, "java/lang/IndexOutOfBoundsException", tA hC.2.2.2.2 a_495, hNX.1 ("java/lang/IllegalStateException", "java/lang/IndexOutOfBoundsException") (by decide)⟩
        ) (by decide) (by decide) (tA hC.2.2.2.2 a_147) (va_Nw.use rfl (hNX.2 _ (by decide))) hce hcv hcl ?_
      refine lv_astore_n (lv' := [(3, .ref q9), (0, .ref x0), (1, .int x1)]) hx hb dL_of_14 rfl hl (by decide) rfl (fun ls hl => ?_)
      refine lv_sipush (v := (-7300)) hx hb dL_of_15 (by decide) ?_
      exact CtW_ri hx hb hr hlk hX1 hS (Nat.le_of_ble_eq_true rfl) (Nat.le_of_ble_eq_true rfl) dL_of_18
noncomputable def k_of (x1 : Int32) (C : Cs) : Option (Int32 × Cs) :=
  gp (SX C.1 C.2.2.1 C.2.2.2) <| (d10_of C.2.1 C.2.2.1 C.2.2.2 x1 C.1).bind fun q => gd (q.1 = 0 ∨ q.1 = 3 ∨ q.1 = 2) <| some (ex q.1 q.2.1, (q.2.2.1, q.2.2.2.1, q.2.2.2.2.1, q.2.2.2.2.2))
theorem v_of {l : Launch} {D : va_G} {cA : Nat → ClassId} {A : Nat → Prop} {x0 : Nat} (hfl : l.stackTraces = false) {x1 : Int32} {C C' : Cs} {z : Int32} (hf : k_of x1 C = some (z, C')) : CtW l D cA A yL_of cL_of 4 [(0, 6, 9, 21), (0, 6, 14, 16)] 7 20 200 [.ref x0, .int x1] (fun H => CX D cA A x0 C H ∧ (∀ q : Nat, H.size ≤ q → A q)) z (CX D cA A x0 C') := by
  unfold k_of at hf
  obtain ⟨hSX, hf⟩ := gp_e hf
  obtain ⟨q, hq, hf⟩ := Option.bind_eq_some_iff.mp hf
  obtain ⟨hk, hf⟩ := gd_e hf
  cases hf
  obtain ⟨S, G, nt, nv⟩ := C
  obtain ⟨e0, r, S', G', nt', nv'⟩ := q
  exact w_of hfl hSX hq hk
theorem qw_of : VWw yL_of cL_of 4 [(0, 6, 9, 21), (0, 6, 14, 16)] 2 := ⟨a_864, a_15, a_863, by decide +kernel⟩

set_option maxRecDepth 100000 in
set_option maxHeartbeats 4000000 in
theorem w_select {l : Launch} {D : va_G} {cA : Nat → ClassId} {A : Nat → Prop} {G : Gt} {nt nv x0 : Nat} (hfl : l.stackTraces = false) {x1 : Int32} {x2 : Int32} {x3 : Int32} {x4 : Int32} (hz : x4 = 0 ∨ x4 = 1) {S : St} (hSX : SX S nt nv) {e0 : Nat} {r : Int32} {S' : St} {G' : Gt} {nt' nv' : Nat} (hf : d10_select G nt nv x1 x2 x3 x4 S = some (e0, r, S', G', nt', nv')) (hk : e0 = 0 ∨ e0 = 3 ∨ e0 = 1 ∨ e0 = 2) :
    CtW l D cA A yL_select cL_select 7 [(0, 11, 14, 21), (0, 11, 20, 14), (0, 11, 26, 16)] 7 20 200 [.ref x0, .int x1, .int x2, .int x3, .int x4] (fun H => AX D cA A x0 S G nt nv H ∧ (∀ q : Nat, H.size ≤ q → A q)) (ex e0 r) (AX D cA A x0 S' G' nt' nv') := by
  refine CtW_of (by decide +kernel) (Nat.le_of_ble_eq_true rfl) ?_
  intro p e s m args below meth c ls hC hr hlk htab hX hKX hTX hNX hl
  obtain ⟨hAX, hAs⟩ := hX
  have hrec := AX.rec hKX.1 hAX
  obtain ⟨ad, L, hX, hG, hE, hx0⟩ := hAX
  have hx := hC.1
  have hb := hC.2.1
  have hS : va_S A s.heap s.heap [] := va_S.rf
  have hl : lv_has ls 7 [(0, .ref x0), (1, .int x1), (2, .int x2), (3, .int x3), (4, .int x4)] := hl
  refine lv_aload_n hx hb dL_select_0 rfl (lv_at hl 0 rfl) ?_
  refine lv_iload_n hx hb dL_select_1 rfl (lv_at hl 1 rfl) ?_
  refine lv_iload_n hx hb dL_select_2 rfl (lv_at hl 2 rfl) ?_
  refine lv_iload_n hx hb dL_select_3 rfl (lv_at hl 3 rfl) ?_
  refine lv_iload hx hb dL_select_4 (lv_at hl 4 rfl) ?_
  rw [← hx0] at hrec
  refine W.eq (g2 := F0 m 6 ls [.int x4, .int x3, .int x2, .int x1, .ref (ad (5, 0))]) (by rw [hx0]) ?_
  refine Ct_VX (X := fun H => DX D cA A ad L G S H ∧ ∀ q : Nat, H.size ≤ q → A q) (X' := AX D cA A x0 S' G' nt' nv') (As := [.int x1, .int x2, .int x3, .int x4]) (rest := []) hC (c_d10_select hfl hG hE hx0 hz hSX hf) q_d10_select a_673 (Nat.le_of_ble_eq_true rfl) hrec ⟨hX, hAs⟩ hKX hTX hS (fun q z => z) rfl hl.1 (Nat.le_of_ble_eq_true rfl) dL_select_6 ⟨Nat.le_of_ble_eq_true rfl, Nat.le_of_ble_eq_true rfl⟩ (fun he H locs hX1 hz1 hk1 hS => ?_) (fun he q9 ce H locs hX1 hz1 hk1 hS hce hcv hcl => ?_)
  · subst he
    refine lv_istore (lv' := [(5, .int r), (0, .ref x0), (1, .int x1), (2, .int x2), (3, .int x3), (4, .int x4)]) hx hb dL_select_9 hl (by decide) rfl (fun ls hl => ?_)
    refine lv_goto (tgt := 32) hx hb dL_select_11 (by decide) ?_
    refine lv_iload hx hb dL_select_32 (lv_at hl 0 rfl) ?_
    exact CtW_ri hx hb hr hlk hX1 hS (Nat.le_of_ble_eq_true rfl) (Nat.le_of_ble_eq_true rfl) dL_select_34
  · rcases hk with h | h | h | h
    · exact absurd h he
    · subst h
      refine vx_catch (own := "LensbenchLaw") (name := "java/lang/IndexOutOfBoundsException") (E := "java/lang/IndexOutOfBoundsException") hC.2.2.2.1 [] ⟨0, 11, 14, 21⟩ [⟨0, 11, 20, 14⟩, ⟨0, 11, 26, 16⟩] htab (fun z hz => by cases hz) (by decide) (by decide) (tA hC.2.2.2.2 a_495) (va_Nw.use rfl (hNX.2 _ (by decide))) hce hcv hcl ?_
      refine lv_astore (lv' := [(6, .ref q9), (0, .ref x0), (1, .int x1), (2, .int x2), (3, .int x3), (4, .int x4)]) hx hb dL_select_14 hl (by decide) rfl (fun ls hl => ?_)
      refine lv_sipush (v := (-7100)) hx hb dL_select_16 (by decide) ?_
      exact CtW_ri hx hb hr hlk hX1 hS (Nat.le_of_ble_eq_true rfl) (Nat.le_of_ble_eq_true rfl) dL_select_19
    · subst h
      refine vx_catch (own := "LensbenchLaw") (name := "java/lang/IllegalArgumentException") (E := "java/lang/IllegalArgumentException") hC.2.2.2.1 [⟨0, 11, 14, 21⟩] ⟨0, 11, 20, 14⟩ [⟨0, 11, 26, 16⟩] htab (fun z hz => by
        simp only [List.mem_cons, List.not_mem_nil, or_false] at hz
        subst hz
        · exact Or.inr ⟨by decide, "java/lang/IndexOutOfBoundsException", tA hC.2.2.2.2 a_495, hNX.1 ("java/lang/IllegalArgumentException", "java/lang/IndexOutOfBoundsException") (by decide)⟩
        ) (by decide) (by decide) (tA hC.2.2.2.2 a_392) (va_Nw.use rfl (hNX.2 _ (by decide))) hce hcv hcl ?_
      refine lv_astore (lv' := [(6, .ref q9), (0, .ref x0), (1, .int x1), (2, .int x2), (3, .int x3), (4, .int x4)]) hx hb dL_select_20 hl (by decide) rfl (fun ls hl => ?_)
      refine lv_sipush (v := (-7200)) hx hb dL_select_22 (by decide) ?_
      exact CtW_ri hx hb hr hlk hX1 hS (Nat.le_of_ble_eq_true rfl) (Nat.le_of_ble_eq_true rfl) dL_select_25
    · subst h
      refine vx_catch (own := "LensbenchLaw") (name := "java/lang/IllegalStateException") (E := "java/lang/IllegalStateException") hC.2.2.2.1 [⟨0, 11, 14, 21⟩, ⟨0, 11, 20, 14⟩] ⟨0, 11, 26, 16⟩ [] htab (fun z hz => by
        simp only [List.mem_cons, List.not_mem_nil, or_false] at hz
        rcases hz with rfl | rfl
        · exact Or.inr ⟨by decide, "java/lang/IndexOutOfBoundsException", tA hC.2.2.2.2 a_495, hNX.1 ("java/lang/IllegalStateException", "java/lang/IndexOutOfBoundsException") (by decide)⟩
        · exact Or.inr ⟨by decide, "java/lang/IllegalArgumentException", tA hC.2.2.2.2 a_392, hNX.1 ("java/lang/IllegalStateException", "java/lang/IllegalArgumentException") (by decide)⟩
        ) (by decide) (by decide) (tA hC.2.2.2.2 a_147) (va_Nw.use rfl (hNX.2 _ (by decide))) hce hcv hcl ?_
      refine lv_astore (lv' := [(6, .ref q9), (0, .ref x0), (1, .int x1), (2, .int x2), (3, .int x3), (4, .int x4)]) hx hb dL_select_26 hl (by decide) rfl (fun ls hl => ?_)
      refine lv_sipush (v := (-7300)) hx hb dL_select_28 (by decide) ?_
      exact CtW_ri hx hb hr hlk hX1 hS (Nat.le_of_ble_eq_true rfl) (Nat.le_of_ble_eq_true rfl) dL_select_31
noncomputable def k_select (x1 : Int32) (x2 : Int32) (x3 : Int32) (x4 : Int32) (C : Cs) : Option (Int32 × Cs) :=
  gp (SX C.1 C.2.2.1 C.2.2.2) <| gd (x4 = 0 ∨ x4 = 1) <| (d10_select C.2.1 C.2.2.1 C.2.2.2 x1 x2 x3 x4 C.1).bind fun q => gd (q.1 = 0 ∨ q.1 = 3 ∨ q.1 = 1 ∨ q.1 = 2) <| some (ex q.1 q.2.1, (q.2.2.1, q.2.2.2.1, q.2.2.2.2.1, q.2.2.2.2.2))
theorem v_select {l : Launch} {D : va_G} {cA : Nat → ClassId} {A : Nat → Prop} {x0 : Nat} (hfl : l.stackTraces = false) {x1 : Int32} {x2 : Int32} {x3 : Int32} {x4 : Int32} {C C' : Cs} {z : Int32} (hf : k_select x1 x2 x3 x4 C = some (z, C')) : CtW l D cA A yL_select cL_select 7 [(0, 11, 14, 21), (0, 11, 20, 14), (0, 11, 26, 16)] 7 20 200 [.ref x0, .int x1, .int x2, .int x3, .int x4] (fun H => CX D cA A x0 C H ∧ (∀ q : Nat, H.size ≤ q → A q)) z (CX D cA A x0 C') := by
  unfold k_select at hf
  obtain ⟨hSX, hf⟩ := gp_e hf
  obtain ⟨hz, hf⟩ := gd_e hf
  obtain ⟨q, hq, hf⟩ := Option.bind_eq_some_iff.mp hf
  obtain ⟨hk, hf⟩ := gd_e hf
  cases hf
  obtain ⟨S, G, nt, nv⟩ := C
  obtain ⟨e0, r, S', G', nt', nv'⟩ := q
  exact w_select hfl hz hSX hq hk
theorem qw_select : VWw yL_select cL_select 7 [(0, 11, 14, 21), (0, 11, 20, 14), (0, 11, 26, 16)] 5 := ⟨a_672, a_15, a_671, by decide +kernel⟩

set_option maxRecDepth 100000 in
set_option maxHeartbeats 4000000 in
theorem w_drop {l : Launch} {D : va_G} {cA : Nat → ClassId} {A : Nat → Prop} {G : Gt} {nt nv x0 : Nat} (hfl : l.stackTraces = false) {x1 : Int32} {x2 : Int32} {x3 : Int32} {S : St} (hSX : SX S nt nv) {e0 : Nat} {r : Int32} {S' : St} {G' : Gt} {nt' nv' : Nat} (hf : d10_drop G nt nv x1 x2 x3 S = some (e0, r, S', G', nt', nv')) (hk : e0 = 0 ∨ e0 = 3 ∨ e0 = 1 ∨ e0 = 2) :
    CtW l D cA A yL_drop cL_drop 6 [(0, 9, 12, 21), (0, 9, 18, 14), (0, 9, 24, 16)] 7 20 200 [.ref x0, .int x1, .int x2, .int x3] (fun H => AX D cA A x0 S G nt nv H ∧ (∀ q : Nat, H.size ≤ q → A q)) (ex e0 r) (AX D cA A x0 S' G' nt' nv') := by
  refine CtW_of (by decide +kernel) (Nat.le_of_ble_eq_true rfl) ?_
  intro p e s m args below meth c ls hC hr hlk htab hX hKX hTX hNX hl
  obtain ⟨hAX, hAs⟩ := hX
  have hrec := AX.rec hKX.1 hAX
  obtain ⟨ad, L, hX, hG, hE, hx0⟩ := hAX
  have hx := hC.1
  have hb := hC.2.1
  have hS : va_S A s.heap s.heap [] := va_S.rf
  have hl : lv_has ls 6 [(0, .ref x0), (1, .int x1), (2, .int x2), (3, .int x3)] := hl
  refine lv_aload_n hx hb dL_drop_0 rfl (lv_at hl 0 rfl) ?_
  refine lv_iload_n hx hb dL_drop_1 rfl (lv_at hl 1 rfl) ?_
  refine lv_iload_n hx hb dL_drop_2 rfl (lv_at hl 2 rfl) ?_
  refine lv_iload_n hx hb dL_drop_3 rfl (lv_at hl 3 rfl) ?_
  rw [← hx0] at hrec
  refine W.eq (g2 := F0 m 4 ls [.int x3, .int x2, .int x1, .ref (ad (5, 0))]) (by rw [hx0]) ?_
  refine Ct_VX (X := fun H => DX D cA A ad L G S H ∧ ∀ q : Nat, H.size ≤ q → A q) (X' := AX D cA A x0 S' G' nt' nv') (As := [.int x1, .int x2, .int x3]) (rest := []) hC (c_d10_drop hfl hG hE hx0 hSX hf) q_d10_drop a_803 (Nat.le_of_ble_eq_true rfl) hrec ⟨hX, hAs⟩ hKX hTX hS (fun q z => z) rfl hl.1 (Nat.le_of_ble_eq_true rfl) dL_drop_4 ⟨Nat.le_of_ble_eq_true rfl, Nat.le_of_ble_eq_true rfl⟩ (fun he H locs hX1 hz1 hk1 hS => ?_) (fun he q9 ce H locs hX1 hz1 hk1 hS hce hcv hcl => ?_)
  · subst he
    refine lv_istore (lv' := [(4, .int r), (0, .ref x0), (1, .int x1), (2, .int x2), (3, .int x3)]) hx hb dL_drop_7 hl (by decide) rfl (fun ls hl => ?_)
    refine lv_goto (tgt := 30) hx hb dL_drop_9 (by decide) ?_
    refine lv_iload hx hb dL_drop_30 (lv_at hl 0 rfl) ?_
    exact CtW_ri hx hb hr hlk hX1 hS (Nat.le_of_ble_eq_true rfl) (Nat.le_of_ble_eq_true rfl) dL_drop_32
  · rcases hk with h | h | h | h
    · exact absurd h he
    · subst h
      refine vx_catch (own := "LensbenchLaw") (name := "java/lang/IndexOutOfBoundsException") (E := "java/lang/IndexOutOfBoundsException") hC.2.2.2.1 [] ⟨0, 9, 12, 21⟩ [⟨0, 9, 18, 14⟩, ⟨0, 9, 24, 16⟩] htab (fun z hz => by cases hz) (by decide) (by decide) (tA hC.2.2.2.2 a_495) (va_Nw.use rfl (hNX.2 _ (by decide))) hce hcv hcl ?_
      refine lv_astore (lv' := [(5, .ref q9), (0, .ref x0), (1, .int x1), (2, .int x2), (3, .int x3)]) hx hb dL_drop_12 hl (by decide) rfl (fun ls hl => ?_)
      refine lv_sipush (v := (-7100)) hx hb dL_drop_14 (by decide) ?_
      exact CtW_ri hx hb hr hlk hX1 hS (Nat.le_of_ble_eq_true rfl) (Nat.le_of_ble_eq_true rfl) dL_drop_17
    · subst h
      refine vx_catch (own := "LensbenchLaw") (name := "java/lang/IllegalArgumentException") (E := "java/lang/IllegalArgumentException") hC.2.2.2.1 [⟨0, 9, 12, 21⟩] ⟨0, 9, 18, 14⟩ [⟨0, 9, 24, 16⟩] htab (fun z hz => by
        simp only [List.mem_cons, List.not_mem_nil, or_false] at hz
        subst hz
        · exact Or.inr ⟨by decide, "java/lang/IndexOutOfBoundsException", tA hC.2.2.2.2 a_495, hNX.1 ("java/lang/IllegalArgumentException", "java/lang/IndexOutOfBoundsException") (by decide)⟩
        ) (by decide) (by decide) (tA hC.2.2.2.2 a_392) (va_Nw.use rfl (hNX.2 _ (by decide))) hce hcv hcl ?_
      refine lv_astore (lv' := [(5, .ref q9), (0, .ref x0), (1, .int x1), (2, .int x2), (3, .int x3)]) hx hb dL_drop_18 hl (by decide) rfl (fun ls hl => ?_)
      refine lv_sipush (v := (-7200)) hx hb dL_drop_20 (by decide) ?_
      exact CtW_ri hx hb hr hlk hX1 hS (Nat.le_of_ble_eq_true rfl) (Nat.le_of_ble_eq_true rfl) dL_drop_23
    · subst h
      refine vx_catch (own := "LensbenchLaw") (name := "java/lang/IllegalStateException") (E := "java/lang/IllegalStateException") hC.2.2.2.1 [⟨0, 9, 12, 21⟩, ⟨0, 9, 18, 14⟩] ⟨0, 9, 24, 16⟩ [] htab (fun z hz => by
        simp only [List.mem_cons, List.not_mem_nil, or_false] at hz
        rcases hz with rfl | rfl
        · exact Or.inr ⟨by decide, "java/lang/IndexOutOfBoundsException", tA hC.2.2.2.2 a_495, hNX.1 ("java/lang/IllegalStateException", "java/lang/IndexOutOfBoundsException") (by decide)⟩
        · exact Or.inr ⟨by decide, "java/lang/IllegalArgumentException", tA hC.2.2.2.2 a_392, hNX.1 ("java/lang/IllegalStateException", "java/lang/IllegalArgumentException") (by decide)⟩
        ) (by decide) (by decide) (tA hC.2.2.2.2 a_147) (va_Nw.use rfl (hNX.2 _ (by decide))) hce hcv hcl ?_
      refine lv_astore (lv' := [(5, .ref q9), (0, .ref x0), (1, .int x1), (2, .int x2), (3, .int x3)]) hx hb dL_drop_24 hl (by decide) rfl (fun ls hl => ?_)
      refine lv_sipush (v := (-7300)) hx hb dL_drop_26 (by decide) ?_
      exact CtW_ri hx hb hr hlk hX1 hS (Nat.le_of_ble_eq_true rfl) (Nat.le_of_ble_eq_true rfl) dL_drop_29
noncomputable def k_drop (x1 : Int32) (x2 : Int32) (x3 : Int32) (C : Cs) : Option (Int32 × Cs) :=
  gp (SX C.1 C.2.2.1 C.2.2.2) <| (d10_drop C.2.1 C.2.2.1 C.2.2.2 x1 x2 x3 C.1).bind fun q => gd (q.1 = 0 ∨ q.1 = 3 ∨ q.1 = 1 ∨ q.1 = 2) <| some (ex q.1 q.2.1, (q.2.2.1, q.2.2.2.1, q.2.2.2.2.1, q.2.2.2.2.2))
theorem v_drop {l : Launch} {D : va_G} {cA : Nat → ClassId} {A : Nat → Prop} {x0 : Nat} (hfl : l.stackTraces = false) {x1 : Int32} {x2 : Int32} {x3 : Int32} {C C' : Cs} {z : Int32} (hf : k_drop x1 x2 x3 C = some (z, C')) : CtW l D cA A yL_drop cL_drop 6 [(0, 9, 12, 21), (0, 9, 18, 14), (0, 9, 24, 16)] 7 20 200 [.ref x0, .int x1, .int x2, .int x3] (fun H => CX D cA A x0 C H ∧ (∀ q : Nat, H.size ≤ q → A q)) z (CX D cA A x0 C') := by
  unfold k_drop at hf
  obtain ⟨hSX, hf⟩ := gp_e hf
  obtain ⟨q, hq, hf⟩ := Option.bind_eq_some_iff.mp hf
  obtain ⟨hk, hf⟩ := gd_e hf
  cases hf
  obtain ⟨S, G, nt, nv⟩ := C
  obtain ⟨e0, r, S', G', nt', nv'⟩ := q
  exact w_drop hfl hSX hq hk
theorem qw_drop : VWw yL_drop cL_drop 6 [(0, 9, 12, 21), (0, 9, 18, 14), (0, 9, 24, 16)] 4 := ⟨a_802, a_15, a_801, by decide +kernel⟩

set_option maxRecDepth 100000 in
set_option maxHeartbeats 4000000 in
theorem w_join {l : Launch} {D : va_G} {cA : Nat → ClassId} {A : Nat → Prop} {G : Gt} {nt nv x0 : Nat} (hfl : l.stackTraces = false) {x1 : Int32} {x2 : Int32} {S : St} (hSX : SX S nt nv) {e0 : Nat} {r : Int32} {S' : St} {G' : Gt} {nt' nv' : Nat} (hf : d10_join G nt nv x1 x2 S = some (e0, r, S', G', nt', nv')) (hk : e0 = 0 ∨ e0 = 3 ∨ e0 = 1 ∨ e0 = 2) :
    CtW l D cA A yL_join cL_join 5 [(0, 7, 10, 21), (0, 7, 16, 14), (0, 7, 22, 16)] 7 20 200 [.ref x0, .int x1, .int x2] (fun H => AX D cA A x0 S G nt nv H ∧ (∀ q : Nat, H.size ≤ q → A q)) (ex e0 r) (AX D cA A x0 S' G' nt' nv') := by
  refine CtW_of (by decide +kernel) (Nat.le_of_ble_eq_true rfl) ?_
  intro p e s m args below meth c ls hC hr hlk htab hX hKX hTX hNX hl
  obtain ⟨hAX, hAs⟩ := hX
  have hrec := AX.rec hKX.1 hAX
  obtain ⟨ad, L, hX, hG, hE, hx0⟩ := hAX
  have hx := hC.1
  have hb := hC.2.1
  have hS : va_S A s.heap s.heap [] := va_S.rf
  have hl : lv_has ls 5 [(0, .ref x0), (1, .int x1), (2, .int x2)] := hl
  refine lv_aload_n hx hb dL_join_0 rfl (lv_at hl 0 rfl) ?_
  refine lv_iload_n hx hb dL_join_1 rfl (lv_at hl 1 rfl) ?_
  refine lv_iload_n hx hb dL_join_2 rfl (lv_at hl 2 rfl) ?_
  rw [← hx0] at hrec
  refine W.eq (g2 := F0 m 3 ls [.int x2, .int x1, .ref (ad (5, 0))]) (by rw [hx0]) ?_
  refine Ct_VX (X := fun H => DX D cA A ad L G S H ∧ ∀ q : Nat, H.size ≤ q → A q) (X' := AX D cA A x0 S' G' nt' nv') (As := [.int x1, .int x2]) (rest := []) hC (c_d10_join hfl hG hE hx0 hSX hf) q_d10_join a_833 (Nat.le_of_ble_eq_true rfl) hrec ⟨hX, hAs⟩ hKX hTX hS (fun q z => z) rfl hl.1 (Nat.le_of_ble_eq_true rfl) dL_join_3 ⟨Nat.le_of_ble_eq_true rfl, Nat.le_of_ble_eq_true rfl⟩ (fun he H locs hX1 hz1 hk1 hS => ?_) (fun he q9 ce H locs hX1 hz1 hk1 hS hce hcv hcl => ?_)
  · subst he
    refine lv_istore_n (lv' := [(3, .int r), (0, .ref x0), (1, .int x1), (2, .int x2)]) hx hb dL_join_6 rfl hl (by decide) rfl (fun ls hl => ?_)
    refine lv_goto (tgt := 28) hx hb dL_join_7 (by decide) ?_
    refine lv_iload_n hx hb dL_join_28 rfl (lv_at hl 0 rfl) ?_
    exact CtW_ri hx hb hr hlk hX1 hS (Nat.le_of_ble_eq_true rfl) (Nat.le_of_ble_eq_true rfl) dL_join_29
  · rcases hk with h | h | h | h
    · exact absurd h he
    · subst h
      refine vx_catch (own := "LensbenchLaw") (name := "java/lang/IndexOutOfBoundsException") (E := "java/lang/IndexOutOfBoundsException") hC.2.2.2.1 [] ⟨0, 7, 10, 21⟩ [⟨0, 7, 16, 14⟩, ⟨0, 7, 22, 16⟩] htab (fun z hz => by cases hz) (by decide) (by decide) (tA hC.2.2.2.2 a_495) (va_Nw.use rfl (hNX.2 _ (by decide))) hce hcv hcl ?_
      refine lv_astore (lv' := [(4, .ref q9), (0, .ref x0), (1, .int x1), (2, .int x2)]) hx hb dL_join_10 hl (by decide) rfl (fun ls hl => ?_)
      refine lv_sipush (v := (-7100)) hx hb dL_join_12 (by decide) ?_
      exact CtW_ri hx hb hr hlk hX1 hS (Nat.le_of_ble_eq_true rfl) (Nat.le_of_ble_eq_true rfl) dL_join_15
    · subst h
      refine vx_catch (own := "LensbenchLaw") (name := "java/lang/IllegalArgumentException") (E := "java/lang/IllegalArgumentException") hC.2.2.2.1 [⟨0, 7, 10, 21⟩] ⟨0, 7, 16, 14⟩ [⟨0, 7, 22, 16⟩] htab (fun z hz => by
        simp only [List.mem_cons, List.not_mem_nil, or_false] at hz
        subst hz
        · exact Or.inr ⟨by decide, "java/lang/IndexOutOfBoundsException", tA hC.2.2.2.2 a_495, hNX.1 ("java/lang/IllegalArgumentException", "java/lang/IndexOutOfBoundsException") (by decide)⟩
        ) (by decide) (by decide) (tA hC.2.2.2.2 a_392) (va_Nw.use rfl (hNX.2 _ (by decide))) hce hcv hcl ?_
      refine lv_astore (lv' := [(4, .ref q9), (0, .ref x0), (1, .int x1), (2, .int x2)]) hx hb dL_join_16 hl (by decide) rfl (fun ls hl => ?_)
      refine lv_sipush (v := (-7200)) hx hb dL_join_18 (by decide) ?_
      exact CtW_ri hx hb hr hlk hX1 hS (Nat.le_of_ble_eq_true rfl) (Nat.le_of_ble_eq_true rfl) dL_join_21
    · subst h
      refine vx_catch (own := "LensbenchLaw") (name := "java/lang/IllegalStateException") (E := "java/lang/IllegalStateException") hC.2.2.2.1 [⟨0, 7, 10, 21⟩, ⟨0, 7, 16, 14⟩] ⟨0, 7, 22, 16⟩ [] htab (fun z hz => by
        simp only [List.mem_cons, List.not_mem_nil, or_false] at hz
        rcases hz with rfl | rfl
        · exact Or.inr ⟨by decide, "java/lang/IndexOutOfBoundsException", tA hC.2.2.2.2 a_495, hNX.1 ("java/lang/IllegalStateException", "java/lang/IndexOutOfBoundsException") (by decide)⟩
        · exact Or.inr ⟨by decide, "java/lang/IllegalArgumentException", tA hC.2.2.2.2 a_392, hNX.1 ("java/lang/IllegalStateException", "java/lang/IllegalArgumentException") (by decide)⟩
        ) (by decide) (by decide) (tA hC.2.2.2.2 a_147) (va_Nw.use rfl (hNX.2 _ (by decide))) hce hcv hcl ?_
      refine lv_astore (lv' := [(4, .ref q9), (0, .ref x0), (1, .int x1), (2, .int x2)]) hx hb dL_join_22 hl (by decide) rfl (fun ls hl => ?_)
      refine lv_sipush (v := (-7300)) hx hb dL_join_24 (by decide) ?_
      exact CtW_ri hx hb hr hlk hX1 hS (Nat.le_of_ble_eq_true rfl) (Nat.le_of_ble_eq_true rfl) dL_join_27
noncomputable def k_join (x1 : Int32) (x2 : Int32) (C : Cs) : Option (Int32 × Cs) :=
  gp (SX C.1 C.2.2.1 C.2.2.2) <| (d10_join C.2.1 C.2.2.1 C.2.2.2 x1 x2 C.1).bind fun q => gd (q.1 = 0 ∨ q.1 = 3 ∨ q.1 = 1 ∨ q.1 = 2) <| some (ex q.1 q.2.1, (q.2.2.1, q.2.2.2.1, q.2.2.2.2.1, q.2.2.2.2.2))
theorem v_join {l : Launch} {D : va_G} {cA : Nat → ClassId} {A : Nat → Prop} {x0 : Nat} (hfl : l.stackTraces = false) {x1 : Int32} {x2 : Int32} {C C' : Cs} {z : Int32} (hf : k_join x1 x2 C = some (z, C')) : CtW l D cA A yL_join cL_join 5 [(0, 7, 10, 21), (0, 7, 16, 14), (0, 7, 22, 16)] 7 20 200 [.ref x0, .int x1, .int x2] (fun H => CX D cA A x0 C H ∧ (∀ q : Nat, H.size ≤ q → A q)) z (CX D cA A x0 C') := by
  unfold k_join at hf
  obtain ⟨hSX, hf⟩ := gp_e hf
  obtain ⟨q, hq, hf⟩ := Option.bind_eq_some_iff.mp hf
  obtain ⟨hk, hf⟩ := gd_e hf
  cases hf
  obtain ⟨S, G, nt, nv⟩ := C
  obtain ⟨e0, r, S', G', nt', nv'⟩ := q
  exact w_join hfl hSX hq hk
theorem qw_join : VWw yL_join cL_join 5 [(0, 7, 10, 21), (0, 7, 16, 14), (0, 7, 22, 16)] 3 := ⟨a_832, a_15, a_831, by decide +kernel⟩

set_option maxRecDepth 100000 in
set_option maxHeartbeats 4000000 in
theorem w_columns {l : Launch} {D : va_G} {cA : Nat → ClassId} {A : Nat → Prop} {G : Gt} {nt nv x0 : Nat} (hfl : l.stackTraces = false) {x1 : Int32} {S : St} {e0 : Nat} {r : Int32} {S' : St} (hf : d10_columns G nt nv x1 S = some (e0, r, S')) (hk : e0 = 0 ∨ e0 = 3) :
    CtW l D cA A yL_columns cL_columns 4 [(0, 6, 9, 21)] 7 20 200 [.ref x0, .int x1] (fun H => AX D cA A x0 S G nt nv H ∧ (∀ q : Nat, H.size ≤ q → A q)) (ex e0 r) (AX D cA A x0 S' G nt nv) := by
  refine CtW_of (by decide +kernel) (Nat.le_of_ble_eq_true rfl) ?_
  intro p e s m args below meth c ls hC hr hlk htab hX hKX hTX hNX hl
  obtain ⟨hAX, hAs⟩ := hX
  have hrec := AX.rec hKX.1 hAX
  obtain ⟨ad, L, hX, hG, hE, hx0⟩ := hAX
  have hx := hC.1
  have hb := hC.2.1
  have hS : va_S A s.heap s.heap [] := va_S.rf
  have hl : lv_has ls 4 [(0, .ref x0), (1, .int x1)] := hl
  refine lv_aload_n hx hb dL_columns_0 rfl (lv_at hl 0 rfl) ?_
  refine lv_iload_n hx hb dL_columns_1 rfl (lv_at hl 1 rfl) ?_
  rw [← hx0] at hrec
  refine W.eq (g2 := F0 m 2 ls [.int x1, .ref (ad (5, 0))]) (by rw [hx0]) ?_
  refine Ct_VX (X := fun H => DX D cA A ad L G S H ∧ ∀ q : Nat, H.size ≤ q → A q) (X' := AX D cA A x0 S' G nt nv) (As := [.int x1]) (rest := []) hC (CtX.to (c_d10_columns hfl hG hf) (fun H q => q.1) (fun H q => AX_of q hG hE hx0)) q_d10_columns a_649 (Nat.le_of_ble_eq_true rfl) hrec ⟨hX, hAs⟩ hKX hTX hS (fun q z => z) rfl hl.1 (Nat.le_of_ble_eq_true rfl) dL_columns_2 ⟨Nat.le_of_ble_eq_true rfl, Nat.le_of_ble_eq_true rfl⟩ (fun he H locs hX1 hz1 hk1 hS => ?_) (fun he q9 ce H locs hX1 hz1 hk1 hS hce hcv hcl => ?_)
  · subst he
    refine lv_istore_n (lv' := [(2, .int r), (0, .ref x0), (1, .int x1)]) hx hb dL_columns_5 rfl hl (by decide) rfl (fun ls hl => ?_)
    refine lv_goto (tgt := 14) hx hb dL_columns_6 (by decide) ?_
    refine lv_iload_n hx hb dL_columns_14 rfl (lv_at hl 0 rfl) ?_
    exact CtW_ri hx hb hr hlk hX1 hS (Nat.le_of_ble_eq_true rfl) (Nat.le_of_ble_eq_true rfl) dL_columns_15
  · rcases hk with h | h
    · exact absurd h he
    · subst h
      refine vx_catch (own := "LensbenchLaw") (name := "java/lang/IndexOutOfBoundsException") (E := "java/lang/IndexOutOfBoundsException") hC.2.2.2.1 [] ⟨0, 6, 9, 21⟩ [] htab (fun z hz => by cases hz) (by decide) (by decide) (tA hC.2.2.2.2 a_495) (va_Nw.use rfl (hNX.2 _ (by decide))) hce hcv hcl ?_
      refine lv_astore_n (lv' := [(3, .ref q9), (0, .ref x0), (1, .int x1)]) hx hb dL_columns_9 rfl hl (by decide) rfl (fun ls hl => ?_)
      refine lv_sipush (v := (-7100)) hx hb dL_columns_10 (by decide) ?_
      exact CtW_ri hx hb hr hlk hX1 hS (Nat.le_of_ble_eq_true rfl) (Nat.le_of_ble_eq_true rfl) dL_columns_13
def k_columns (x1 : Int32) (C : Cs) : Option (Int32 × Cs) :=
  (d10_columns C.2.1 C.2.2.1 C.2.2.2 x1 C.1).bind fun q => gd (q.1 = 0 ∨ q.1 = 3) <| some (ex q.1 q.2.1, (q.2.2, C.2))
theorem v_columns {l : Launch} {D : va_G} {cA : Nat → ClassId} {A : Nat → Prop} {x0 : Nat} (hfl : l.stackTraces = false) {x1 : Int32} {C C' : Cs} {z : Int32} (hf : k_columns x1 C = some (z, C')) : CtW l D cA A yL_columns cL_columns 4 [(0, 6, 9, 21)] 7 20 200 [.ref x0, .int x1] (fun H => CX D cA A x0 C H ∧ (∀ q : Nat, H.size ≤ q → A q)) z (CX D cA A x0 C') := by
  unfold k_columns at hf
  obtain ⟨q, hq, hf⟩ := Option.bind_eq_some_iff.mp hf
  obtain ⟨hk, hf⟩ := gd_e hf
  cases hf
  obtain ⟨S, G, nt, nv⟩ := C
  obtain ⟨e0, r, S'⟩ := q
  exact w_columns hfl hq hk
theorem qw_columns : VWw yL_columns cL_columns 4 [(0, 6, 9, 21)] 2 := ⟨a_648, a_15, a_647, by decide +kernel⟩

set_option maxRecDepth 100000 in
set_option maxHeartbeats 4000000 in
theorem w_key {l : Launch} {D : va_G} {cA : Nat → ClassId} {A : Nat → Prop} {G : Gt} {nt nv x0 : Nat} (hfl : l.stackTraces = false) {x1 : Int32} {S : St} {e0 : Nat} {r : Int32} {S' : St} (hf : d10_key G nt nv x1 S = some (e0, r, S')) (hk : e0 = 0 ∨ e0 = 3) :
    CtW l D cA A yL_key cL_key 4 [(0, 6, 9, 21)] 7 20 200 [.ref x0, .int x1] (fun H => AX D cA A x0 S G nt nv H ∧ (∀ q : Nat, H.size ≤ q → A q)) (ex e0 r) (AX D cA A x0 S' G nt nv) := by
  refine CtW_of (by decide +kernel) (Nat.le_of_ble_eq_true rfl) ?_
  intro p e s m args below meth c ls hC hr hlk htab hX hKX hTX hNX hl
  obtain ⟨hAX, hAs⟩ := hX
  have hrec := AX.rec hKX.1 hAX
  obtain ⟨ad, L, hX, hG, hE, hx0⟩ := hAX
  have hx := hC.1
  have hb := hC.2.1
  have hS : va_S A s.heap s.heap [] := va_S.rf
  have hl : lv_has ls 4 [(0, .ref x0), (1, .int x1)] := hl
  refine lv_aload_n hx hb dL_key_0 rfl (lv_at hl 0 rfl) ?_
  refine lv_iload_n hx hb dL_key_1 rfl (lv_at hl 1 rfl) ?_
  rw [← hx0] at hrec
  refine W.eq (g2 := F0 m 2 ls [.int x1, .ref (ad (5, 0))]) (by rw [hx0]) ?_
  refine Ct_VX (X := fun H => DX D cA A ad L G S H ∧ ∀ q : Nat, H.size ≤ q → A q) (X' := AX D cA A x0 S' G nt nv) (As := [.int x1]) (rest := []) hC (CtX.to (c_d10_key hfl hG hf) (fun H q => q.1) (fun H q => AX_of q hG hE hx0)) q_d10_key a_656 (Nat.le_of_ble_eq_true rfl) hrec ⟨hX, hAs⟩ hKX hTX hS (fun q z => z) rfl hl.1 (Nat.le_of_ble_eq_true rfl) dL_key_2 ⟨Nat.le_of_ble_eq_true rfl, Nat.le_of_ble_eq_true rfl⟩ (fun he H locs hX1 hz1 hk1 hS => ?_) (fun he q9 ce H locs hX1 hz1 hk1 hS hce hcv hcl => ?_)
  · subst he
    refine lv_istore_n (lv' := [(2, .int r), (0, .ref x0), (1, .int x1)]) hx hb dL_key_5 rfl hl (by decide) rfl (fun ls hl => ?_)
    refine lv_goto (tgt := 14) hx hb dL_key_6 (by decide) ?_
    refine lv_iload_n hx hb dL_key_14 rfl (lv_at hl 0 rfl) ?_
    exact CtW_ri hx hb hr hlk hX1 hS (Nat.le_of_ble_eq_true rfl) (Nat.le_of_ble_eq_true rfl) dL_key_15
  · rcases hk with h | h
    · exact absurd h he
    · subst h
      refine vx_catch (own := "LensbenchLaw") (name := "java/lang/IndexOutOfBoundsException") (E := "java/lang/IndexOutOfBoundsException") hC.2.2.2.1 [] ⟨0, 6, 9, 21⟩ [] htab (fun z hz => by cases hz) (by decide) (by decide) (tA hC.2.2.2.2 a_495) (va_Nw.use rfl (hNX.2 _ (by decide))) hce hcv hcl ?_
      refine lv_astore_n (lv' := [(3, .ref q9), (0, .ref x0), (1, .int x1)]) hx hb dL_key_9 rfl hl (by decide) rfl (fun ls hl => ?_)
      refine lv_sipush (v := (-7100)) hx hb dL_key_10 (by decide) ?_
      exact CtW_ri hx hb hr hlk hX1 hS (Nat.le_of_ble_eq_true rfl) (Nat.le_of_ble_eq_true rfl) dL_key_13
def k_key (x1 : Int32) (C : Cs) : Option (Int32 × Cs) :=
  (d10_key C.2.1 C.2.2.1 C.2.2.2 x1 C.1).bind fun q => gd (q.1 = 0 ∨ q.1 = 3) <| some (ex q.1 q.2.1, (q.2.2, C.2))
theorem v_key {l : Launch} {D : va_G} {cA : Nat → ClassId} {A : Nat → Prop} {x0 : Nat} (hfl : l.stackTraces = false) {x1 : Int32} {C C' : Cs} {z : Int32} (hf : k_key x1 C = some (z, C')) : CtW l D cA A yL_key cL_key 4 [(0, 6, 9, 21)] 7 20 200 [.ref x0, .int x1] (fun H => CX D cA A x0 C H ∧ (∀ q : Nat, H.size ≤ q → A q)) z (CX D cA A x0 C') := by
  unfold k_key at hf
  obtain ⟨q, hq, hf⟩ := Option.bind_eq_some_iff.mp hf
  obtain ⟨hk, hf⟩ := gd_e hf
  cases hf
  obtain ⟨S, G, nt, nv⟩ := C
  obtain ⟨e0, r, S'⟩ := q
  exact w_key hfl hq hk
theorem qw_key : VWw yL_key cL_key 4 [(0, 6, 9, 21)] 2 := ⟨a_655, a_15, a_654, by decide +kernel⟩

set_option maxRecDepth 100000 in
set_option maxHeartbeats 4000000 in
theorem w_rows {l : Launch} {D : va_G} {cA : Nat → ClassId} {A : Nat → Prop} {G : Gt} {nt nv x0 : Nat} (hfl : l.stackTraces = false) {x1 : Int32} {S : St} {e0 : Nat} {r : Int32} {S' : St} (hf : d10_rows G nt nv x1 S = some (e0, r, S')) (hk : e0 = 0 ∨ e0 = 3) :
    CtW l D cA A yL_rows cL_rows 4 [(0, 6, 9, 21)] 7 20 200 [.ref x0, .int x1] (fun H => AX D cA A x0 S G nt nv H ∧ (∀ q : Nat, H.size ≤ q → A q)) (ex e0 r) (AX D cA A x0 S' G nt nv) := by
  refine CtW_of (by decide +kernel) (Nat.le_of_ble_eq_true rfl) ?_
  intro p e s m args below meth c ls hC hr hlk htab hX hKX hTX hNX hl
  obtain ⟨hAX, hAs⟩ := hX
  have hrec := AX.rec hKX.1 hAX
  obtain ⟨ad, L, hX, hG, hE, hx0⟩ := hAX
  have hx := hC.1
  have hb := hC.2.1
  have hS : va_S A s.heap s.heap [] := va_S.rf
  have hl : lv_has ls 4 [(0, .ref x0), (1, .int x1)] := hl
  refine lv_aload_n hx hb dL_rows_0 rfl (lv_at hl 0 rfl) ?_
  refine lv_iload_n hx hb dL_rows_1 rfl (lv_at hl 1 rfl) ?_
  rw [← hx0] at hrec
  refine W.eq (g2 := F0 m 2 ls [.int x1, .ref (ad (5, 0))]) (by rw [hx0]) ?_
  refine Ct_VX (X := fun H => DX D cA A ad L G S H ∧ ∀ q : Nat, H.size ≤ q → A q) (X' := AX D cA A x0 S' G nt nv) (As := [.int x1]) (rest := []) hC (CtX.to (c_d10_rows hfl hG hf) (fun H q => q.1) (fun H q => AX_of q hG hE hx0)) q_d10_rows a_641 (Nat.le_of_ble_eq_true rfl) hrec ⟨hX, hAs⟩ hKX hTX hS (fun q z => z) rfl hl.1 (Nat.le_of_ble_eq_true rfl) dL_rows_2 ⟨Nat.le_of_ble_eq_true rfl, Nat.le_of_ble_eq_true rfl⟩ (fun he H locs hX1 hz1 hk1 hS => ?_) (fun he q9 ce H locs hX1 hz1 hk1 hS hce hcv hcl => ?_)
  · subst he
    refine lv_istore_n (lv' := [(2, .int r), (0, .ref x0), (1, .int x1)]) hx hb dL_rows_5 rfl hl (by decide) rfl (fun ls hl => ?_)
    refine lv_goto (tgt := 14) hx hb dL_rows_6 (by decide) ?_
    refine lv_iload_n hx hb dL_rows_14 rfl (lv_at hl 0 rfl) ?_
    exact CtW_ri hx hb hr hlk hX1 hS (Nat.le_of_ble_eq_true rfl) (Nat.le_of_ble_eq_true rfl) dL_rows_15
  · rcases hk with h | h
    · exact absurd h he
    · subst h
      refine vx_catch (own := "LensbenchLaw") (name := "java/lang/IndexOutOfBoundsException") (E := "java/lang/IndexOutOfBoundsException") hC.2.2.2.1 [] ⟨0, 6, 9, 21⟩ [] htab (fun z hz => by cases hz) (by decide) (by decide) (tA hC.2.2.2.2 a_495) (va_Nw.use rfl (hNX.2 _ (by decide))) hce hcv hcl ?_
      refine lv_astore_n (lv' := [(3, .ref q9), (0, .ref x0), (1, .int x1)]) hx hb dL_rows_9 rfl hl (by decide) rfl (fun ls hl => ?_)
      refine lv_sipush (v := (-7100)) hx hb dL_rows_10 (by decide) ?_
      exact CtW_ri hx hb hr hlk hX1 hS (Nat.le_of_ble_eq_true rfl) (Nat.le_of_ble_eq_true rfl) dL_rows_13
def k_rows (x1 : Int32) (C : Cs) : Option (Int32 × Cs) :=
  (d10_rows C.2.1 C.2.2.1 C.2.2.2 x1 C.1).bind fun q => gd (q.1 = 0 ∨ q.1 = 3) <| some (ex q.1 q.2.1, (q.2.2, C.2))
theorem v_rows {l : Launch} {D : va_G} {cA : Nat → ClassId} {A : Nat → Prop} {x0 : Nat} (hfl : l.stackTraces = false) {x1 : Int32} {C C' : Cs} {z : Int32} (hf : k_rows x1 C = some (z, C')) : CtW l D cA A yL_rows cL_rows 4 [(0, 6, 9, 21)] 7 20 200 [.ref x0, .int x1] (fun H => CX D cA A x0 C H ∧ (∀ q : Nat, H.size ≤ q → A q)) z (CX D cA A x0 C') := by
  unfold k_rows at hf
  obtain ⟨q, hq, hf⟩ := Option.bind_eq_some_iff.mp hf
  obtain ⟨hk, hf⟩ := gd_e hf
  cases hf
  obtain ⟨S, G, nt, nv⟩ := C
  obtain ⟨e0, r, S'⟩ := q
  exact w_rows hfl hq hk
theorem qw_rows : VWw yL_rows cL_rows 4 [(0, 6, 9, 21)] 2 := ⟨a_640, a_15, a_639, by decide +kernel⟩

set_option maxRecDepth 100000 in
set_option maxHeartbeats 4000000 in
theorem w_row {l : Launch} {D : va_G} {cA : Nat → ClassId} {A : Nat → Prop} {G : Gt} {nt nv x0 : Nat} (hfl : l.stackTraces = false) {x1 : Int32} {x2 : Int32} {S : St} {e0 : Nat} {r : Int32} {S' : St} (hf : d10_row G nt nv x1 x2 S = some (e0, r, S')) (hk : e0 = 0 ∨ e0 = 3) :
    CtW l D cA A yL_row cL_row 5 [(0, 7, 10, 21)] 7 20 200 [.ref x0, .int x1, .int x2] (fun H => AX D cA A x0 S G nt nv H ∧ (∀ q : Nat, H.size ≤ q → A q)) (ex e0 r) (AX D cA A x0 S' G nt nv) := by
  refine CtW_of (by decide +kernel) (Nat.le_of_ble_eq_true rfl) ?_
  intro p e s m args below meth c ls hC hr hlk htab hX hKX hTX hNX hl
  obtain ⟨hAX, hAs⟩ := hX
  have hrec := AX.rec hKX.1 hAX
  obtain ⟨ad, L, hX, hG, hE, hx0⟩ := hAX
  have hx := hC.1
  have hb := hC.2.1
  have hS : va_S A s.heap s.heap [] := va_S.rf
  have hl : lv_has ls 5 [(0, .ref x0), (1, .int x1), (2, .int x2)] := hl
  refine lv_aload_n hx hb dL_row_0 rfl (lv_at hl 0 rfl) ?_
  refine lv_iload_n hx hb dL_row_1 rfl (lv_at hl 1 rfl) ?_
  refine lv_iload_n hx hb dL_row_2 rfl (lv_at hl 2 rfl) ?_
  rw [← hx0] at hrec
  refine W.eq (g2 := F0 m 3 ls [.int x2, .int x1, .ref (ad (5, 0))]) (by rw [hx0]) ?_
  refine Ct_VX (X := fun H => DX D cA A ad L G S H ∧ ∀ q : Nat, H.size ≤ q → A q) (X' := AX D cA A x0 S' G nt nv) (As := [.int x1, .int x2]) (rest := []) hC (CtX.to (c_d10_row hfl hG hf) (fun H q => q.1) (fun H q => AX_of q hG hE hx0)) q_d10_row a_629 (Nat.le_of_ble_eq_true rfl) hrec ⟨hX, hAs⟩ hKX hTX hS (fun q z => z) rfl hl.1 (Nat.le_of_ble_eq_true rfl) dL_row_3 ⟨Nat.le_of_ble_eq_true rfl, Nat.le_of_ble_eq_true rfl⟩ (fun he H locs hX1 hz1 hk1 hS => ?_) (fun he q9 ce H locs hX1 hz1 hk1 hS hce hcv hcl => ?_)
  · subst he
    refine lv_istore_n (lv' := [(3, .int r), (0, .ref x0), (1, .int x1), (2, .int x2)]) hx hb dL_row_6 rfl hl (by decide) rfl (fun ls hl => ?_)
    refine lv_goto (tgt := 16) hx hb dL_row_7 (by decide) ?_
    refine lv_iload_n hx hb dL_row_16 rfl (lv_at hl 0 rfl) ?_
    exact CtW_ri hx hb hr hlk hX1 hS (Nat.le_of_ble_eq_true rfl) (Nat.le_of_ble_eq_true rfl) dL_row_17
  · rcases hk with h | h
    · exact absurd h he
    · subst h
      refine vx_catch (own := "LensbenchLaw") (name := "java/lang/IndexOutOfBoundsException") (E := "java/lang/IndexOutOfBoundsException") hC.2.2.2.1 [] ⟨0, 7, 10, 21⟩ [] htab (fun z hz => by cases hz) (by decide) (by decide) (tA hC.2.2.2.2 a_495) (va_Nw.use rfl (hNX.2 _ (by decide))) hce hcv hcl ?_
      refine lv_astore (lv' := [(4, .ref q9), (0, .ref x0), (1, .int x1), (2, .int x2)]) hx hb dL_row_10 hl (by decide) rfl (fun ls hl => ?_)
      refine lv_sipush (v := (-7100)) hx hb dL_row_12 (by decide) ?_
      exact CtW_ri hx hb hr hlk hX1 hS (Nat.le_of_ble_eq_true rfl) (Nat.le_of_ble_eq_true rfl) dL_row_15
def k_row (x1 : Int32) (x2 : Int32) (C : Cs) : Option (Int32 × Cs) :=
  (d10_row C.2.1 C.2.2.1 C.2.2.2 x1 x2 C.1).bind fun q => gd (q.1 = 0 ∨ q.1 = 3) <| some (ex q.1 q.2.1, (q.2.2, C.2))
theorem v_row {l : Launch} {D : va_G} {cA : Nat → ClassId} {A : Nat → Prop} {x0 : Nat} (hfl : l.stackTraces = false) {x1 : Int32} {x2 : Int32} {C C' : Cs} {z : Int32} (hf : k_row x1 x2 C = some (z, C')) : CtW l D cA A yL_row cL_row 5 [(0, 7, 10, 21)] 7 20 200 [.ref x0, .int x1, .int x2] (fun H => CX D cA A x0 C H ∧ (∀ q : Nat, H.size ≤ q → A q)) z (CX D cA A x0 C') := by
  unfold k_row at hf
  obtain ⟨q, hq, hf⟩ := Option.bind_eq_some_iff.mp hf
  obtain ⟨hk, hf⟩ := gd_e hf
  cases hf
  obtain ⟨S, G, nt, nv⟩ := C
  obtain ⟨e0, r, S'⟩ := q
  exact w_row hfl hq hk
theorem qw_row : VWw yL_row cL_row 5 [(0, 7, 10, 21)] 3 := ⟨a_628, a_15, a_627, by decide +kernel⟩

set_option maxRecDepth 100000 in
set_option maxHeartbeats 4000000 in
theorem w_open {l : Launch} {D : va_G} {cA : Nat → ClassId} {A : Nat → Prop} {G : Gt} {nt nv x0 : Nat} (hfl : l.stackTraces = false) {x1 : Int32} {S : St} {e0 : Nat} {r : Int32} {S' : St} (hf : d10_open G nt nv x1 S = some (e0, r, S')) (hk : e0 = 0 ∨ e0 = 3) :
    CtW l D cA A yL_open cL_open 4 [(0, 6, 9, 21)] 7 20 200 [.ref x0, .int x1] (fun H => AX D cA A x0 S G nt nv H ∧ (∀ q : Nat, H.size ≤ q → A q)) (ex e0 r) (AX D cA A x0 S' G nt nv) := by
  refine CtW_of (by decide +kernel) (Nat.le_of_ble_eq_true rfl) ?_
  intro p e s m args below meth c ls hC hr hlk htab hX hKX hTX hNX hl
  obtain ⟨hAX, hAs⟩ := hX
  have hrec := AX.rec hKX.1 hAX
  obtain ⟨ad, L, hX, hG, hE, hx0⟩ := hAX
  have hx := hC.1
  have hb := hC.2.1
  have hS : va_S A s.heap s.heap [] := va_S.rf
  have hl : lv_has ls 4 [(0, .ref x0), (1, .int x1)] := hl
  refine lv_aload_n hx hb dL_open_0 rfl (lv_at hl 0 rfl) ?_
  refine lv_iload_n hx hb dL_open_1 rfl (lv_at hl 1 rfl) ?_
  rw [← hx0] at hrec
  refine W.eq (g2 := F0 m 2 ls [.int x1, .ref (ad (5, 0))]) (by rw [hx0]) ?_
  refine Ct_VX (X := fun H => DX D cA A ad L G S H ∧ ∀ q : Nat, H.size ≤ q → A q) (X' := AX D cA A x0 S' G nt nv) (As := [.int x1]) (rest := []) hC (CtX.to (c_d10_open hfl hG hf) (fun H q => q.1) (fun H q => AX_of q hG hE hx0)) q_d10_open a_663 (Nat.le_of_ble_eq_true rfl) hrec ⟨hX, hAs⟩ hKX hTX hS (fun q z => z) rfl hl.1 (Nat.le_of_ble_eq_true rfl) dL_open_2 ⟨Nat.le_of_ble_eq_true rfl, Nat.le_of_ble_eq_true rfl⟩ (fun he H locs hX1 hz1 hk1 hS => ?_) (fun he q9 ce H locs hX1 hz1 hk1 hS hce hcv hcl => ?_)
  · subst he
    refine lv_istore_n (lv' := [(2, .int r), (0, .ref x0), (1, .int x1)]) hx hb dL_open_5 rfl hl (by decide) rfl (fun ls hl => ?_)
    refine lv_goto (tgt := 14) hx hb dL_open_6 (by decide) ?_
    refine lv_iload_n hx hb dL_open_14 rfl (lv_at hl 0 rfl) ?_
    exact CtW_ri hx hb hr hlk hX1 hS (Nat.le_of_ble_eq_true rfl) (Nat.le_of_ble_eq_true rfl) dL_open_15
  · rcases hk with h | h
    · exact absurd h he
    · subst h
      refine vx_catch (own := "LensbenchLaw") (name := "java/lang/IndexOutOfBoundsException") (E := "java/lang/IndexOutOfBoundsException") hC.2.2.2.1 [] ⟨0, 6, 9, 21⟩ [] htab (fun z hz => by cases hz) (by decide) (by decide) (tA hC.2.2.2.2 a_495) (va_Nw.use rfl (hNX.2 _ (by decide))) hce hcv hcl ?_
      refine lv_astore_n (lv' := [(3, .ref q9), (0, .ref x0), (1, .int x1)]) hx hb dL_open_9 rfl hl (by decide) rfl (fun ls hl => ?_)
      refine lv_sipush (v := (-7100)) hx hb dL_open_10 (by decide) ?_
      exact CtW_ri hx hb hr hlk hX1 hS (Nat.le_of_ble_eq_true rfl) (Nat.le_of_ble_eq_true rfl) dL_open_13
def k_open (x1 : Int32) (C : Cs) : Option (Int32 × Cs) :=
  (d10_open C.2.1 C.2.2.1 C.2.2.2 x1 C.1).bind fun q => gd (q.1 = 0 ∨ q.1 = 3) <| some (ex q.1 q.2.1, (q.2.2, C.2))
theorem v_open {l : Launch} {D : va_G} {cA : Nat → ClassId} {A : Nat → Prop} {x0 : Nat} (hfl : l.stackTraces = false) {x1 : Int32} {C C' : Cs} {z : Int32} (hf : k_open x1 C = some (z, C')) : CtW l D cA A yL_open cL_open 4 [(0, 6, 9, 21)] 7 20 200 [.ref x0, .int x1] (fun H => CX D cA A x0 C H ∧ (∀ q : Nat, H.size ≤ q → A q)) z (CX D cA A x0 C') := by
  unfold k_open at hf
  obtain ⟨q, hq, hf⟩ := Option.bind_eq_some_iff.mp hf
  obtain ⟨hk, hf⟩ := gd_e hf
  cases hf
  obtain ⟨S, G, nt, nv⟩ := C
  obtain ⟨e0, r, S'⟩ := q
  exact w_open hfl hq hk
theorem qw_open : VWw yL_open cL_open 4 [(0, 6, 9, 21)] 2 := ⟨a_662, a_15, a_661, by decide +kernel⟩

set_option maxRecDepth 100000 in
set_option maxHeartbeats 4000000 in
theorem w_add {l : Launch} {D : va_G} {cA : Nat → ClassId} {A : Nat → Prop} {G : Gt} {nt nv x0 : Nat} (hfl : l.stackTraces = false) {x1 : Int32} {S : St} {e0 : Nat} {r : Int32} {S' : St} (hf : d10_add G nt nv x1 S = some (e0, r, S')) (hk : e0 = 0 ∨ e0 = 2 ∨ e0 = 1) :
    CtW l D cA A yL_add cL_add 4 [(0, 6, 9, 16), (0, 6, 14, 14)] 7 20 200 [.ref x0, .int x1] (fun H => AX D cA A x0 S G nt nv H ∧ (∀ q : Nat, H.size ≤ q → A q)) (ex e0 r) (AX D cA A x0 S' G nt nv) := by
  refine CtW_of (by decide +kernel) (Nat.le_of_ble_eq_true rfl) ?_
  intro p e s m args below meth c ls hC hr hlk htab hX hKX hTX hNX hl
  obtain ⟨hAX, hAs⟩ := hX
  have hrec := AX.rec hKX.1 hAX
  obtain ⟨ad, L, hX, hG, hE, hx0⟩ := hAX
  have hx := hC.1
  have hb := hC.2.1
  have hS : va_S A s.heap s.heap [] := va_S.rf
  have hl : lv_has ls 4 [(0, .ref x0), (1, .int x1)] := hl
  refine lv_aload_n hx hb dL_add_0 rfl (lv_at hl 0 rfl) ?_
  refine lv_iload_n hx hb dL_add_1 rfl (lv_at hl 1 rfl) ?_
  rw [← hx0] at hrec
  refine W.eq (g2 := F0 m 2 ls [.int x1, .ref (ad (5, 0))]) (by rw [hx0]) ?_
  refine Ct_VX (X := fun H => DX D cA A ad L G S H ∧ ∀ q : Nat, H.size ≤ q → A q) (X' := AX D cA A x0 S' G nt nv) (As := [.int x1]) (rest := []) hC (CtX.to (c_d10_add hfl hG hf) (fun H q => q.1) (fun H q => AX_of q hG hE hx0)) q_d10_add a_520 (Nat.le_of_ble_eq_true rfl) hrec ⟨hX, hAs⟩ hKX hTX hS (fun q z => z) rfl hl.1 (Nat.le_of_ble_eq_true rfl) dL_add_2 ⟨Nat.le_of_ble_eq_true rfl, Nat.le_of_ble_eq_true rfl⟩ (fun he H locs hX1 hz1 hk1 hS => ?_) (fun he q9 ce H locs hX1 hz1 hk1 hS hce hcv hcl => ?_)
  · subst he
    refine lv_istore_n (lv' := [(2, .int r), (0, .ref x0), (1, .int x1)]) hx hb dL_add_5 rfl hl (by decide) rfl (fun ls hl => ?_)
    refine lv_goto (tgt := 19) hx hb dL_add_6 (by decide) ?_
    refine lv_iload_n hx hb dL_add_19 rfl (lv_at hl 0 rfl) ?_
    exact CtW_ri hx hb hr hlk hX1 hS (Nat.le_of_ble_eq_true rfl) (Nat.le_of_ble_eq_true rfl) dL_add_20
  · rcases hk with h | h | h
    · exact absurd h he
    · subst h
      refine vx_catch (own := "LensbenchLaw") (name := "java/lang/IllegalStateException") (E := "java/lang/IllegalStateException") hC.2.2.2.1 [] ⟨0, 6, 9, 16⟩ [⟨0, 6, 14, 14⟩] htab (fun z hz => by cases hz) (by decide) (by decide) (tA hC.2.2.2.2 a_147) (va_Nw.use rfl (hNX.2 _ (by decide))) hce hcv hcl ?_
      refine lv_astore_n (lv' := [(3, .ref q9), (0, .ref x0), (1, .int x1)]) hx hb dL_add_9 rfl hl (by decide) rfl (fun ls hl => ?_)
      refine lv_sipush (v := (-7300)) hx hb dL_add_10 (by decide) ?_
      exact CtW_ri hx hb hr hlk hX1 hS (Nat.le_of_ble_eq_true rfl) (Nat.le_of_ble_eq_true rfl) dL_add_13
    · subst h
      refine vx_catch (own := "LensbenchLaw") (name := "java/lang/IllegalArgumentException") (E := "java/lang/IllegalArgumentException") hC.2.2.2.1 [⟨0, 6, 9, 16⟩] ⟨0, 6, 14, 14⟩ [] htab (fun z hz => by
        simp only [List.mem_cons, List.not_mem_nil, or_false] at hz
        subst hz
        · exact Or.inr ⟨by decide, "java/lang/IllegalStateException", tA hC.2.2.2.2 a_147, hNX.1 ("java/lang/IllegalArgumentException", "java/lang/IllegalStateException") (by decide)⟩
        ) (by decide) (by decide) (tA hC.2.2.2.2 a_392) (va_Nw.use rfl (hNX.2 _ (by decide))) hce hcv hcl ?_
      refine lv_astore_n (lv' := [(3, .ref q9), (0, .ref x0), (1, .int x1)]) hx hb dL_add_14 rfl hl (by decide) rfl (fun ls hl => ?_)
      refine lv_sipush (v := (-7200)) hx hb dL_add_15 (by decide) ?_
      exact CtW_ri hx hb hr hlk hX1 hS (Nat.le_of_ble_eq_true rfl) (Nat.le_of_ble_eq_true rfl) dL_add_18
def k_add (x1 : Int32) (C : Cs) : Option (Int32 × Cs) :=
  (d10_add C.2.1 C.2.2.1 C.2.2.2 x1 C.1).bind fun q => gd (q.1 = 0 ∨ q.1 = 2 ∨ q.1 = 1) <| some (ex q.1 q.2.1, (q.2.2, C.2))
theorem v_add {l : Launch} {D : va_G} {cA : Nat → ClassId} {A : Nat → Prop} {x0 : Nat} (hfl : l.stackTraces = false) {x1 : Int32} {C C' : Cs} {z : Int32} (hf : k_add x1 C = some (z, C')) : CtW l D cA A yL_add cL_add 4 [(0, 6, 9, 16), (0, 6, 14, 14)] 7 20 200 [.ref x0, .int x1] (fun H => CX D cA A x0 C H ∧ (∀ q : Nat, H.size ≤ q → A q)) z (CX D cA A x0 C') := by
  unfold k_add at hf
  obtain ⟨q, hq, hf⟩ := Option.bind_eq_some_iff.mp hf
  obtain ⟨hk, hf⟩ := gd_e hf
  cases hf
  obtain ⟨S, G, nt, nv⟩ := C
  obtain ⟨e0, r, S'⟩ := q
  exact w_add hfl hq hk
theorem qw_add : VWw yL_add cL_add 4 [(0, 6, 9, 16), (0, 6, 14, 14)] 2 := ⟨a_519, a_15, a_518, by decide +kernel⟩

set_option maxRecDepth 100000 in
set_option maxHeartbeats 4000000 in
theorem w_takeOut {l : Launch} {D : va_G} {cA : Nat → ClassId} {A : Nat → Prop} {G : Gt} {nt nv x0 : Nat} (hfl : l.stackTraces = false) {x1 : Int32} {S : St} {e0 : Nat} {r : Int32} {S' : St} (hf : d10_takeOut G nt nv x1 S = some (e0, r, S')) (hk : e0 = 0 ∨ e0 = 2 ∨ e0 = 4) :
    CtW l D cA A yL_takeOut cL_takeOut 4 [(0, 6, 9, 16), (0, 6, 14, 26)] 7 20 200 [.ref x0, .int x1] (fun H => AX D cA A x0 S G nt nv H ∧ (∀ q : Nat, H.size ≤ q → A q)) (ex e0 r) (AX D cA A x0 S' G nt nv) := by
  refine CtW_of (by decide +kernel) (Nat.le_of_ble_eq_true rfl) ?_
  intro p e s m args below meth c ls hC hr hlk htab hX hKX hTX hNX hl
  obtain ⟨hAX, hAs⟩ := hX
  have hrec := AX.rec hKX.1 hAX
  obtain ⟨ad, L, hX, hG, hE, hx0⟩ := hAX
  have hx := hC.1
  have hb := hC.2.1
  have hS : va_S A s.heap s.heap [] := va_S.rf
  have hl : lv_has ls 4 [(0, .ref x0), (1, .int x1)] := hl
  refine lv_aload_n hx hb dL_takeOut_0 rfl (lv_at hl 0 rfl) ?_
  refine lv_iload_n hx hb dL_takeOut_1 rfl (lv_at hl 1 rfl) ?_
  rw [← hx0] at hrec
  refine W.eq (g2 := F0 m 2 ls [.int x1, .ref (ad (5, 0))]) (by rw [hx0]) ?_
  refine Ct_VX (X := fun H => DX D cA A ad L G S H ∧ ∀ q : Nat, H.size ≤ q → A q) (X' := AX D cA A x0 S' G nt nv) (As := [.int x1]) (rest := []) hC (CtX.to (c_d10_takeOut hfl hG hf) (fun H q => q.1) (fun H q => AX_of q hG hE hx0)) q_d10_takeOut a_538 (Nat.le_of_ble_eq_true rfl) hrec ⟨hX, hAs⟩ hKX hTX hS (fun q z => z) rfl hl.1 (Nat.le_of_ble_eq_true rfl) dL_takeOut_2 ⟨Nat.le_of_ble_eq_true rfl, Nat.le_of_ble_eq_true rfl⟩ (fun he H locs hX1 hz1 hk1 hS => ?_) (fun he q9 ce H locs hX1 hz1 hk1 hS hce hcv hcl => ?_)
  · subst he
    refine lv_istore_n (lv' := [(2, .int r), (0, .ref x0), (1, .int x1)]) hx hb dL_takeOut_5 rfl hl (by decide) rfl (fun ls hl => ?_)
    refine lv_goto (tgt := 19) hx hb dL_takeOut_6 (by decide) ?_
    refine lv_iload_n hx hb dL_takeOut_19 rfl (lv_at hl 0 rfl) ?_
    exact CtW_ri hx hb hr hlk hX1 hS (Nat.le_of_ble_eq_true rfl) (Nat.le_of_ble_eq_true rfl) dL_takeOut_20
  · rcases hk with h | h | h
    · exact absurd h he
    · subst h
      refine vx_catch (own := "LensbenchLaw") (name := "java/lang/IllegalStateException") (E := "java/lang/IllegalStateException") hC.2.2.2.1 [] ⟨0, 6, 9, 16⟩ [⟨0, 6, 14, 26⟩] htab (fun z hz => by cases hz) (by decide) (by decide) (tA hC.2.2.2.2 a_147) (va_Nw.use rfl (hNX.2 _ (by decide))) hce hcv hcl ?_
      refine lv_astore_n (lv' := [(3, .ref q9), (0, .ref x0), (1, .int x1)]) hx hb dL_takeOut_9 rfl hl (by decide) rfl (fun ls hl => ?_)
      refine lv_sipush (v := (-7300)) hx hb dL_takeOut_10 (by decide) ?_
      exact CtW_ri hx hb hr hlk hX1 hS (Nat.le_of_ble_eq_true rfl) (Nat.le_of_ble_eq_true rfl) dL_takeOut_13
    · subst h
      refine vx_catch (own := "LensbenchLaw") (name := "java/util/NoSuchElementException") (E := "java/util/NoSuchElementException") hC.2.2.2.1 [⟨0, 6, 9, 16⟩] ⟨0, 6, 14, 26⟩ [] htab (fun z hz => by
        simp only [List.mem_cons, List.not_mem_nil, or_false] at hz
        subst hz
        · exact Or.inr ⟨by decide, "java/lang/IllegalStateException", tA hC.2.2.2.2 a_147, hNX.1 ("java/util/NoSuchElementException", "java/lang/IllegalStateException") (by decide)⟩
        ) (by decide) (by decide) (tA hC.2.2.2.2 a_537) (va_Nw.use rfl (hNX.2 _ (by decide))) hce hcv hcl ?_
      refine lv_astore_n (lv' := [(3, .ref q9), (0, .ref x0), (1, .int x1)]) hx hb dL_takeOut_14 rfl hl (by decide) rfl (fun ls hl => ?_)
      refine lv_sipush (v := (-7400)) hx hb dL_takeOut_15 (by decide) ?_
      exact CtW_ri hx hb hr hlk hX1 hS (Nat.le_of_ble_eq_true rfl) (Nat.le_of_ble_eq_true rfl) dL_takeOut_18
def k_takeOut (x1 : Int32) (C : Cs) : Option (Int32 × Cs) :=
  (d10_takeOut C.2.1 C.2.2.1 C.2.2.2 x1 C.1).bind fun q => gd (q.1 = 0 ∨ q.1 = 2 ∨ q.1 = 4) <| some (ex q.1 q.2.1, (q.2.2, C.2))
theorem v_takeOut {l : Launch} {D : va_G} {cA : Nat → ClassId} {A : Nat → Prop} {x0 : Nat} (hfl : l.stackTraces = false) {x1 : Int32} {C C' : Cs} {z : Int32} (hf : k_takeOut x1 C = some (z, C')) : CtW l D cA A yL_takeOut cL_takeOut 4 [(0, 6, 9, 16), (0, 6, 14, 26)] 7 20 200 [.ref x0, .int x1] (fun H => CX D cA A x0 C H ∧ (∀ q : Nat, H.size ≤ q → A q)) z (CX D cA A x0 C') := by
  unfold k_takeOut at hf
  obtain ⟨q, hq, hf⟩ := Option.bind_eq_some_iff.mp hf
  obtain ⟨hk, hf⟩ := gd_e hf
  cases hf
  obtain ⟨S, G, nt, nv⟩ := C
  obtain ⟨e0, r, S'⟩ := q
  exact w_takeOut hfl hq hk
theorem qw_takeOut : VWw yL_takeOut cL_takeOut 4 [(0, 6, 9, 16), (0, 6, 14, 26)] 2 := ⟨a_536, a_15, a_535, by decide +kernel⟩

set_option maxRecDepth 100000 in
set_option maxHeartbeats 4000000 in
theorem w_change {l : Launch} {D : va_G} {cA : Nat → ClassId} {A : Nat → Prop} {G : Gt} {nt nv x0 : Nat} (hfl : l.stackTraces = false) {x1 : Int32} {x2 : Int32} {x3 : Int32} {S : St} {e0 : Nat} {r : Int32} {S' : St} (hf : d10_change G nt nv x1 x2 x3 S = some (e0, r, S')) (hk : e0 = 0 ∨ e0 = 2 ∨ e0 = 1 ∨ e0 = 4) :
    CtW l D cA A yL_change cL_change 6 [(0, 9, 12, 16), (0, 9, 18, 14), (0, 9, 24, 26)] 7 20 200 [.ref x0, .int x1, .int x2, .int x3] (fun H => AX D cA A x0 S G nt nv H ∧ (∀ q : Nat, H.size ≤ q → A q)) (ex e0 r) (AX D cA A x0 S' G nt nv) := by
  refine CtW_of (by decide +kernel) (Nat.le_of_ble_eq_true rfl) ?_
  intro p e s m args below meth c ls hC hr hlk htab hX hKX hTX hNX hl
  obtain ⟨hAX, hAs⟩ := hX
  have hrec := AX.rec hKX.1 hAX
  obtain ⟨ad, L, hX, hG, hE, hx0⟩ := hAX
  have hx := hC.1
  have hb := hC.2.1
  have hS : va_S A s.heap s.heap [] := va_S.rf
  have hl : lv_has ls 6 [(0, .ref x0), (1, .int x1), (2, .int x2), (3, .int x3)] := hl
  refine lv_aload_n hx hb dL_change_0 rfl (lv_at hl 0 rfl) ?_
  refine lv_iload_n hx hb dL_change_1 rfl (lv_at hl 1 rfl) ?_
  refine lv_iload_n hx hb dL_change_2 rfl (lv_at hl 2 rfl) ?_
  refine lv_iload_n hx hb dL_change_3 rfl (lv_at hl 3 rfl) ?_
  rw [← hx0] at hrec
  refine W.eq (g2 := F0 m 4 ls [.int x3, .int x2, .int x1, .ref (ad (5, 0))]) (by rw [hx0]) ?_
  refine Ct_VX (X := fun H => DX D cA A ad L G S H ∧ ∀ q : Nat, H.size ≤ q → A q) (X' := AX D cA A x0 S' G nt nv) (As := [.int x1, .int x2, .int x3]) (rest := []) hC (CtX.to (c_d10_change hfl hG hf) (fun H q => q.1) (fun H q => AX_of q hG hE hx0)) q_d10_change a_565 (Nat.le_of_ble_eq_true rfl) hrec ⟨hX, hAs⟩ hKX hTX hS (fun q z => z) rfl hl.1 (Nat.le_of_ble_eq_true rfl) dL_change_4 ⟨Nat.le_of_ble_eq_true rfl, Nat.le_of_ble_eq_true rfl⟩ (fun he H locs hX1 hz1 hk1 hS => ?_) (fun he q9 ce H locs hX1 hz1 hk1 hS hce hcv hcl => ?_)
  · subst he
    refine lv_istore (lv' := [(4, .int r), (0, .ref x0), (1, .int x1), (2, .int x2), (3, .int x3)]) hx hb dL_change_7 hl (by decide) rfl (fun ls hl => ?_)
    refine lv_goto (tgt := 30) hx hb dL_change_9 (by decide) ?_
    refine lv_iload hx hb dL_change_30 (lv_at hl 0 rfl) ?_
    exact CtW_ri hx hb hr hlk hX1 hS (Nat.le_of_ble_eq_true rfl) (Nat.le_of_ble_eq_true rfl) dL_change_32
  · rcases hk with h | h | h | h
    · exact absurd h he
    · subst h
      refine vx_catch (own := "LensbenchLaw") (name := "java/lang/IllegalStateException") (E := "java/lang/IllegalStateException") hC.2.2.2.1 [] ⟨0, 9, 12, 16⟩ [⟨0, 9, 18, 14⟩, ⟨0, 9, 24, 26⟩] htab (fun z hz => by cases hz) (by decide) (by decide) (tA hC.2.2.2.2 a_147) (va_Nw.use rfl (hNX.2 _ (by decide))) hce hcv hcl ?_
      refine lv_astore (lv' := [(5, .ref q9), (0, .ref x0), (1, .int x1), (2, .int x2), (3, .int x3)]) hx hb dL_change_12 hl (by decide) rfl (fun ls hl => ?_)
      refine lv_sipush (v := (-7300)) hx hb dL_change_14 (by decide) ?_
      exact CtW_ri hx hb hr hlk hX1 hS (Nat.le_of_ble_eq_true rfl) (Nat.le_of_ble_eq_true rfl) dL_change_17
    · subst h
      refine vx_catch (own := "LensbenchLaw") (name := "java/lang/IllegalArgumentException") (E := "java/lang/IllegalArgumentException") hC.2.2.2.1 [⟨0, 9, 12, 16⟩] ⟨0, 9, 18, 14⟩ [⟨0, 9, 24, 26⟩] htab (fun z hz => by
        simp only [List.mem_cons, List.not_mem_nil, or_false] at hz
        subst hz
        · exact Or.inr ⟨by decide, "java/lang/IllegalStateException", tA hC.2.2.2.2 a_147, hNX.1 ("java/lang/IllegalArgumentException", "java/lang/IllegalStateException") (by decide)⟩
        ) (by decide) (by decide) (tA hC.2.2.2.2 a_392) (va_Nw.use rfl (hNX.2 _ (by decide))) hce hcv hcl ?_
      refine lv_astore (lv' := [(5, .ref q9), (0, .ref x0), (1, .int x1), (2, .int x2), (3, .int x3)]) hx hb dL_change_18 hl (by decide) rfl (fun ls hl => ?_)
      refine lv_sipush (v := (-7200)) hx hb dL_change_20 (by decide) ?_
      exact CtW_ri hx hb hr hlk hX1 hS (Nat.le_of_ble_eq_true rfl) (Nat.le_of_ble_eq_true rfl) dL_change_23
    · subst h
      refine vx_catch (own := "LensbenchLaw") (name := "java/util/NoSuchElementException") (E := "java/util/NoSuchElementException") hC.2.2.2.1 [⟨0, 9, 12, 16⟩, ⟨0, 9, 18, 14⟩] ⟨0, 9, 24, 26⟩ [] htab (fun z hz => by
        simp only [List.mem_cons, List.not_mem_nil, or_false] at hz
        rcases hz with rfl | rfl
        · exact Or.inr ⟨by decide, "java/lang/IllegalStateException", tA hC.2.2.2.2 a_147, hNX.1 ("java/util/NoSuchElementException", "java/lang/IllegalStateException") (by decide)⟩
        · exact Or.inr ⟨by decide, "java/lang/IllegalArgumentException", tA hC.2.2.2.2 a_392, hNX.1 ("java/util/NoSuchElementException", "java/lang/IllegalArgumentException") (by decide)⟩
        ) (by decide) (by decide) (tA hC.2.2.2.2 a_537) (va_Nw.use rfl (hNX.2 _ (by decide))) hce hcv hcl ?_
      refine lv_astore (lv' := [(5, .ref q9), (0, .ref x0), (1, .int x1), (2, .int x2), (3, .int x3)]) hx hb dL_change_24 hl (by decide) rfl (fun ls hl => ?_)
      refine lv_sipush (v := (-7400)) hx hb dL_change_26 (by decide) ?_
      exact CtW_ri hx hb hr hlk hX1 hS (Nat.le_of_ble_eq_true rfl) (Nat.le_of_ble_eq_true rfl) dL_change_29
def k_change (x1 : Int32) (x2 : Int32) (x3 : Int32) (C : Cs) : Option (Int32 × Cs) :=
  (d10_change C.2.1 C.2.2.1 C.2.2.2 x1 x2 x3 C.1).bind fun q => gd (q.1 = 0 ∨ q.1 = 2 ∨ q.1 = 1 ∨ q.1 = 4) <| some (ex q.1 q.2.1, (q.2.2, C.2))
theorem v_change {l : Launch} {D : va_G} {cA : Nat → ClassId} {A : Nat → Prop} {x0 : Nat} (hfl : l.stackTraces = false) {x1 : Int32} {x2 : Int32} {x3 : Int32} {C C' : Cs} {z : Int32} (hf : k_change x1 x2 x3 C = some (z, C')) : CtW l D cA A yL_change cL_change 6 [(0, 9, 12, 16), (0, 9, 18, 14), (0, 9, 24, 26)] 7 20 200 [.ref x0, .int x1, .int x2, .int x3] (fun H => CX D cA A x0 C H ∧ (∀ q : Nat, H.size ≤ q → A q)) z (CX D cA A x0 C') := by
  unfold k_change at hf
  obtain ⟨q, hq, hf⟩ := Option.bind_eq_some_iff.mp hf
  obtain ⟨hk, hf⟩ := gd_e hf
  cases hf
  obtain ⟨S, G, nt, nv⟩ := C
  obtain ⟨e0, r, S'⟩ := q
  exact w_change hfl hq hk
theorem qw_change : VWw yL_change cL_change 6 [(0, 9, 12, 16), (0, 9, 18, 14), (0, 9, 24, 26)] 4 := ⟨a_564, a_15, a_563, by decide +kernel⟩

set_option maxRecDepth 100000 in
set_option maxHeartbeats 4000000 in
theorem w_draftRow {l : Launch} {D : va_G} {cA : Nat → ClassId} {A : Nat → Prop} {G : Gt} {nt nv x0 : Nat} (hfl : l.stackTraces = false) {x1 : Int32} {S : St} {e0 : Nat} {r : Int32} {S' : St} (hf : d10_draftRow G nt nv x1 S = some (e0, r, S')) (hk : e0 = 0 ∨ e0 = 2 ∨ e0 = 3) :
    CtW l D cA A yL_draftRow cL_draftRow 4 [(0, 6, 9, 16), (0, 6, 14, 21)] 7 20 200 [.ref x0, .int x1] (fun H => AX D cA A x0 S G nt nv H ∧ (∀ q : Nat, H.size ≤ q → A q)) (ex e0 r) (AX D cA A x0 S' G nt nv) := by
  refine CtW_of (by decide +kernel) (Nat.le_of_ble_eq_true rfl) ?_
  intro p e s m args below meth c ls hC hr hlk htab hX hKX hTX hNX hl
  obtain ⟨hAX, hAs⟩ := hX
  have hrec := AX.rec hKX.1 hAX
  obtain ⟨ad, L, hX, hG, hE, hx0⟩ := hAX
  have hx := hC.1
  have hb := hC.2.1
  have hS : va_S A s.heap s.heap [] := va_S.rf
  have hl : lv_has ls 4 [(0, .ref x0), (1, .int x1)] := hl
  refine lv_aload_n hx hb dL_draftRow_0 rfl (lv_at hl 0 rfl) ?_
  refine lv_iload_n hx hb dL_draftRow_1 rfl (lv_at hl 1 rfl) ?_
  rw [← hx0] at hrec
  refine W.eq (g2 := F0 m 2 ls [.int x1, .ref (ad (5, 0))]) (by rw [hx0]) ?_
  refine Ct_VX (X := fun H => DX D cA A ad L G S H ∧ ∀ q : Nat, H.size ≤ q → A q) (X' := AX D cA A x0 S' G nt nv) (As := [.int x1]) (rest := []) hC (CtX.to (c_d10_draftRow hfl hG hf) (fun H q => q.1) (fun H q => AX_of q hG hE hx0)) q_d10_draftRow a_496 (Nat.le_of_ble_eq_true rfl) hrec ⟨hX, hAs⟩ hKX hTX hS (fun q z => z) rfl hl.1 (Nat.le_of_ble_eq_true rfl) dL_draftRow_2 ⟨Nat.le_of_ble_eq_true rfl, Nat.le_of_ble_eq_true rfl⟩ (fun he H locs hX1 hz1 hk1 hS => ?_) (fun he q9 ce H locs hX1 hz1 hk1 hS hce hcv hcl => ?_)
  · subst he
    refine lv_istore_n (lv' := [(2, .int r), (0, .ref x0), (1, .int x1)]) hx hb dL_draftRow_5 rfl hl (by decide) rfl (fun ls hl => ?_)
    refine lv_goto (tgt := 19) hx hb dL_draftRow_6 (by decide) ?_
    refine lv_iload_n hx hb dL_draftRow_19 rfl (lv_at hl 0 rfl) ?_
    exact CtW_ri hx hb hr hlk hX1 hS (Nat.le_of_ble_eq_true rfl) (Nat.le_of_ble_eq_true rfl) dL_draftRow_20
  · rcases hk with h | h | h
    · exact absurd h he
    · subst h
      refine vx_catch (own := "LensbenchLaw") (name := "java/lang/IllegalStateException") (E := "java/lang/IllegalStateException") hC.2.2.2.1 [] ⟨0, 6, 9, 16⟩ [⟨0, 6, 14, 21⟩] htab (fun z hz => by cases hz) (by decide) (by decide) (tA hC.2.2.2.2 a_147) (va_Nw.use rfl (hNX.2 _ (by decide))) hce hcv hcl ?_
      refine lv_astore_n (lv' := [(3, .ref q9), (0, .ref x0), (1, .int x1)]) hx hb dL_draftRow_9 rfl hl (by decide) rfl (fun ls hl => ?_)
      refine lv_sipush (v := (-7300)) hx hb dL_draftRow_10 (by decide) ?_
      exact CtW_ri hx hb hr hlk hX1 hS (Nat.le_of_ble_eq_true rfl) (Nat.le_of_ble_eq_true rfl) dL_draftRow_13
    · subst h
      refine vx_catch (own := "LensbenchLaw") (name := "java/lang/IndexOutOfBoundsException") (E := "java/lang/IndexOutOfBoundsException") hC.2.2.2.1 [⟨0, 6, 9, 16⟩] ⟨0, 6, 14, 21⟩ [] htab (fun z hz => by
        simp only [List.mem_cons, List.not_mem_nil, or_false] at hz
        subst hz
        · exact Or.inr ⟨by decide, "java/lang/IllegalStateException", tA hC.2.2.2.2 a_147, hNX.1 ("java/lang/IndexOutOfBoundsException", "java/lang/IllegalStateException") (by decide)⟩
        ) (by decide) (by decide) (tA hC.2.2.2.2 a_495) (va_Nw.use rfl (hNX.2 _ (by decide))) hce hcv hcl ?_
      refine lv_astore_n (lv' := [(3, .ref q9), (0, .ref x0), (1, .int x1)]) hx hb dL_draftRow_14 rfl hl (by decide) rfl (fun ls hl => ?_)
      refine lv_sipush (v := (-7100)) hx hb dL_draftRow_15 (by decide) ?_
      exact CtW_ri hx hb hr hlk hX1 hS (Nat.le_of_ble_eq_true rfl) (Nat.le_of_ble_eq_true rfl) dL_draftRow_18
def k_draftRow (x1 : Int32) (C : Cs) : Option (Int32 × Cs) :=
  (d10_draftRow C.2.1 C.2.2.1 C.2.2.2 x1 C.1).bind fun q => gd (q.1 = 0 ∨ q.1 = 2 ∨ q.1 = 3) <| some (ex q.1 q.2.1, (q.2.2, C.2))
theorem v_draftRow {l : Launch} {D : va_G} {cA : Nat → ClassId} {A : Nat → Prop} {x0 : Nat} (hfl : l.stackTraces = false) {x1 : Int32} {C C' : Cs} {z : Int32} (hf : k_draftRow x1 C = some (z, C')) : CtW l D cA A yL_draftRow cL_draftRow 4 [(0, 6, 9, 16), (0, 6, 14, 21)] 7 20 200 [.ref x0, .int x1] (fun H => CX D cA A x0 C H ∧ (∀ q : Nat, H.size ≤ q → A q)) z (CX D cA A x0 C') := by
  unfold k_draftRow at hf
  obtain ⟨q, hq, hf⟩ := Option.bind_eq_some_iff.mp hf
  obtain ⟨hk, hf⟩ := gd_e hf
  cases hf
  obtain ⟨S, G, nt, nv⟩ := C
  obtain ⟨e0, r, S'⟩ := q
  exact w_draftRow hfl hq hk
theorem qw_draftRow : VWw yL_draftRow cL_draftRow 4 [(0, 6, 9, 16), (0, 6, 14, 21)] 2 := ⟨a_494, a_15, a_493, by decide +kernel⟩

set_option maxRecDepth 100000 in
set_option maxHeartbeats 4000000 in
theorem w_conflict {l : Launch} {D : va_G} {cA : Nat → ClassId} {A : Nat → Prop} {G : Gt} {nt nv x0 : Nat} (hfl : l.stackTraces = false) {S : St} {e0 : Nat} {r : Int32} {S' : St} (hf : d10_conflict G nt nv S = some (e0, r, S')) (hk : e0 = 0 ∨ e0 = 2) :
    CtW l D cA A yL_conflict cL_conflict 3 [(0, 5, 8, 16)] 20 20 200 [.ref x0] (fun H => AX D cA A x0 S G nt nv H ∧ (∀ q : Nat, H.size ≤ q → A q)) (ex e0 r) (AX D cA A x0 S' G nt nv) := by
  refine CtW_of (by decide +kernel) (Nat.le_of_ble_eq_true rfl) ?_
  intro p e s m args below meth c ls hC hr hlk htab hX hKX hTX hNX hl
  obtain ⟨hAX, hAs⟩ := hX
  have hrec := AX.rec hKX.1 hAX
  obtain ⟨ad, L, hX, hG, hE, hx0⟩ := hAX
  have hx := hC.1
  have hb := hC.2.1
  have hS : va_S A s.heap s.heap [] := va_S.rf
  have hl : lv_has ls 3 [(0, .ref x0)] := hl
  refine lv_aload_n hx hb dL_conflict_0 rfl (lv_at hl 0 rfl) ?_
  rw [← hx0] at hrec
  refine W.eq (g2 := F0 m 1 ls [.ref (ad (5, 0))]) (by rw [hx0]) ?_
  refine Ct_VX (X := fun H => DX D cA A ad L G S H ∧ ∀ q : Nat, H.size ≤ q → A q) (X' := AX D cA A x0 S' G nt nv) (As := []) (rest := []) hC (CtX.to (c_d10_conflict hfl hG hf) (fun H q => q.1) (fun H q => AX_of q hG hE hx0)) q_d10_conflict a_148 (Nat.le_of_ble_eq_true rfl) hrec ⟨hX, hAs⟩ hKX hTX hS (fun q z => z) rfl hl.1 (Nat.le_of_ble_eq_true rfl) dL_conflict_1 ⟨Nat.le_of_ble_eq_true rfl, Nat.le_of_ble_eq_true rfl⟩ (fun he H locs hX1 hz1 hk1 hS => ?_) (fun he q9 ce H locs hX1 hz1 hk1 hS hce hcv hcl => ?_)
  · subst he
    refine lv_istore_n (lv' := [(1, .int r), (0, .ref x0)]) hx hb dL_conflict_4 rfl hl (by decide) rfl (fun ls hl => ?_)
    refine lv_goto (tgt := 13) hx hb dL_conflict_5 (by decide) ?_
    refine lv_iload_n hx hb dL_conflict_13 rfl (lv_at hl 0 rfl) ?_
    exact CtW_ri hx hb hr hlk hX1 hS (Nat.le_of_ble_eq_true rfl) (Nat.le_of_ble_eq_true rfl) dL_conflict_14
  · rcases hk with h | h
    · exact absurd h he
    · subst h
      refine vx_catch (own := "LensbenchLaw") (name := "java/lang/IllegalStateException") (E := "java/lang/IllegalStateException") hC.2.2.2.1 [] ⟨0, 5, 8, 16⟩ [] htab (fun z hz => by cases hz) (by decide) (by decide) (tA hC.2.2.2.2 a_147) (va_Nw.use rfl (hNX.2 _ (by decide))) hce hcv hcl ?_
      refine lv_astore_n (lv' := [(2, .ref q9), (0, .ref x0)]) hx hb dL_conflict_8 rfl hl (by decide) rfl (fun ls hl => ?_)
      refine lv_sipush (v := (-7300)) hx hb dL_conflict_9 (by decide) ?_
      exact CtW_ri hx hb hr hlk hX1 hS (Nat.le_of_ble_eq_true rfl) (Nat.le_of_ble_eq_true rfl) dL_conflict_12
def k_conflict (C : Cs) : Option (Int32 × Cs) :=
  (d10_conflict C.2.1 C.2.2.1 C.2.2.2 C.1).bind fun q => gd (q.1 = 0 ∨ q.1 = 2) <| some (ex q.1 q.2.1, (q.2.2, C.2))
theorem v_conflict {l : Launch} {D : va_G} {cA : Nat → ClassId} {A : Nat → Prop} {x0 : Nat} (hfl : l.stackTraces = false) {C C' : Cs} {z : Int32} (hf : k_conflict C = some (z, C')) : CtW l D cA A yL_conflict cL_conflict 3 [(0, 5, 8, 16)] 20 20 200 [.ref x0] (fun H => CX D cA A x0 C H ∧ (∀ q : Nat, H.size ≤ q → A q)) z (CX D cA A x0 C') := by
  unfold k_conflict at hf
  obtain ⟨q, hq, hf⟩ := Option.bind_eq_some_iff.mp hf
  obtain ⟨hk, hf⟩ := gd_e hf
  cases hf
  obtain ⟨S, G, nt, nv⟩ := C
  obtain ⟨e0, r, S'⟩ := q
  exact w_conflict hfl hq hk
theorem qw_conflict : VWw yL_conflict cL_conflict 3 [(0, 5, 8, 16)] 1 := ⟨a_146, a_15, a_145, by decide +kernel⟩

set_option maxRecDepth 100000 in
set_option maxHeartbeats 4000000 in
theorem w_conflictRow {l : Launch} {D : va_G} {cA : Nat → ClassId} {A : Nat → Prop} {G : Gt} {nt nv x0 : Nat} (hfl : l.stackTraces = false) {x1 : Int32} {S : St} {e0 : Nat} {r : Int32} {S' : St} (hf : d10_conflictRow G nt nv x1 S = some (e0, r, S')) (hk : e0 = 0 ∨ e0 = 2 ∨ e0 = 1) :
    CtW l D cA A yL_conflictRow cL_conflictRow 4 [(0, 6, 9, 16), (0, 6, 14, 14)] 20 20 200 [.ref x0, .int x1] (fun H => AX D cA A x0 S G nt nv H ∧ (∀ q : Nat, H.size ≤ q → A q)) (ex e0 r) (AX D cA A x0 S' G nt nv) := by
  refine CtW_of (by decide +kernel) (Nat.le_of_ble_eq_true rfl) ?_
  intro p e s m args below meth c ls hC hr hlk htab hX hKX hTX hNX hl
  obtain ⟨hAX, hAs⟩ := hX
  have hrec := AX.rec hKX.1 hAX
  obtain ⟨ad, L, hX, hG, hE, hx0⟩ := hAX
  have hx := hC.1
  have hb := hC.2.1
  have hS : va_S A s.heap s.heap [] := va_S.rf
  have hl : lv_has ls 4 [(0, .ref x0), (1, .int x1)] := hl
  refine lv_aload_n hx hb dL_conflictRow_0 rfl (lv_at hl 0 rfl) ?_
  refine lv_iload_n hx hb dL_conflictRow_1 rfl (lv_at hl 1 rfl) ?_
  rw [← hx0] at hrec
  refine W.eq (g2 := F0 m 2 ls [.int x1, .ref (ad (5, 0))]) (by rw [hx0]) ?_
  refine Ct_VX (X := fun H => DX D cA A ad L G S H ∧ ∀ q : Nat, H.size ≤ q → A q) (X' := AX D cA A x0 S' G nt nv) (As := [.int x1]) (rest := []) hC (CtX.to (c_d10_conflictRow hfl hG hf) (fun H q => q.1) (fun H q => AX_of q hG hE hx0)) q_d10_conflictRow a_393 (Nat.le_of_ble_eq_true rfl) hrec ⟨hX, hAs⟩ hKX hTX hS (fun q z => z) rfl hl.1 (Nat.le_of_ble_eq_true rfl) dL_conflictRow_2 ⟨Nat.le_of_ble_eq_true rfl, Nat.le_of_ble_eq_true rfl⟩ (fun he H locs hX1 hz1 hk1 hS => ?_) (fun he q9 ce H locs hX1 hz1 hk1 hS hce hcv hcl => ?_)
  · subst he
    refine lv_istore_n (lv' := [(2, .int r), (0, .ref x0), (1, .int x1)]) hx hb dL_conflictRow_5 rfl hl (by decide) rfl (fun ls hl => ?_)
    refine lv_goto (tgt := 19) hx hb dL_conflictRow_6 (by decide) ?_
    refine lv_iload_n hx hb dL_conflictRow_19 rfl (lv_at hl 0 rfl) ?_
    exact CtW_ri hx hb hr hlk hX1 hS (Nat.le_of_ble_eq_true rfl) (Nat.le_of_ble_eq_true rfl) dL_conflictRow_20
  · rcases hk with h | h | h
    · exact absurd h he
    · subst h
      refine vx_catch (own := "LensbenchLaw") (name := "java/lang/IllegalStateException") (E := "java/lang/IllegalStateException") hC.2.2.2.1 [] ⟨0, 6, 9, 16⟩ [⟨0, 6, 14, 14⟩] htab (fun z hz => by cases hz) (by decide) (by decide) (tA hC.2.2.2.2 a_147) (va_Nw.use rfl (hNX.2 _ (by decide))) hce hcv hcl ?_
      refine lv_astore_n (lv' := [(3, .ref q9), (0, .ref x0), (1, .int x1)]) hx hb dL_conflictRow_9 rfl hl (by decide) rfl (fun ls hl => ?_)
      refine lv_sipush (v := (-7300)) hx hb dL_conflictRow_10 (by decide) ?_
      exact CtW_ri hx hb hr hlk hX1 hS (Nat.le_of_ble_eq_true rfl) (Nat.le_of_ble_eq_true rfl) dL_conflictRow_13
    · subst h
      refine vx_catch (own := "LensbenchLaw") (name := "java/lang/IllegalArgumentException") (E := "java/lang/IllegalArgumentException") hC.2.2.2.1 [⟨0, 6, 9, 16⟩] ⟨0, 6, 14, 14⟩ [] htab (fun z hz => by
        simp only [List.mem_cons, List.not_mem_nil, or_false] at hz
        subst hz
        · exact Or.inr ⟨by decide, "java/lang/IllegalStateException", tA hC.2.2.2.2 a_147, hNX.1 ("java/lang/IllegalArgumentException", "java/lang/IllegalStateException") (by decide)⟩
        ) (by decide) (by decide) (tA hC.2.2.2.2 a_392) (va_Nw.use rfl (hNX.2 _ (by decide))) hce hcv hcl ?_
      refine lv_astore_n (lv' := [(3, .ref q9), (0, .ref x0), (1, .int x1)]) hx hb dL_conflictRow_14 rfl hl (by decide) rfl (fun ls hl => ?_)
      refine lv_sipush (v := (-7200)) hx hb dL_conflictRow_15 (by decide) ?_
      exact CtW_ri hx hb hr hlk hX1 hS (Nat.le_of_ble_eq_true rfl) (Nat.le_of_ble_eq_true rfl) dL_conflictRow_18
def k_conflictRow (x1 : Int32) (C : Cs) : Option (Int32 × Cs) :=
  (d10_conflictRow C.2.1 C.2.2.1 C.2.2.2 x1 C.1).bind fun q => gd (q.1 = 0 ∨ q.1 = 2 ∨ q.1 = 1) <| some (ex q.1 q.2.1, (q.2.2, C.2))
theorem v_conflictRow {l : Launch} {D : va_G} {cA : Nat → ClassId} {A : Nat → Prop} {x0 : Nat} (hfl : l.stackTraces = false) {x1 : Int32} {C C' : Cs} {z : Int32} (hf : k_conflictRow x1 C = some (z, C')) : CtW l D cA A yL_conflictRow cL_conflictRow 4 [(0, 6, 9, 16), (0, 6, 14, 14)] 20 20 200 [.ref x0, .int x1] (fun H => CX D cA A x0 C H ∧ (∀ q : Nat, H.size ≤ q → A q)) z (CX D cA A x0 C') := by
  unfold k_conflictRow at hf
  obtain ⟨q, hq, hf⟩ := Option.bind_eq_some_iff.mp hf
  obtain ⟨hk, hf⟩ := gd_e hf
  cases hf
  obtain ⟨S, G, nt, nv⟩ := C
  obtain ⟨e0, r, S'⟩ := q
  exact w_conflictRow hfl hq hk
theorem qw_conflictRow : VWw yL_conflictRow cL_conflictRow 4 [(0, 6, 9, 16), (0, 6, 14, 14)] 2 := ⟨a_391, a_15, a_390, by decide +kernel⟩

set_option maxRecDepth 100000 in
set_option maxHeartbeats 4000000 in
theorem w_changes {l : Launch} {D : va_G} {cA : Nat → ClassId} {A : Nat → Prop} {G : Gt} {nt nv x0 : Nat} (hfl : l.stackTraces = false) {S : St} {e0 : Nat} {r : Int32} {S' : St} (hf : d10_changes G nt nv S = some (e0, r, S')) (hk : e0 = 0 ∨ e0 = 2) :
    CtW l D cA A yL_changes cL_changes 3 [(0, 5, 8, 16)] 20 20 200 [.ref x0] (fun H => AX D cA A x0 S G nt nv H ∧ (∀ q : Nat, H.size ≤ q → A q)) (ex e0 r) (AX D cA A x0 S' G nt nv) := by
  refine CtW_of (by decide +kernel) (Nat.le_of_ble_eq_true rfl) ?_
  intro p e s m args below meth c ls hC hr hlk htab hX hKX hTX hNX hl
  obtain ⟨hAX, hAs⟩ := hX
  have hrec := AX.rec hKX.1 hAX
  obtain ⟨ad, L, hX, hG, hE, hx0⟩ := hAX
  have hx := hC.1
  have hb := hC.2.1
  have hS : va_S A s.heap s.heap [] := va_S.rf
  have hl : lv_has ls 3 [(0, .ref x0)] := hl
  refine lv_aload_n hx hb dL_changes_0 rfl (lv_at hl 0 rfl) ?_
  rw [← hx0] at hrec
  refine W.eq (g2 := F0 m 1 ls [.ref (ad (5, 0))]) (by rw [hx0]) ?_
  refine Ct_VX (X := fun H => DX D cA A ad L G S H ∧ ∀ q : Nat, H.size ≤ q → A q) (X' := AX D cA A x0 S' G nt nv) (As := []) (rest := []) hC (CtX.to (c_d10_changes hfl hG hf) (fun H q => q.1) (fun H q => AX_of q hG hE hx0)) q_d10_changes a_416 (Nat.le_of_ble_eq_true rfl) hrec ⟨hX, hAs⟩ hKX hTX hS (fun q z => z) rfl hl.1 (Nat.le_of_ble_eq_true rfl) dL_changes_1 ⟨Nat.le_of_ble_eq_true rfl, Nat.le_of_ble_eq_true rfl⟩ (fun he H locs hX1 hz1 hk1 hS => ?_) (fun he q9 ce H locs hX1 hz1 hk1 hS hce hcv hcl => ?_)
  · subst he
    refine lv_istore_n (lv' := [(1, .int r), (0, .ref x0)]) hx hb dL_changes_4 rfl hl (by decide) rfl (fun ls hl => ?_)
    refine lv_goto (tgt := 13) hx hb dL_changes_5 (by decide) ?_
    refine lv_iload_n hx hb dL_changes_13 rfl (lv_at hl 0 rfl) ?_
    exact CtW_ri hx hb hr hlk hX1 hS (Nat.le_of_ble_eq_true rfl) (Nat.le_of_ble_eq_true rfl) dL_changes_14
  · rcases hk with h | h
    · exact absurd h he
    · subst h
      refine vx_catch (own := "LensbenchLaw") (name := "java/lang/IllegalStateException") (E := "java/lang/IllegalStateException") hC.2.2.2.1 [] ⟨0, 5, 8, 16⟩ [] htab (fun z hz => by cases hz) (by decide) (by decide) (tA hC.2.2.2.2 a_147) (va_Nw.use rfl (hNX.2 _ (by decide))) hce hcv hcl ?_
      refine lv_astore_n (lv' := [(2, .ref q9), (0, .ref x0)]) hx hb dL_changes_8 rfl hl (by decide) rfl (fun ls hl => ?_)
      refine lv_sipush (v := (-7300)) hx hb dL_changes_9 (by decide) ?_
      exact CtW_ri hx hb hr hlk hX1 hS (Nat.le_of_ble_eq_true rfl) (Nat.le_of_ble_eq_true rfl) dL_changes_12
def k_changes (C : Cs) : Option (Int32 × Cs) :=
  (d10_changes C.2.1 C.2.2.1 C.2.2.2 C.1).bind fun q => gd (q.1 = 0 ∨ q.1 = 2) <| some (ex q.1 q.2.1, (q.2.2, C.2))
theorem v_changes {l : Launch} {D : va_G} {cA : Nat → ClassId} {A : Nat → Prop} {x0 : Nat} (hfl : l.stackTraces = false) {C C' : Cs} {z : Int32} (hf : k_changes C = some (z, C')) : CtW l D cA A yL_changes cL_changes 3 [(0, 5, 8, 16)] 20 20 200 [.ref x0] (fun H => CX D cA A x0 C H ∧ (∀ q : Nat, H.size ≤ q → A q)) z (CX D cA A x0 C') := by
  unfold k_changes at hf
  obtain ⟨q, hq, hf⟩ := Option.bind_eq_some_iff.mp hf
  obtain ⟨hk, hf⟩ := gd_e hf
  cases hf
  obtain ⟨S, G, nt, nv⟩ := C
  obtain ⟨e0, r, S'⟩ := q
  exact w_changes hfl hq hk
theorem qw_changes : VWw yL_changes cL_changes 3 [(0, 5, 8, 16)] 1 := ⟨a_415, a_15, a_414, by decide +kernel⟩

set_option maxRecDepth 100000 in
set_option maxHeartbeats 4000000 in
theorem w_fewest {l : Launch} {D : va_G} {cA : Nat → ClassId} {A : Nat → Prop} {G : Gt} {nt nv x0 : Nat} (hfl : l.stackTraces = false) {S : St} {e0 : Nat} {r : Int32} {S' : St} (hf : d10_fewest G nt nv S = some (e0, r, S')) (hk : e0 = 0 ∨ e0 = 2) :
    CtW l D cA A yL_fewest cL_fewest 3 [(0, 5, 8, 16)] 7 20 200 [.ref x0] (fun H => AX D cA A x0 S G nt nv H ∧ (∀ q : Nat, H.size ≤ q → A q)) (ex e0 r) (AX D cA A x0 S' G nt nv) := by
  refine CtW_of (by decide +kernel) (Nat.le_of_ble_eq_true rfl) ?_
  intro p e s m args below meth c ls hC hr hlk htab hX hKX hTX hNX hl
  obtain ⟨hAX, hAs⟩ := hX
  have hrec := AX.rec hKX.1 hAX
  obtain ⟨ad, L, hX, hG, hE, hx0⟩ := hAX
  have hx := hC.1
  have hb := hC.2.1
  have hS : va_S A s.heap s.heap [] := va_S.rf
  have hl : lv_has ls 3 [(0, .ref x0)] := hl
  refine lv_aload_n hx hb dL_fewest_0 rfl (lv_at hl 0 rfl) ?_
  rw [← hx0] at hrec
  refine W.eq (g2 := F0 m 1 ls [.ref (ad (5, 0))]) (by rw [hx0]) ?_
  refine Ct_VX (X := fun H => DX D cA A ad L G S H ∧ ∀ q : Nat, H.size ≤ q → A q) (X' := AX D cA A x0 S' G nt nv) (As := []) (rest := []) hC (CtX.to (c_d10_fewest hfl hG hf) (fun H q => q.1) (fun H q => AX_of q hG hE hx0)) q_d10_fewest a_431 (Nat.le_of_ble_eq_true rfl) hrec ⟨hX, hAs⟩ hKX hTX hS (fun q z => z) rfl hl.1 (Nat.le_of_ble_eq_true rfl) dL_fewest_1 ⟨Nat.le_of_ble_eq_true rfl, Nat.le_of_ble_eq_true rfl⟩ (fun he H locs hX1 hz1 hk1 hS => ?_) (fun he q9 ce H locs hX1 hz1 hk1 hS hce hcv hcl => ?_)
  · subst he
    refine lv_istore_n (lv' := [(1, .int r), (0, .ref x0)]) hx hb dL_fewest_4 rfl hl (by decide) rfl (fun ls hl => ?_)
    refine lv_goto (tgt := 13) hx hb dL_fewest_5 (by decide) ?_
    refine lv_iload_n hx hb dL_fewest_13 rfl (lv_at hl 0 rfl) ?_
    exact CtW_ri hx hb hr hlk hX1 hS (Nat.le_of_ble_eq_true rfl) (Nat.le_of_ble_eq_true rfl) dL_fewest_14
  · rcases hk with h | h
    · exact absurd h he
    · subst h
      refine vx_catch (own := "LensbenchLaw") (name := "java/lang/IllegalStateException") (E := "java/lang/IllegalStateException") hC.2.2.2.1 [] ⟨0, 5, 8, 16⟩ [] htab (fun z hz => by cases hz) (by decide) (by decide) (tA hC.2.2.2.2 a_147) (va_Nw.use rfl (hNX.2 _ (by decide))) hce hcv hcl ?_
      refine lv_astore_n (lv' := [(2, .ref q9), (0, .ref x0)]) hx hb dL_fewest_8 rfl hl (by decide) rfl (fun ls hl => ?_)
      refine lv_sipush (v := (-7300)) hx hb dL_fewest_9 (by decide) ?_
      exact CtW_ri hx hb hr hlk hX1 hS (Nat.le_of_ble_eq_true rfl) (Nat.le_of_ble_eq_true rfl) dL_fewest_12
def k_fewest (C : Cs) : Option (Int32 × Cs) :=
  (d10_fewest C.2.1 C.2.2.1 C.2.2.2 C.1).bind fun q => gd (q.1 = 0 ∨ q.1 = 2) <| some (ex q.1 q.2.1, (q.2.2, C.2))
theorem v_fewest {l : Launch} {D : va_G} {cA : Nat → ClassId} {A : Nat → Prop} {x0 : Nat} (hfl : l.stackTraces = false) {C C' : Cs} {z : Int32} (hf : k_fewest C = some (z, C')) : CtW l D cA A yL_fewest cL_fewest 3 [(0, 5, 8, 16)] 7 20 200 [.ref x0] (fun H => CX D cA A x0 C H ∧ (∀ q : Nat, H.size ≤ q → A q)) z (CX D cA A x0 C') := by
  unfold k_fewest at hf
  obtain ⟨q, hq, hf⟩ := Option.bind_eq_some_iff.mp hf
  obtain ⟨hk, hf⟩ := gd_e hf
  cases hf
  obtain ⟨S, G, nt, nv⟩ := C
  obtain ⟨e0, r, S'⟩ := q
  exact w_fewest hfl hq hk
theorem qw_fewest : VWw yL_fewest cL_fewest 3 [(0, 5, 8, 16)] 1 := ⟨a_430, a_15, a_429, by decide +kernel⟩

set_option maxRecDepth 100000 in
set_option maxHeartbeats 4000000 in
theorem w_putBack {l : Launch} {D : va_G} {cA : Nat → ClassId} {A : Nat → Prop} {G : Gt} {nt nv x0 : Nat} (hfl : l.stackTraces = false) {S : St} {e0 : Nat} {r : Int32} {S' : St} (hf : d10_putBack G nt nv S = some (e0, r, S')) (hk : e0 = 0 ∨ e0 = 2) :
    CtW l D cA A yL_putBack cL_putBack 3 [(0, 5, 8, 16)] 20 20 200 [.ref x0] (fun H => AX D cA A x0 S G nt nv H ∧ (∀ q : Nat, H.size ≤ q → A q)) (ex e0 r) (AX D cA A x0 S' G nt nv) := by
  refine CtW_of (by decide +kernel) (Nat.le_of_ble_eq_true rfl) ?_
  intro p e s m args below meth c ls hC hr hlk htab hX hKX hTX hNX hl
  obtain ⟨hAX, hAs⟩ := hX
  have hrec := AX.rec hKX.1 hAX
  obtain ⟨ad, L, hX, hG, hE, hx0⟩ := hAX
  have hx := hC.1
  have hb := hC.2.1
  have hS : va_S A s.heap s.heap [] := va_S.rf
  have hl : lv_has ls 3 [(0, .ref x0)] := hl
  refine lv_aload_n hx hb dL_putBack_0 rfl (lv_at hl 0 rfl) ?_
  rw [← hx0] at hrec
  refine W.eq (g2 := F0 m 1 ls [.ref (ad (5, 0))]) (by rw [hx0]) ?_
  refine Ct_VX (X := fun H => DX D cA A ad L G S H ∧ ∀ q : Nat, H.size ≤ q → A q) (X' := AX D cA A x0 S' G nt nv) (As := []) (rest := []) hC (CtX.to (c_d10_putBack hfl hG hf) (fun H q => q.1) (fun H q => AX_of q hG hE hx0)) q_d10_putBack a_962 (Nat.le_of_ble_eq_true rfl) hrec ⟨hX, hAs⟩ hKX hTX hS (fun q z => z) rfl hl.1 (Nat.le_of_ble_eq_true rfl) dL_putBack_1 ⟨Nat.le_of_ble_eq_true rfl, Nat.le_of_ble_eq_true rfl⟩ (fun he H locs hX1 hz1 hk1 hS => ?_) (fun he q9 ce H locs hX1 hz1 hk1 hS hce hcv hcl => ?_)
  · subst he
    refine lv_istore_n (lv' := [(1, .int r), (0, .ref x0)]) hx hb dL_putBack_4 rfl hl (by decide) rfl (fun ls hl => ?_)
    refine lv_goto (tgt := 13) hx hb dL_putBack_5 (by decide) ?_
    refine lv_iload_n hx hb dL_putBack_13 rfl (lv_at hl 0 rfl) ?_
    exact CtW_ri hx hb hr hlk hX1 hS (Nat.le_of_ble_eq_true rfl) (Nat.le_of_ble_eq_true rfl) dL_putBack_14
  · rcases hk with h | h
    · exact absurd h he
    · subst h
      refine vx_catch (own := "LensbenchLaw") (name := "java/lang/IllegalStateException") (E := "java/lang/IllegalStateException") hC.2.2.2.1 [] ⟨0, 5, 8, 16⟩ [] htab (fun z hz => by cases hz) (by decide) (by decide) (tA hC.2.2.2.2 a_147) (va_Nw.use rfl (hNX.2 _ (by decide))) hce hcv hcl ?_
      refine lv_astore_n (lv' := [(2, .ref q9), (0, .ref x0)]) hx hb dL_putBack_8 rfl hl (by decide) rfl (fun ls hl => ?_)
      refine lv_sipush (v := (-7300)) hx hb dL_putBack_9 (by decide) ?_
      exact CtW_ri hx hb hr hlk hX1 hS (Nat.le_of_ble_eq_true rfl) (Nat.le_of_ble_eq_true rfl) dL_putBack_12
def k_putBack (C : Cs) : Option (Int32 × Cs) :=
  (d10_putBack C.2.1 C.2.2.1 C.2.2.2 C.1).bind fun q => gd (q.1 = 0 ∨ q.1 = 2) <| some (ex q.1 q.2.1, (q.2.2, C.2))
theorem v_putBack {l : Launch} {D : va_G} {cA : Nat → ClassId} {A : Nat → Prop} {x0 : Nat} (hfl : l.stackTraces = false) {C C' : Cs} {z : Int32} (hf : k_putBack C = some (z, C')) : CtW l D cA A yL_putBack cL_putBack 3 [(0, 5, 8, 16)] 20 20 200 [.ref x0] (fun H => CX D cA A x0 C H ∧ (∀ q : Nat, H.size ≤ q → A q)) z (CX D cA A x0 C') := by
  unfold k_putBack at hf
  obtain ⟨q, hq, hf⟩ := Option.bind_eq_some_iff.mp hf
  obtain ⟨hk, hf⟩ := gd_e hf
  cases hf
  obtain ⟨S, G, nt, nv⟩ := C
  obtain ⟨e0, r, S'⟩ := q
  exact w_putBack hfl hq hk
theorem qw_putBack : VWw yL_putBack cL_putBack 3 [(0, 5, 8, 16)] 1 := ⟨a_961, a_15, a_960, by decide +kernel⟩

set_option maxRecDepth 100000 in
set_option maxHeartbeats 4000000 in
theorem w_undo {l : Launch} {D : va_G} {cA : Nat → ClassId} {A : Nat → Prop} {G : Gt} {nt nv x0 : Nat} (hfl : l.stackTraces = false) {S : St} {e0 : Nat} {r : Int32} {S' : St} (hf : d10_undo G nt nv S = some (e0, r, S')) (hk : e0 = 0 ∨ e0 = 2) :
    CtW l D cA A yL_undo cL_undo 3 [(0, 5, 8, 16)] 7 20 200 [.ref x0] (fun H => AX D cA A x0 S G nt nv H ∧ (∀ q : Nat, H.size ≤ q → A q)) (ex e0 r) (AX D cA A x0 S' G nt nv) := by
  refine CtW_of (by decide +kernel) (Nat.le_of_ble_eq_true rfl) ?_
  intro p e s m args below meth c ls hC hr hlk htab hX hKX hTX hNX hl
  obtain ⟨hAX, hAs⟩ := hX
  have hrec := AX.rec hKX.1 hAX
  obtain ⟨ad, L, hX, hG, hE, hx0⟩ := hAX
  have hx := hC.1
  have hb := hC.2.1
  have hS : va_S A s.heap s.heap [] := va_S.rf
  have hl : lv_has ls 3 [(0, .ref x0)] := hl
  refine lv_aload_n hx hb dL_undo_0 rfl (lv_at hl 0 rfl) ?_
  rw [← hx0] at hrec
  refine W.eq (g2 := F0 m 1 ls [.ref (ad (5, 0))]) (by rw [hx0]) ?_
  refine Ct_VX (X := fun H => DX D cA A ad L G S H ∧ ∀ q : Nat, H.size ≤ q → A q) (X' := AX D cA A x0 S' G nt nv) (As := []) (rest := []) hC (CtX.to (c_d10_undo hfl hG hf) (fun H q => q.1) (fun H q => AX_of q hG hE hx0)) q_d10_undo a_984 (Nat.le_of_ble_eq_true rfl) hrec ⟨hX, hAs⟩ hKX hTX hS (fun q z => z) rfl hl.1 (Nat.le_of_ble_eq_true rfl) dL_undo_1 ⟨Nat.le_of_ble_eq_true rfl, Nat.le_of_ble_eq_true rfl⟩ (fun he H locs hX1 hz1 hk1 hS => ?_) (fun he q9 ce H locs hX1 hz1 hk1 hS hce hcv hcl => ?_)
  · subst he
    refine lv_istore_n (lv' := [(1, .int r), (0, .ref x0)]) hx hb dL_undo_4 rfl hl (by decide) rfl (fun ls hl => ?_)
    refine lv_goto (tgt := 13) hx hb dL_undo_5 (by decide) ?_
    refine lv_iload_n hx hb dL_undo_13 rfl (lv_at hl 0 rfl) ?_
    exact CtW_ri hx hb hr hlk hX1 hS (Nat.le_of_ble_eq_true rfl) (Nat.le_of_ble_eq_true rfl) dL_undo_14
  · rcases hk with h | h
    · exact absurd h he
    · subst h
      refine vx_catch (own := "LensbenchLaw") (name := "java/lang/IllegalStateException") (E := "java/lang/IllegalStateException") hC.2.2.2.1 [] ⟨0, 5, 8, 16⟩ [] htab (fun z hz => by cases hz) (by decide) (by decide) (tA hC.2.2.2.2 a_147) (va_Nw.use rfl (hNX.2 _ (by decide))) hce hcv hcl ?_
      refine lv_astore_n (lv' := [(2, .ref q9), (0, .ref x0)]) hx hb dL_undo_8 rfl hl (by decide) rfl (fun ls hl => ?_)
      refine lv_sipush (v := (-7300)) hx hb dL_undo_9 (by decide) ?_
      exact CtW_ri hx hb hr hlk hX1 hS (Nat.le_of_ble_eq_true rfl) (Nat.le_of_ble_eq_true rfl) dL_undo_12
def k_undo (C : Cs) : Option (Int32 × Cs) :=
  (d10_undo C.2.1 C.2.2.1 C.2.2.2 C.1).bind fun q => gd (q.1 = 0 ∨ q.1 = 2) <| some (ex q.1 q.2.1, (q.2.2, C.2))
theorem v_undo {l : Launch} {D : va_G} {cA : Nat → ClassId} {A : Nat → Prop} {x0 : Nat} (hfl : l.stackTraces = false) {C C' : Cs} {z : Int32} (hf : k_undo C = some (z, C')) : CtW l D cA A yL_undo cL_undo 3 [(0, 5, 8, 16)] 7 20 200 [.ref x0] (fun H => CX D cA A x0 C H ∧ (∀ q : Nat, H.size ≤ q → A q)) z (CX D cA A x0 C') := by
  unfold k_undo at hf
  obtain ⟨q, hq, hf⟩ := Option.bind_eq_some_iff.mp hf
  obtain ⟨hk, hf⟩ := gd_e hf
  cases hf
  obtain ⟨S, G, nt, nv⟩ := C
  obtain ⟨e0, r, S'⟩ := q
  exact w_undo hfl hq hk
theorem qw_undo : VWw yL_undo cL_undo 3 [(0, 5, 8, 16)] 1 := ⟨a_983, a_15, a_982, by decide +kernel⟩
