set_option maxRecDepth 100000 in
set_option maxHeartbeats 4000000 in
theorem w_table {l : Launch} {D : va_G} {cA : Nat → ClassId} {A : Nat → Prop} {G : Gt} {nt nv x0 o : Nat} {f : Nat → Int64} (hfl : l.stackTraces = false) (ho : ¬ A o) {x1 : Int32} {x2 : Int32} {S : St} (hSX : SX S nt nv) {e0 : Nat} {r k : Int32} {S' : St} {G' : Gt} {nt' nv' : Nat} (hf : d10_table G nt nv x1 x2 S = some (e0, r, S', G', nt', nv')) (hk : (e0 = 0 ∧ k = 0) ∨ (e0 = 1 ∧ k = 1) ∨ (e0 = 2 ∧ k = 2)) :
    CtW l D cA (fun q => A q ∨ q = o) yL_table cL_table 5 [(0, 10, 13, 13), (0, 10, 17, 15)] 7 20 200 [.ref x0, .int x1, .int x2, .ref o] (fun H => AX D cA A x0 S G nt nv H ∧ (∀ q : Nat, H.size ≤ q → A q) ∧ va_P D vwCl [(o, .inl (cA 2, 1, .inr (.inl f)))] H) k (fun H => AX D cA A x0 S' G' nt' nv' H ∧ ∃ f', (e0 = 0 → f' 0 = r.toInt64) ∧ va_P D vwCl [(o, .inl (cA 2, 1, .inr (.inl f')))] H) := by
  refine CtW_of (by decide +kernel) (Nat.le_of_ble_eq_true rfl) ?_
  intro p e s m args below meth c ls hC hr hlk htab hX hKX hTX hNX hl
  obtain ⟨hAX, hAs, hO⟩ := hX
  have hrec := AX.rec hKX.1 hAX
  obtain ⟨ad, L, hX, hG, hE, hx0⟩ := hAX
  have hx := hC.1
  have hb := hC.2.1
  have hS : va_S (fun q => A q ∨ q = o) s.heap s.heap [] := va_S.rf
  have hl : lv_has ls 5 [(0, .ref x0), (1, .int x1), (2, .int x2), (3, .ref o)] := hl
  refine lv_aload_n hx hb dL_table_0 rfl (lv_at hl 3 rfl) ?_
  refine lv_iconst (v := 0) hx hb dL_table_1 (by decide) ?_
  refine lv_aload_n hx hb dL_table_2 rfl (lv_at hl 0 rfl) ?_
  refine lv_iload_n hx hb dL_table_3 rfl (lv_at hl 1 rfl) ?_
  refine lv_iload_n hx hb dL_table_4 rfl (lv_at hl 2 rfl) ?_
  rw [← hx0] at hrec
  refine W.eq (g2 := F0 m 5 ls [.int x2, .int x1, .ref (ad (5, 0)), .int 0, .ref o]) (by rw [hx0]) ?_
  refine Ct_VX (X := fun H => DX D cA A ad L G S H ∧ ∀ q : Nat, H.size ≤ q → A q) (X' := fun H => AX D cA A x0 S' G' nt' nv' H) (As := [.int x1, .int x2]) (rest := [.int 0, .ref o]) hC (c_d10_table hfl hG hE hx0 hSX hf) q_d10_table a_175 (Nat.le_of_ble_eq_true rfl) hrec ⟨hX, hAs⟩ hKX hTX hS (fun q z => Or.inl z) rfl hl.1 (Nat.le_of_ble_eq_true rfl) dL_table_5 ⟨Nat.le_of_ble_eq_true rfl, Nat.le_of_ble_eq_true rfl⟩ (fun he H locs hX1 hz1 hk1 hS => ?_) (fun he q9 ce H locs hX1 hz1 hk1 hS hce hcv hcl => ?_)
  · have hk0 : k = 0 := by
      rcases hk with h | h | h
      · exact h.2
      · exact absurd (he.symm.trans h.1) (by decide)
      · exact absurd (he.symm.trans h.1) (by decide)
    subst hk0
    refine lv_i2l (v := r.toInt64) hx hb dL_table_8 rfl ?_
    refine ox_last hx hb hKX hX1 ho (ox_kept hO ho hk1) hS dL_table_9 (fun H locs hX1 hO1 hS => ?_)
    refine lv_goto (tgt := 21) hx hb dL_table_10 (by decide) ?_
    refine lv_iconst (v := 0) hx hb dL_table_21 (by decide) ?_
    exact CtW_ri hx hb hr hlk ⟨hX1, _, fun _ => if_pos (by decide), hO1⟩ hS (Nat.le_of_ble_eq_true rfl) (Nat.le_of_ble_eq_true rfl) dL_table_22
  · rcases hk with ⟨h, hk0⟩ | ⟨h, hk0⟩ | ⟨h, hk0⟩
    · exact absurd h he
    · subst h
      subst hk0
      refine vx_catch (own := "LensbenchLaw") (name := "java/lang/IllegalArgumentException") (E := "java/lang/IllegalArgumentException") hC.2.2.2.1 [] ⟨0, 10, 13, 13⟩ [⟨0, 10, 17, 15⟩] htab (fun z hz => by cases hz) (by decide) (by decide) (tA hC.2.2.2.2 a_173) (va_Nw.use rfl (hNX.2 _ (by decide))) hce hcv hcl ?_
      refine lv_astore (lv' := [(4, .ref q9), (0, .ref x0), (1, .int x1), (2, .int x2), (3, .ref o)]) hx hb dL_table_13 hl (by decide) rfl (fun ls hl => ?_)
      refine lv_iconst (v := 1) hx hb dL_table_15 (by decide) ?_
      exact CtW_ri hx hb hr hlk ⟨hX1, f, fun z => absurd z he, ox_kept hO ho hk1⟩ hS (Nat.le_of_ble_eq_true rfl) (Nat.le_of_ble_eq_true rfl) dL_table_16
    · subst h
      subst hk0
      refine vx_catch (own := "LensbenchLaw") (name := "java/lang/IllegalStateException") (E := "java/lang/IllegalStateException") hC.2.2.2.1 [⟨0, 10, 13, 13⟩] ⟨0, 10, 17, 15⟩ [] htab (fun z hz => by
        simp only [List.mem_cons, List.not_mem_nil, or_false] at hz
        subst hz
        · exact Or.inr ⟨by decide, "java/lang/IllegalArgumentException", tA hC.2.2.2.2 a_173, hNX.1 ("java/lang/IllegalStateException", "java/lang/IllegalArgumentException") (by decide)⟩
        ) (by decide) (by decide) (tA hC.2.2.2.2 a_174) (va_Nw.use rfl (hNX.2 _ (by decide))) hce hcv hcl ?_
      refine lv_astore (lv' := [(4, .ref q9), (0, .ref x0), (1, .int x1), (2, .int x2), (3, .ref o)]) hx hb dL_table_17 hl (by decide) rfl (fun ls hl => ?_)
      refine lv_iconst (v := 2) hx hb dL_table_19 (by decide) ?_
      exact CtW_ri hx hb hr hlk ⟨hX1, f, fun z => absurd z he, ox_kept hO ho hk1⟩ hS (Nat.le_of_ble_eq_true rfl) (Nat.le_of_ble_eq_true rfl) dL_table_20

set_option maxRecDepth 100000 in
set_option maxHeartbeats 4000000 in
theorem w_insert {l : Launch} {D : va_G} {cA : Nat → ClassId} {A : Nat → Prop} {G : Gt} {nt nv x0 o : Nat} {f : Nat → Int64} (hfl : l.stackTraces = false) (ho : ¬ A o) {x1 : Int32} {x2 : Int32} {S : St} (hSX : SX S nt nv) {e0 : Nat} {r k : Int32} {S' : St} (hf : d10_insert G nt nv x1 x2 S = some (e0, r, S')) (hk : (e0 = 0 ∧ k = 0) ∨ (e0 = 3 ∧ k = 1) ∨ (e0 = 1 ∧ k = 2) ∨ (e0 = 2 ∧ k = 3)) :
    CtW l D cA (fun q => A q ∨ q = o) yL_insert cL_insert 5 [(0, 10, 13, 20), (0, 10, 17, 13), (0, 10, 21, 15)] 7 20 200 [.ref x0, .int x1, .int x2, .ref o] (fun H => AX D cA A x0 S G nt nv H ∧ (∀ q : Nat, H.size ≤ q → A q) ∧ va_P D vwCl [(o, .inl (cA 2, 1, .inr (.inl f)))] H) k (fun H => AX D cA A x0 S' G nt nv H ∧ ∃ f', (e0 = 0 → f' 0 = r.toInt64) ∧ va_P D vwCl [(o, .inl (cA 2, 1, .inr (.inl f')))] H) := by
  refine CtW_of (by decide +kernel) (Nat.le_of_ble_eq_true rfl) ?_
  intro p e s m args below meth c ls hC hr hlk htab hX hKX hTX hNX hl
  obtain ⟨hAX, hAs, hO⟩ := hX
  have hrec := AX.rec hKX.1 hAX
  obtain ⟨ad, L, hX, hG, hE, hx0⟩ := hAX
  have hx := hC.1
  have hb := hC.2.1
  have hS : va_S (fun q => A q ∨ q = o) s.heap s.heap [] := va_S.rf
  have hl : lv_has ls 5 [(0, .ref x0), (1, .int x1), (2, .int x2), (3, .ref o)] := hl
  refine lv_aload_n hx hb dL_insert_0 rfl (lv_at hl 3 rfl) ?_
  refine lv_iconst (v := 0) hx hb dL_insert_1 (by decide) ?_
  refine lv_aload_n hx hb dL_insert_2 rfl (lv_at hl 0 rfl) ?_
  refine lv_iload_n hx hb dL_insert_3 rfl (lv_at hl 1 rfl) ?_
  refine lv_iload_n hx hb dL_insert_4 rfl (lv_at hl 2 rfl) ?_
  rw [← hx0] at hrec
  refine W.eq (g2 := F0 m 5 ls [.int x2, .int x1, .ref (ad (5, 0)), .int 0, .ref o]) (by rw [hx0]) ?_
  refine Ct_VX (X := fun H => DX D cA A ad L G S H ∧ ∀ q : Nat, H.size ≤ q → A q) (X' := fun H => AX D cA A x0 S' G nt nv H) (As := [.int x1, .int x2]) (rest := [.int 0, .ref o]) hC (CtX.to (c_d10_insert hfl hG hf) (fun H q => q.1) (fun H q => AX_of q hG hE hx0)) q_d10_insert a_303 (Nat.le_of_ble_eq_true rfl) hrec ⟨hX, hAs⟩ hKX hTX hS (fun q z => Or.inl z) rfl hl.1 (Nat.le_of_ble_eq_true rfl) dL_insert_5 ⟨Nat.le_of_ble_eq_true rfl, Nat.le_of_ble_eq_true rfl⟩ (fun he H locs hX1 hz1 hk1 hS => ?_) (fun he q9 ce H locs hX1 hz1 hk1 hS hce hcv hcl => ?_)
  · have hk0 : k = 0 := by
      rcases hk with h | h | h | h
      · exact h.2
      · exact absurd (he.symm.trans h.1) (by decide)
      · exact absurd (he.symm.trans h.1) (by decide)
      · exact absurd (he.symm.trans h.1) (by decide)
    subst hk0
    refine lv_i2l (v := r.toInt64) hx hb dL_insert_8 rfl ?_
    refine ox_last hx hb hKX hX1 ho (ox_kept hO ho hk1) hS dL_insert_9 (fun H locs hX1 hO1 hS => ?_)
    refine lv_goto (tgt := 25) hx hb dL_insert_10 (by decide) ?_
    refine lv_iconst (v := 0) hx hb dL_insert_25 (by decide) ?_
    exact CtW_ri hx hb hr hlk ⟨hX1, _, fun _ => if_pos (by decide), hO1⟩ hS (Nat.le_of_ble_eq_true rfl) (Nat.le_of_ble_eq_true rfl) dL_insert_26
  · rcases hk with ⟨h, hk0⟩ | ⟨h, hk0⟩ | ⟨h, hk0⟩ | ⟨h, hk0⟩
    · exact absurd h he
    · subst h
      subst hk0
      refine vx_catch (own := "LensbenchLaw") (name := "java/lang/IndexOutOfBoundsException") (E := "java/lang/IndexOutOfBoundsException") hC.2.2.2.1 [] ⟨0, 10, 13, 20⟩ [⟨0, 10, 17, 13⟩, ⟨0, 10, 21, 15⟩] htab (fun z hz => by cases hz) (by decide) (by decide) (tA hC.2.2.2.2 a_302) (va_Nw.use rfl (hNX.2 _ (by decide))) hce hcv hcl ?_
      refine lv_astore (lv' := [(4, .ref q9), (0, .ref x0), (1, .int x1), (2, .int x2), (3, .ref o)]) hx hb dL_insert_13 hl (by decide) rfl (fun ls hl => ?_)
      refine lv_iconst (v := 1) hx hb dL_insert_15 (by decide) ?_
      exact CtW_ri hx hb hr hlk ⟨hX1, f, fun z => absurd z he, ox_kept hO ho hk1⟩ hS (Nat.le_of_ble_eq_true rfl) (Nat.le_of_ble_eq_true rfl) dL_insert_16
    · subst h
      subst hk0
      refine vx_catch (own := "LensbenchLaw") (name := "java/lang/IllegalArgumentException") (E := "java/lang/IllegalArgumentException") hC.2.2.2.1 [⟨0, 10, 13, 20⟩] ⟨0, 10, 17, 13⟩ [⟨0, 10, 21, 15⟩] htab (fun z hz => by
        simp only [List.mem_cons, List.not_mem_nil, or_false] at hz
        subst hz
        · exact Or.inr ⟨by decide, "java/lang/IndexOutOfBoundsException", tA hC.2.2.2.2 a_302, hNX.1 ("java/lang/IllegalArgumentException", "java/lang/IndexOutOfBoundsException") (by decide)⟩
        ) (by decide) (by decide) (tA hC.2.2.2.2 a_173) (va_Nw.use rfl (hNX.2 _ (by decide))) hce hcv hcl ?_
      refine lv_astore (lv' := [(4, .ref q9), (0, .ref x0), (1, .int x1), (2, .int x2), (3, .ref o)]) hx hb dL_insert_17 hl (by decide) rfl (fun ls hl => ?_)
      refine lv_iconst (v := 2) hx hb dL_insert_19 (by decide) ?_
      exact CtW_ri hx hb hr hlk ⟨hX1, f, fun z => absurd z he, ox_kept hO ho hk1⟩ hS (Nat.le_of_ble_eq_true rfl) (Nat.le_of_ble_eq_true rfl) dL_insert_20
    · subst h
      subst hk0
      refine vx_catch (own := "LensbenchLaw") (name := "java/lang/IllegalStateException") (E := "java/lang/IllegalStateException") hC.2.2.2.1 [⟨0, 10, 13, 20⟩, ⟨0, 10, 17, 13⟩] ⟨0, 10, 21, 15⟩ [] htab (fun z hz => by
        simp only [List.mem_cons, List.not_mem_nil, or_false] at hz
        rcases hz with rfl | rfl
        · exact Or.inr ⟨by decide, "java/lang/IndexOutOfBoundsException", tA hC.2.2.2.2 a_302, hNX.1 ("java/lang/IllegalStateException", "java/lang/IndexOutOfBoundsException") (by decide)⟩
        · exact Or.inr ⟨by decide, "java/lang/IllegalArgumentException", tA hC.2.2.2.2 a_173, hNX.1 ("java/lang/IllegalStateException", "java/lang/IllegalArgumentException") (by decide)⟩
        ) (by decide) (by decide) (tA hC.2.2.2.2 a_174) (va_Nw.use rfl (hNX.2 _ (by decide))) hce hcv hcl ?_
      refine lv_astore (lv' := [(4, .ref q9), (0, .ref x0), (1, .int x1), (2, .int x2), (3, .ref o)]) hx hb dL_insert_21 hl (by decide) rfl (fun ls hl => ?_)
      refine lv_iconst (v := 3) hx hb dL_insert_23 (by decide) ?_
      exact CtW_ri hx hb hr hlk ⟨hX1, f, fun z => absurd z he, ox_kept hO ho hk1⟩ hS (Nat.le_of_ble_eq_true rfl) (Nat.le_of_ble_eq_true rfl) dL_insert_24

set_option maxRecDepth 100000 in
set_option maxHeartbeats 4000000 in
theorem w_delete {l : Launch} {D : va_G} {cA : Nat → ClassId} {A : Nat → Prop} {G : Gt} {nt nv x0 o : Nat} {f : Nat → Int64} (hfl : l.stackTraces = false) (ho : ¬ A o) {x1 : Int32} {x2 : Int32} {S : St} (hSX : SX S nt nv) {e0 : Nat} {r k : Int32} {S' : St} (hf : d10_delete G nt nv x1 x2 S = some (e0, r, S')) (hk : (e0 = 0 ∧ k = 0) ∨ (e0 = 3 ∧ k = 1) ∨ (e0 = 4 ∧ k = 2)) :
    CtW l D cA (fun q => A q ∨ q = o) yL_delete cL_delete 5 [(0, 10, 13, 20), (0, 10, 17, 25)] 7 20 200 [.ref x0, .int x1, .int x2, .ref o] (fun H => AX D cA A x0 S G nt nv H ∧ (∀ q : Nat, H.size ≤ q → A q) ∧ va_P D vwCl [(o, .inl (cA 2, 1, .inr (.inl f)))] H) k (fun H => AX D cA A x0 S' G nt nv H ∧ ∃ f', (e0 = 0 → f' 0 = r.toInt64) ∧ va_P D vwCl [(o, .inl (cA 2, 1, .inr (.inl f')))] H) := by
  refine CtW_of (by decide +kernel) (Nat.le_of_ble_eq_true rfl) ?_
  intro p e s m args below meth c ls hC hr hlk htab hX hKX hTX hNX hl
  obtain ⟨hAX, hAs, hO⟩ := hX
  have hrec := AX.rec hKX.1 hAX
  obtain ⟨ad, L, hX, hG, hE, hx0⟩ := hAX
  have hx := hC.1
  have hb := hC.2.1
  have hS : va_S (fun q => A q ∨ q = o) s.heap s.heap [] := va_S.rf
  have hl : lv_has ls 5 [(0, .ref x0), (1, .int x1), (2, .int x2), (3, .ref o)] := hl
  refine lv_aload_n hx hb dL_delete_0 rfl (lv_at hl 3 rfl) ?_
  refine lv_iconst (v := 0) hx hb dL_delete_1 (by decide) ?_
  refine lv_aload_n hx hb dL_delete_2 rfl (lv_at hl 0 rfl) ?_
  refine lv_iload_n hx hb dL_delete_3 rfl (lv_at hl 1 rfl) ?_
  refine lv_iload_n hx hb dL_delete_4 rfl (lv_at hl 2 rfl) ?_
  rw [← hx0] at hrec
  refine W.eq (g2 := F0 m 5 ls [.int x2, .int x1, .ref (ad (5, 0)), .int 0, .ref o]) (by rw [hx0]) ?_
  refine Ct_VX (X := fun H => DX D cA A ad L G S H ∧ ∀ q : Nat, H.size ≤ q → A q) (X' := fun H => AX D cA A x0 S' G nt nv H) (As := [.int x1, .int x2]) (rest := [.int 0, .ref o]) hC (CtX.to (c_d10_delete hfl hG hf) (fun H q => q.1) (fun H q => AX_of q hG hE hx0)) q_d10_delete a_421 (Nat.le_of_ble_eq_true rfl) hrec ⟨hX, hAs⟩ hKX hTX hS (fun q z => Or.inl z) rfl hl.1 (Nat.le_of_ble_eq_true rfl) dL_delete_5 ⟨Nat.le_of_ble_eq_true rfl, Nat.le_of_ble_eq_true rfl⟩ (fun he H locs hX1 hz1 hk1 hS => ?_) (fun he q9 ce H locs hX1 hz1 hk1 hS hce hcv hcl => ?_)
  · have hk0 : k = 0 := by
      rcases hk with h | h | h
      · exact h.2
      · exact absurd (he.symm.trans h.1) (by decide)
      · exact absurd (he.symm.trans h.1) (by decide)
    subst hk0
    refine lv_i2l (v := r.toInt64) hx hb dL_delete_8 rfl ?_
    refine ox_last hx hb hKX hX1 ho (ox_kept hO ho hk1) hS dL_delete_9 (fun H locs hX1 hO1 hS => ?_)
    refine lv_goto (tgt := 21) hx hb dL_delete_10 (by decide) ?_
    refine lv_iconst (v := 0) hx hb dL_delete_21 (by decide) ?_
    exact CtW_ri hx hb hr hlk ⟨hX1, _, fun _ => if_pos (by decide), hO1⟩ hS (Nat.le_of_ble_eq_true rfl) (Nat.le_of_ble_eq_true rfl) dL_delete_22
  · rcases hk with ⟨h, hk0⟩ | ⟨h, hk0⟩ | ⟨h, hk0⟩
    · exact absurd h he
    · subst h
      subst hk0
      refine vx_catch (own := "LensbenchLaw") (name := "java/lang/IndexOutOfBoundsException") (E := "java/lang/IndexOutOfBoundsException") hC.2.2.2.1 [] ⟨0, 10, 13, 20⟩ [⟨0, 10, 17, 25⟩] htab (fun z hz => by cases hz) (by decide) (by decide) (tA hC.2.2.2.2 a_302) (va_Nw.use rfl (hNX.2 _ (by decide))) hce hcv hcl ?_
      refine lv_astore (lv' := [(4, .ref q9), (0, .ref x0), (1, .int x1), (2, .int x2), (3, .ref o)]) hx hb dL_delete_13 hl (by decide) rfl (fun ls hl => ?_)
      refine lv_iconst (v := 1) hx hb dL_delete_15 (by decide) ?_
      exact CtW_ri hx hb hr hlk ⟨hX1, f, fun z => absurd z he, ox_kept hO ho hk1⟩ hS (Nat.le_of_ble_eq_true rfl) (Nat.le_of_ble_eq_true rfl) dL_delete_16
    · subst h
      subst hk0
      refine vx_catch (own := "LensbenchLaw") (name := "java/util/NoSuchElementException") (E := "java/util/NoSuchElementException") hC.2.2.2.1 [⟨0, 10, 13, 20⟩] ⟨0, 10, 17, 25⟩ [] htab (fun z hz => by
        simp only [List.mem_cons, List.not_mem_nil, or_false] at hz
        subst hz
        · exact Or.inr ⟨by decide, "java/lang/IndexOutOfBoundsException", tA hC.2.2.2.2 a_302, hNX.1 ("java/util/NoSuchElementException", "java/lang/IndexOutOfBoundsException") (by decide)⟩
        ) (by decide) (by decide) (tA hC.2.2.2.2 a_420) (va_Nw.use rfl (hNX.2 _ (by decide))) hce hcv hcl ?_
      refine lv_astore (lv' := [(4, .ref q9), (0, .ref x0), (1, .int x1), (2, .int x2), (3, .ref o)]) hx hb dL_delete_17 hl (by decide) rfl (fun ls hl => ?_)
      refine lv_iconst (v := 2) hx hb dL_delete_19 (by decide) ?_
      exact CtW_ri hx hb hr hlk ⟨hX1, f, fun z => absurd z he, ox_kept hO ho hk1⟩ hS (Nat.le_of_ble_eq_true rfl) (Nat.le_of_ble_eq_true rfl) dL_delete_20

set_option maxRecDepth 100000 in
set_option maxHeartbeats 4000000 in
theorem w_of {l : Launch} {D : va_G} {cA : Nat → ClassId} {A : Nat → Prop} {G : Gt} {nt nv x0 o : Nat} {f : Nat → Int64} (hfl : l.stackTraces = false) (ho : ¬ A o) {x1 : Int32} {S : St} (hSX : SX S nt nv) {e0 : Nat} {r k : Int32} {S' : St} {G' : Gt} {nt' nv' : Nat} (hf : d10_of G nt nv x1 S = some (e0, r, S', G', nt', nv')) (hk : (e0 = 0 ∧ k = 0) ∨ (e0 = 3 ∧ k = 1) ∨ (e0 = 2 ∧ k = 2)) :
    CtW l D cA (fun q => A q ∨ q = o) yL_of cL_of 4 [(0, 9, 12, 20), (0, 9, 15, 15)] 7 20 200 [.ref x0, .int x1, .ref o] (fun H => AX D cA A x0 S G nt nv H ∧ (∀ q : Nat, H.size ≤ q → A q) ∧ va_P D vwCl [(o, .inl (cA 2, 1, .inr (.inl f)))] H) k (fun H => AX D cA A x0 S' G' nt' nv' H ∧ ∃ f', (e0 = 0 → f' 0 = r.toInt64) ∧ va_P D vwCl [(o, .inl (cA 2, 1, .inr (.inl f')))] H) := by
  refine CtW_of (by decide +kernel) (Nat.le_of_ble_eq_true rfl) ?_
  intro p e s m args below meth c ls hC hr hlk htab hX hKX hTX hNX hl
  obtain ⟨hAX, hAs, hO⟩ := hX
  have hrec := AX.rec hKX.1 hAX
  obtain ⟨ad, L, hX, hG, hE, hx0⟩ := hAX
  have hx := hC.1
  have hb := hC.2.1
  have hS : va_S (fun q => A q ∨ q = o) s.heap s.heap [] := va_S.rf
  have hl : lv_has ls 4 [(0, .ref x0), (1, .int x1), (2, .ref o)] := hl
  refine lv_aload_n hx hb dL_of_0 rfl (lv_at hl 2 rfl) ?_
  refine lv_iconst (v := 0) hx hb dL_of_1 (by decide) ?_
  refine lv_aload_n hx hb dL_of_2 rfl (lv_at hl 0 rfl) ?_
  refine lv_iload_n hx hb dL_of_3 rfl (lv_at hl 1 rfl) ?_
  rw [← hx0] at hrec
  refine W.eq (g2 := F0 m 4 ls [.int x1, .ref (ad (5, 0)), .int 0, .ref o]) (by rw [hx0]) ?_
  refine Ct_VX (X := fun H => DX D cA A ad L G S H ∧ ∀ q : Nat, H.size ≤ q → A q) (X' := fun H => AX D cA A x0 S' G' nt' nv' H) (As := [.int x1]) (rest := [.int 0, .ref o]) hC (c_d10_of hfl hG hE hx0 hSX hf) q_d10_of a_449 (Nat.le_of_ble_eq_true rfl) hrec ⟨hX, hAs⟩ hKX hTX hS (fun q z => Or.inl z) rfl hl.1 (Nat.le_of_ble_eq_true rfl) dL_of_4 ⟨Nat.le_of_ble_eq_true rfl, Nat.le_of_ble_eq_true rfl⟩ (fun he H locs hX1 hz1 hk1 hS => ?_) (fun he q9 ce H locs hX1 hz1 hk1 hS hce hcv hcl => ?_)
  · have hk0 : k = 0 := by
      rcases hk with h | h | h
      · exact h.2
      · exact absurd (he.symm.trans h.1) (by decide)
      · exact absurd (he.symm.trans h.1) (by decide)
    subst hk0
    refine lv_i2l (v := r.toInt64) hx hb dL_of_7 rfl ?_
    refine ox_last hx hb hKX hX1 ho (ox_kept hO ho hk1) hS dL_of_8 (fun H locs hX1 hO1 hS => ?_)
    refine lv_goto (tgt := 18) hx hb dL_of_9 (by decide) ?_
    refine lv_iconst (v := 0) hx hb dL_of_18 (by decide) ?_
    exact CtW_ri hx hb hr hlk ⟨hX1, _, fun _ => if_pos (by decide), hO1⟩ hS (Nat.le_of_ble_eq_true rfl) (Nat.le_of_ble_eq_true rfl) dL_of_19
  · rcases hk with ⟨h, hk0⟩ | ⟨h, hk0⟩ | ⟨h, hk0⟩
    · exact absurd h he
    · subst h
      subst hk0
      refine vx_catch (own := "LensbenchLaw") (name := "java/lang/IndexOutOfBoundsException") (E := "java/lang/IndexOutOfBoundsException") hC.2.2.2.1 [] ⟨0, 9, 12, 20⟩ [⟨0, 9, 15, 15⟩] htab (fun z hz => by cases hz) (by decide) (by decide) (tA hC.2.2.2.2 a_302) (va_Nw.use rfl (hNX.2 _ (by decide))) hce hcv hcl ?_
      refine lv_astore_n (lv' := [(3, .ref q9), (0, .ref x0), (1, .int x1), (2, .ref o)]) hx hb dL_of_12 rfl hl (by decide) rfl (fun ls hl => ?_)
      refine lv_iconst (v := 1) hx hb dL_of_13 (by decide) ?_
      exact CtW_ri hx hb hr hlk ⟨hX1, f, fun z => absurd z he, ox_kept hO ho hk1⟩ hS (Nat.le_of_ble_eq_true rfl) (Nat.le_of_ble_eq_true rfl) dL_of_14
    · subst h
      subst hk0
      refine vx_catch (own := "LensbenchLaw") (name := "java/lang/IllegalStateException") (E := "java/lang/IllegalStateException") hC.2.2.2.1 [⟨0, 9, 12, 20⟩] ⟨0, 9, 15, 15⟩ [] htab (fun z hz => by
        simp only [List.mem_cons, List.not_mem_nil, or_false] at hz
        subst hz
        · exact Or.inr ⟨by decide, "java/lang/IndexOutOfBoundsException", tA hC.2.2.2.2 a_302, hNX.1 ("java/lang/IllegalStateException", "java/lang/IndexOutOfBoundsException") (by decide)⟩
        ) (by decide) (by decide) (tA hC.2.2.2.2 a_174) (va_Nw.use rfl (hNX.2 _ (by decide))) hce hcv hcl ?_
      refine lv_astore_n (lv' := [(3, .ref q9), (0, .ref x0), (1, .int x1), (2, .ref o)]) hx hb dL_of_15 rfl hl (by decide) rfl (fun ls hl => ?_)
      refine lv_iconst (v := 2) hx hb dL_of_16 (by decide) ?_
      exact CtW_ri hx hb hr hlk ⟨hX1, f, fun z => absurd z he, ox_kept hO ho hk1⟩ hS (Nat.le_of_ble_eq_true rfl) (Nat.le_of_ble_eq_true rfl) dL_of_17

set_option maxRecDepth 100000 in
set_option maxHeartbeats 4000000 in
theorem w_select {l : Launch} {D : va_G} {cA : Nat → ClassId} {A : Nat → Prop} {G : Gt} {nt nv x0 o : Nat} {f : Nat → Int64} (hfl : l.stackTraces = false) (ho : ¬ A o) {x1 : Int32} {x2 : Int32} {x3 : Int32} {x4 : Int32} (hz : x4 = 0 ∨ x4 = 1) {S : St} (hSX : SX S nt nv) {e0 : Nat} {r k : Int32} {S' : St} {G' : Gt} {nt' nv' : Nat} (hf : d10_select G nt nv x1 x2 x3 x4 S = some (e0, r, S', G', nt', nv')) (hk : (e0 = 0 ∧ k = 0) ∨ (e0 = 3 ∧ k = 1) ∨ (e0 = 1 ∧ k = 2) ∨ (e0 = 2 ∧ k = 3)) :
    CtW l D cA (fun q => A q ∨ q = o) yL_select cL_select 7 [(0, 14, 17, 20), (0, 14, 21, 13), (0, 14, 25, 15)] 7 20 200 [.ref x0, .int x1, .int x2, .int x3, .int x4, .ref o] (fun H => AX D cA A x0 S G nt nv H ∧ (∀ q : Nat, H.size ≤ q → A q) ∧ va_P D vwCl [(o, .inl (cA 2, 1, .inr (.inl f)))] H) k (fun H => AX D cA A x0 S' G' nt' nv' H ∧ ∃ f', (e0 = 0 → f' 0 = r.toInt64) ∧ va_P D vwCl [(o, .inl (cA 2, 1, .inr (.inl f')))] H) := by
  refine CtW_of (by decide +kernel) (Nat.le_of_ble_eq_true rfl) ?_
  intro p e s m args below meth c ls hC hr hlk htab hX hKX hTX hNX hl
  obtain ⟨hAX, hAs, hO⟩ := hX
  have hrec := AX.rec hKX.1 hAX
  obtain ⟨ad, L, hX, hG, hE, hx0⟩ := hAX
  have hx := hC.1
  have hb := hC.2.1
  have hS : va_S (fun q => A q ∨ q = o) s.heap s.heap [] := va_S.rf
  have hl : lv_has ls 7 [(0, .ref x0), (1, .int x1), (2, .int x2), (3, .int x3), (4, .int x4), (5, .ref o)] := hl
  refine lv_aload hx hb dL_select_0 (lv_at hl 5 rfl) ?_
  refine lv_iconst (v := 0) hx hb dL_select_2 (by decide) ?_
  refine lv_aload_n hx hb dL_select_3 rfl (lv_at hl 0 rfl) ?_
  refine lv_iload_n hx hb dL_select_4 rfl (lv_at hl 1 rfl) ?_
  refine lv_iload_n hx hb dL_select_5 rfl (lv_at hl 2 rfl) ?_
  refine lv_iload_n hx hb dL_select_6 rfl (lv_at hl 3 rfl) ?_
  refine lv_iload hx hb dL_select_7 (lv_at hl 4 rfl) ?_
  rw [← hx0] at hrec
  refine W.eq (g2 := F0 m 9 ls [.int x4, .int x3, .int x2, .int x1, .ref (ad (5, 0)), .int 0, .ref o]) (by rw [hx0]) ?_
  refine Ct_VX (X := fun H => DX D cA A ad L G S H ∧ ∀ q : Nat, H.size ≤ q → A q) (X' := fun H => AX D cA A x0 S' G' nt' nv' H) (As := [.int x1, .int x2, .int x3, .int x4]) (rest := [.int 0, .ref o]) hC (c_d10_select hfl hG hE hx0 hz hSX hf) q_d10_select a_551 (Nat.le_of_ble_eq_true rfl) hrec ⟨hX, hAs⟩ hKX hTX hS (fun q z => Or.inl z) rfl hl.1 (Nat.le_of_ble_eq_true rfl) dL_select_9 ⟨Nat.le_of_ble_eq_true rfl, Nat.le_of_ble_eq_true rfl⟩ (fun he H locs hX1 hz1 hk1 hS => ?_) (fun he q9 ce H locs hX1 hz1 hk1 hS hce hcv hcl => ?_)
  · have hk0 : k = 0 := by
      rcases hk with h | h | h | h
      · exact h.2
      · exact absurd (he.symm.trans h.1) (by decide)
      · exact absurd (he.symm.trans h.1) (by decide)
      · exact absurd (he.symm.trans h.1) (by decide)
    subst hk0
    refine lv_i2l (v := r.toInt64) hx hb dL_select_12 rfl ?_
    refine ox_last hx hb hKX hX1 ho (ox_kept hO ho hk1) hS dL_select_13 (fun H locs hX1 hO1 hS => ?_)
    refine lv_goto (tgt := 29) hx hb dL_select_14 (by decide) ?_
    refine lv_iconst (v := 0) hx hb dL_select_29 (by decide) ?_
    exact CtW_ri hx hb hr hlk ⟨hX1, _, fun _ => if_pos (by decide), hO1⟩ hS (Nat.le_of_ble_eq_true rfl) (Nat.le_of_ble_eq_true rfl) dL_select_30
  · rcases hk with ⟨h, hk0⟩ | ⟨h, hk0⟩ | ⟨h, hk0⟩ | ⟨h, hk0⟩
    · exact absurd h he
    · subst h
      subst hk0
      refine vx_catch (own := "LensbenchLaw") (name := "java/lang/IndexOutOfBoundsException") (E := "java/lang/IndexOutOfBoundsException") hC.2.2.2.1 [] ⟨0, 14, 17, 20⟩ [⟨0, 14, 21, 13⟩, ⟨0, 14, 25, 15⟩] htab (fun z hz => by cases hz) (by decide) (by decide) (tA hC.2.2.2.2 a_302) (va_Nw.use rfl (hNX.2 _ (by decide))) hce hcv hcl ?_
      refine lv_astore (lv' := [(6, .ref q9), (0, .ref x0), (1, .int x1), (2, .int x2), (3, .int x3), (4, .int x4), (5, .ref o)]) hx hb dL_select_17 hl (by decide) rfl (fun ls hl => ?_)
      refine lv_iconst (v := 1) hx hb dL_select_19 (by decide) ?_
      exact CtW_ri hx hb hr hlk ⟨hX1, f, fun z => absurd z he, ox_kept hO ho hk1⟩ hS (Nat.le_of_ble_eq_true rfl) (Nat.le_of_ble_eq_true rfl) dL_select_20
    · subst h
      subst hk0
      refine vx_catch (own := "LensbenchLaw") (name := "java/lang/IllegalArgumentException") (E := "java/lang/IllegalArgumentException") hC.2.2.2.1 [⟨0, 14, 17, 20⟩] ⟨0, 14, 21, 13⟩ [⟨0, 14, 25, 15⟩] htab (fun z hz => by
        simp only [List.mem_cons, List.not_mem_nil, or_false] at hz
        subst hz
        · exact Or.inr ⟨by decide, "java/lang/IndexOutOfBoundsException", tA hC.2.2.2.2 a_302, hNX.1 ("java/lang/IllegalArgumentException", "java/lang/IndexOutOfBoundsException") (by decide)⟩
        ) (by decide) (by decide) (tA hC.2.2.2.2 a_173) (va_Nw.use rfl (hNX.2 _ (by decide))) hce hcv hcl ?_
      refine lv_astore (lv' := [(6, .ref q9), (0, .ref x0), (1, .int x1), (2, .int x2), (3, .int x3), (4, .int x4), (5, .ref o)]) hx hb dL_select_21 hl (by decide) rfl (fun ls hl => ?_)
      refine lv_iconst (v := 2) hx hb dL_select_23 (by decide) ?_
      exact CtW_ri hx hb hr hlk ⟨hX1, f, fun z => absurd z he, ox_kept hO ho hk1⟩ hS (Nat.le_of_ble_eq_true rfl) (Nat.le_of_ble_eq_true rfl) dL_select_24
    · subst h
      subst hk0
      refine vx_catch (own := "LensbenchLaw") (name := "java/lang/IllegalStateException") (E := "java/lang/IllegalStateException") hC.2.2.2.1 [⟨0, 14, 17, 20⟩, ⟨0, 14, 21, 13⟩] ⟨0, 14, 25, 15⟩ [] htab (fun z hz => by
        simp only [List.mem_cons, List.not_mem_nil, or_false] at hz
        rcases hz with rfl | rfl
        · exact Or.inr ⟨by decide, "java/lang/IndexOutOfBoundsException", tA hC.2.2.2.2 a_302, hNX.1 ("java/lang/IllegalStateException", "java/lang/IndexOutOfBoundsException") (by decide)⟩
        · exact Or.inr ⟨by decide, "java/lang/IllegalArgumentException", tA hC.2.2.2.2 a_173, hNX.1 ("java/lang/IllegalStateException", "java/lang/IllegalArgumentException") (by decide)⟩
        ) (by decide) (by decide) (tA hC.2.2.2.2 a_174) (va_Nw.use rfl (hNX.2 _ (by decide))) hce hcv hcl ?_
      refine lv_astore (lv' := [(6, .ref q9), (0, .ref x0), (1, .int x1), (2, .int x2), (3, .int x3), (4, .int x4), (5, .ref o)]) hx hb dL_select_25 hl (by decide) rfl (fun ls hl => ?_)
      refine lv_iconst (v := 3) hx hb dL_select_27 (by decide) ?_
      exact CtW_ri hx hb hr hlk ⟨hX1, f, fun z => absurd z he, ox_kept hO ho hk1⟩ hS (Nat.le_of_ble_eq_true rfl) (Nat.le_of_ble_eq_true rfl) dL_select_28

set_option maxRecDepth 100000 in
set_option maxHeartbeats 4000000 in
theorem w_drop {l : Launch} {D : va_G} {cA : Nat → ClassId} {A : Nat → Prop} {G : Gt} {nt nv x0 o : Nat} {f : Nat → Int64} (hfl : l.stackTraces = false) (ho : ¬ A o) {x1 : Int32} {x2 : Int32} {x3 : Int32} {S : St} (hSX : SX S nt nv) {e0 : Nat} {r k : Int32} {S' : St} {G' : Gt} {nt' nv' : Nat} (hf : d10_drop G nt nv x1 x2 x3 S = some (e0, r, S', G', nt', nv')) (hk : (e0 = 0 ∧ k = 0) ∨ (e0 = 3 ∧ k = 1) ∨ (e0 = 1 ∧ k = 2) ∨ (e0 = 2 ∧ k = 3)) :
    CtW l D cA (fun q => A q ∨ q = o) yL_drop cL_drop 6 [(0, 12, 15, 20), (0, 12, 19, 13), (0, 12, 23, 15)] 7 20 200 [.ref x0, .int x1, .int x2, .int x3, .ref o] (fun H => AX D cA A x0 S G nt nv H ∧ (∀ q : Nat, H.size ≤ q → A q) ∧ va_P D vwCl [(o, .inl (cA 2, 1, .inr (.inl f)))] H) k (fun H => AX D cA A x0 S' G' nt' nv' H ∧ ∃ f', (e0 = 0 → f' 0 = r.toInt64) ∧ va_P D vwCl [(o, .inl (cA 2, 1, .inr (.inl f')))] H) := by
  refine CtW_of (by decide +kernel) (Nat.le_of_ble_eq_true rfl) ?_
  intro p e s m args below meth c ls hC hr hlk htab hX hKX hTX hNX hl
  obtain ⟨hAX, hAs, hO⟩ := hX
  have hrec := AX.rec hKX.1 hAX
  obtain ⟨ad, L, hX, hG, hE, hx0⟩ := hAX
  have hx := hC.1
  have hb := hC.2.1
  have hS : va_S (fun q => A q ∨ q = o) s.heap s.heap [] := va_S.rf
  have hl : lv_has ls 6 [(0, .ref x0), (1, .int x1), (2, .int x2), (3, .int x3), (4, .ref o)] := hl
  refine lv_aload hx hb dL_drop_0 (lv_at hl 4 rfl) ?_
  refine lv_iconst (v := 0) hx hb dL_drop_2 (by decide) ?_
  refine lv_aload_n hx hb dL_drop_3 rfl (lv_at hl 0 rfl) ?_
  refine lv_iload_n hx hb dL_drop_4 rfl (lv_at hl 1 rfl) ?_
  refine lv_iload_n hx hb dL_drop_5 rfl (lv_at hl 2 rfl) ?_
  refine lv_iload_n hx hb dL_drop_6 rfl (lv_at hl 3 rfl) ?_
  rw [← hx0] at hrec
  refine W.eq (g2 := F0 m 7 ls [.int x3, .int x2, .int x1, .ref (ad (5, 0)), .int 0, .ref o]) (by rw [hx0]) ?_
  refine Ct_VX (X := fun H => DX D cA A ad L G S H ∧ ∀ q : Nat, H.size ≤ q → A q) (X' := fun H => AX D cA A x0 S' G' nt' nv' H) (As := [.int x1, .int x2, .int x3]) (rest := [.int 0, .ref o]) hC (c_d10_drop hfl hG hE hx0 hSX hf) q_d10_drop a_593 (Nat.le_of_ble_eq_true rfl) hrec ⟨hX, hAs⟩ hKX hTX hS (fun q z => Or.inl z) rfl hl.1 (Nat.le_of_ble_eq_true rfl) dL_drop_7 ⟨Nat.le_of_ble_eq_true rfl, Nat.le_of_ble_eq_true rfl⟩ (fun he H locs hX1 hz1 hk1 hS => ?_) (fun he q9 ce H locs hX1 hz1 hk1 hS hce hcv hcl => ?_)
  · have hk0 : k = 0 := by
      rcases hk with h | h | h | h
      · exact h.2
      · exact absurd (he.symm.trans h.1) (by decide)
      · exact absurd (he.symm.trans h.1) (by decide)
      · exact absurd (he.symm.trans h.1) (by decide)
    subst hk0
    refine lv_i2l (v := r.toInt64) hx hb dL_drop_10 rfl ?_
    refine ox_last hx hb hKX hX1 ho (ox_kept hO ho hk1) hS dL_drop_11 (fun H locs hX1 hO1 hS => ?_)
    refine lv_goto (tgt := 27) hx hb dL_drop_12 (by decide) ?_
    refine lv_iconst (v := 0) hx hb dL_drop_27 (by decide) ?_
    exact CtW_ri hx hb hr hlk ⟨hX1, _, fun _ => if_pos (by decide), hO1⟩ hS (Nat.le_of_ble_eq_true rfl) (Nat.le_of_ble_eq_true rfl) dL_drop_28
  · rcases hk with ⟨h, hk0⟩ | ⟨h, hk0⟩ | ⟨h, hk0⟩ | ⟨h, hk0⟩
    · exact absurd h he
    · subst h
      subst hk0
      refine vx_catch (own := "LensbenchLaw") (name := "java/lang/IndexOutOfBoundsException") (E := "java/lang/IndexOutOfBoundsException") hC.2.2.2.1 [] ⟨0, 12, 15, 20⟩ [⟨0, 12, 19, 13⟩, ⟨0, 12, 23, 15⟩] htab (fun z hz => by cases hz) (by decide) (by decide) (tA hC.2.2.2.2 a_302) (va_Nw.use rfl (hNX.2 _ (by decide))) hce hcv hcl ?_
      refine lv_astore (lv' := [(5, .ref q9), (0, .ref x0), (1, .int x1), (2, .int x2), (3, .int x3), (4, .ref o)]) hx hb dL_drop_15 hl (by decide) rfl (fun ls hl => ?_)
      refine lv_iconst (v := 1) hx hb dL_drop_17 (by decide) ?_
      exact CtW_ri hx hb hr hlk ⟨hX1, f, fun z => absurd z he, ox_kept hO ho hk1⟩ hS (Nat.le_of_ble_eq_true rfl) (Nat.le_of_ble_eq_true rfl) dL_drop_18
    · subst h
      subst hk0
      refine vx_catch (own := "LensbenchLaw") (name := "java/lang/IllegalArgumentException") (E := "java/lang/IllegalArgumentException") hC.2.2.2.1 [⟨0, 12, 15, 20⟩] ⟨0, 12, 19, 13⟩ [⟨0, 12, 23, 15⟩] htab (fun z hz => by
        simp only [List.mem_cons, List.not_mem_nil, or_false] at hz
        subst hz
        · exact Or.inr ⟨by decide, "java/lang/IndexOutOfBoundsException", tA hC.2.2.2.2 a_302, hNX.1 ("java/lang/IllegalArgumentException", "java/lang/IndexOutOfBoundsException") (by decide)⟩
        ) (by decide) (by decide) (tA hC.2.2.2.2 a_173) (va_Nw.use rfl (hNX.2 _ (by decide))) hce hcv hcl ?_
      refine lv_astore (lv' := [(5, .ref q9), (0, .ref x0), (1, .int x1), (2, .int x2), (3, .int x3), (4, .ref o)]) hx hb dL_drop_19 hl (by decide) rfl (fun ls hl => ?_)
      refine lv_iconst (v := 2) hx hb dL_drop_21 (by decide) ?_
      exact CtW_ri hx hb hr hlk ⟨hX1, f, fun z => absurd z he, ox_kept hO ho hk1⟩ hS (Nat.le_of_ble_eq_true rfl) (Nat.le_of_ble_eq_true rfl) dL_drop_22
    · subst h
      subst hk0
      refine vx_catch (own := "LensbenchLaw") (name := "java/lang/IllegalStateException") (E := "java/lang/IllegalStateException") hC.2.2.2.1 [⟨0, 12, 15, 20⟩, ⟨0, 12, 19, 13⟩] ⟨0, 12, 23, 15⟩ [] htab (fun z hz => by
        simp only [List.mem_cons, List.not_mem_nil, or_false] at hz
        rcases hz with rfl | rfl
        · exact Or.inr ⟨by decide, "java/lang/IndexOutOfBoundsException", tA hC.2.2.2.2 a_302, hNX.1 ("java/lang/IllegalStateException", "java/lang/IndexOutOfBoundsException") (by decide)⟩
        · exact Or.inr ⟨by decide, "java/lang/IllegalArgumentException", tA hC.2.2.2.2 a_173, hNX.1 ("java/lang/IllegalStateException", "java/lang/IllegalArgumentException") (by decide)⟩
        ) (by decide) (by decide) (tA hC.2.2.2.2 a_174) (va_Nw.use rfl (hNX.2 _ (by decide))) hce hcv hcl ?_
      refine lv_astore (lv' := [(5, .ref q9), (0, .ref x0), (1, .int x1), (2, .int x2), (3, .int x3), (4, .ref o)]) hx hb dL_drop_23 hl (by decide) rfl (fun ls hl => ?_)
      refine lv_iconst (v := 3) hx hb dL_drop_25 (by decide) ?_
      exact CtW_ri hx hb hr hlk ⟨hX1, f, fun z => absurd z he, ox_kept hO ho hk1⟩ hS (Nat.le_of_ble_eq_true rfl) (Nat.le_of_ble_eq_true rfl) dL_drop_26

set_option maxRecDepth 100000 in
set_option maxHeartbeats 4000000 in
theorem w_join {l : Launch} {D : va_G} {cA : Nat → ClassId} {A : Nat → Prop} {G : Gt} {nt nv x0 o : Nat} {f : Nat → Int64} (hfl : l.stackTraces = false) (ho : ¬ A o) {x1 : Int32} {x2 : Int32} {S : St} (hSX : SX S nt nv) {e0 : Nat} {r k : Int32} {S' : St} {G' : Gt} {nt' nv' : Nat} (hf : d10_join G nt nv x1 x2 S = some (e0, r, S', G', nt', nv')) (hk : (e0 = 0 ∧ k = 0) ∨ (e0 = 3 ∧ k = 1) ∨ (e0 = 1 ∧ k = 2) ∨ (e0 = 2 ∧ k = 3)) :
    CtW l D cA (fun q => A q ∨ q = o) yL_join cL_join 5 [(0, 10, 13, 20), (0, 10, 17, 13), (0, 10, 21, 15)] 7 20 200 [.ref x0, .int x1, .int x2, .ref o] (fun H => AX D cA A x0 S G nt nv H ∧ (∀ q : Nat, H.size ≤ q → A q) ∧ va_P D vwCl [(o, .inl (cA 2, 1, .inr (.inl f)))] H) k (fun H => AX D cA A x0 S' G' nt' nv' H ∧ ∃ f', (e0 = 0 → f' 0 = r.toInt64) ∧ va_P D vwCl [(o, .inl (cA 2, 1, .inr (.inl f')))] H) := by
  refine CtW_of (by decide +kernel) (Nat.le_of_ble_eq_true rfl) ?_
  intro p e s m args below meth c ls hC hr hlk htab hX hKX hTX hNX hl
  obtain ⟨hAX, hAs, hO⟩ := hX
  have hrec := AX.rec hKX.1 hAX
  obtain ⟨ad, L, hX, hG, hE, hx0⟩ := hAX
  have hx := hC.1
  have hb := hC.2.1
  have hS : va_S (fun q => A q ∨ q = o) s.heap s.heap [] := va_S.rf
  have hl : lv_has ls 5 [(0, .ref x0), (1, .int x1), (2, .int x2), (3, .ref o)] := hl
  refine lv_aload_n hx hb dL_join_0 rfl (lv_at hl 3 rfl) ?_
  refine lv_iconst (v := 0) hx hb dL_join_1 (by decide) ?_
  refine lv_aload_n hx hb dL_join_2 rfl (lv_at hl 0 rfl) ?_
  refine lv_iload_n hx hb dL_join_3 rfl (lv_at hl 1 rfl) ?_
  refine lv_iload_n hx hb dL_join_4 rfl (lv_at hl 2 rfl) ?_
  rw [← hx0] at hrec
  refine W.eq (g2 := F0 m 5 ls [.int x2, .int x1, .ref (ad (5, 0)), .int 0, .ref o]) (by rw [hx0]) ?_
  refine Ct_VX (X := fun H => DX D cA A ad L G S H ∧ ∀ q : Nat, H.size ≤ q → A q) (X' := fun H => AX D cA A x0 S' G' nt' nv' H) (As := [.int x1, .int x2]) (rest := [.int 0, .ref o]) hC (c_d10_join hfl hG hE hx0 hSX hf) q_d10_join a_624 (Nat.le_of_ble_eq_true rfl) hrec ⟨hX, hAs⟩ hKX hTX hS (fun q z => Or.inl z) rfl hl.1 (Nat.le_of_ble_eq_true rfl) dL_join_5 ⟨Nat.le_of_ble_eq_true rfl, Nat.le_of_ble_eq_true rfl⟩ (fun he H locs hX1 hz1 hk1 hS => ?_) (fun he q9 ce H locs hX1 hz1 hk1 hS hce hcv hcl => ?_)
  · have hk0 : k = 0 := by
      rcases hk with h | h | h | h
      · exact h.2
      · exact absurd (he.symm.trans h.1) (by decide)
      · exact absurd (he.symm.trans h.1) (by decide)
      · exact absurd (he.symm.trans h.1) (by decide)
    subst hk0
    refine lv_i2l (v := r.toInt64) hx hb dL_join_8 rfl ?_
    refine ox_last hx hb hKX hX1 ho (ox_kept hO ho hk1) hS dL_join_9 (fun H locs hX1 hO1 hS => ?_)
    refine lv_goto (tgt := 25) hx hb dL_join_10 (by decide) ?_
    refine lv_iconst (v := 0) hx hb dL_join_25 (by decide) ?_
    exact CtW_ri hx hb hr hlk ⟨hX1, _, fun _ => if_pos (by decide), hO1⟩ hS (Nat.le_of_ble_eq_true rfl) (Nat.le_of_ble_eq_true rfl) dL_join_26
  · rcases hk with ⟨h, hk0⟩ | ⟨h, hk0⟩ | ⟨h, hk0⟩ | ⟨h, hk0⟩
    · exact absurd h he
    · subst h
      subst hk0
      refine vx_catch (own := "LensbenchLaw") (name := "java/lang/IndexOutOfBoundsException") (E := "java/lang/IndexOutOfBoundsException") hC.2.2.2.1 [] ⟨0, 10, 13, 20⟩ [⟨0, 10, 17, 13⟩, ⟨0, 10, 21, 15⟩] htab (fun z hz => by cases hz) (by decide) (by decide) (tA hC.2.2.2.2 a_302) (va_Nw.use rfl (hNX.2 _ (by decide))) hce hcv hcl ?_
      refine lv_astore (lv' := [(4, .ref q9), (0, .ref x0), (1, .int x1), (2, .int x2), (3, .ref o)]) hx hb dL_join_13 hl (by decide) rfl (fun ls hl => ?_)
      refine lv_iconst (v := 1) hx hb dL_join_15 (by decide) ?_
      exact CtW_ri hx hb hr hlk ⟨hX1, f, fun z => absurd z he, ox_kept hO ho hk1⟩ hS (Nat.le_of_ble_eq_true rfl) (Nat.le_of_ble_eq_true rfl) dL_join_16
    · subst h
      subst hk0
      refine vx_catch (own := "LensbenchLaw") (name := "java/lang/IllegalArgumentException") (E := "java/lang/IllegalArgumentException") hC.2.2.2.1 [⟨0, 10, 13, 20⟩] ⟨0, 10, 17, 13⟩ [⟨0, 10, 21, 15⟩] htab (fun z hz => by
        simp only [List.mem_cons, List.not_mem_nil, or_false] at hz
        subst hz
        · exact Or.inr ⟨by decide, "java/lang/IndexOutOfBoundsException", tA hC.2.2.2.2 a_302, hNX.1 ("java/lang/IllegalArgumentException", "java/lang/IndexOutOfBoundsException") (by decide)⟩
        ) (by decide) (by decide) (tA hC.2.2.2.2 a_173) (va_Nw.use rfl (hNX.2 _ (by decide))) hce hcv hcl ?_
      refine lv_astore (lv' := [(4, .ref q9), (0, .ref x0), (1, .int x1), (2, .int x2), (3, .ref o)]) hx hb dL_join_17 hl (by decide) rfl (fun ls hl => ?_)
      refine lv_iconst (v := 2) hx hb dL_join_19 (by decide) ?_
      exact CtW_ri hx hb hr hlk ⟨hX1, f, fun z => absurd z he, ox_kept hO ho hk1⟩ hS (Nat.le_of_ble_eq_true rfl) (Nat.le_of_ble_eq_true rfl) dL_join_20
    · subst h
      subst hk0
      refine vx_catch (own := "LensbenchLaw") (name := "java/lang/IllegalStateException") (E := "java/lang/IllegalStateException") hC.2.2.2.1 [⟨0, 10, 13, 20⟩, ⟨0, 10, 17, 13⟩] ⟨0, 10, 21, 15⟩ [] htab (fun z hz => by
        simp only [List.mem_cons, List.not_mem_nil, or_false] at hz
        rcases hz with rfl | rfl
        · exact Or.inr ⟨by decide, "java/lang/IndexOutOfBoundsException", tA hC.2.2.2.2 a_302, hNX.1 ("java/lang/IllegalStateException", "java/lang/IndexOutOfBoundsException") (by decide)⟩
        · exact Or.inr ⟨by decide, "java/lang/IllegalArgumentException", tA hC.2.2.2.2 a_173, hNX.1 ("java/lang/IllegalStateException", "java/lang/IllegalArgumentException") (by decide)⟩
        ) (by decide) (by decide) (tA hC.2.2.2.2 a_174) (va_Nw.use rfl (hNX.2 _ (by decide))) hce hcv hcl ?_
      refine lv_astore (lv' := [(4, .ref q9), (0, .ref x0), (1, .int x1), (2, .int x2), (3, .ref o)]) hx hb dL_join_21 hl (by decide) rfl (fun ls hl => ?_)
      refine lv_iconst (v := 3) hx hb dL_join_23 (by decide) ?_
      exact CtW_ri hx hb hr hlk ⟨hX1, f, fun z => absurd z he, ox_kept hO ho hk1⟩ hS (Nat.le_of_ble_eq_true rfl) (Nat.le_of_ble_eq_true rfl) dL_join_24

set_option maxRecDepth 100000 in
set_option maxHeartbeats 4000000 in
theorem w_columns {l : Launch} {D : va_G} {cA : Nat → ClassId} {A : Nat → Prop} {G : Gt} {nt nv x0 o : Nat} {f : Nat → Int64} (hfl : l.stackTraces = false) (ho : ¬ A o) {x1 : Int32} {S : St} (hSX : SX S nt nv) {e0 : Nat} {r k : Int32} {S' : St} (hf : d10_columns G nt nv x1 S = some (e0, r, S')) (hk : (e0 = 0 ∧ k = 0) ∨ (e0 = 3 ∧ k = 1)) :
    CtW l D cA (fun q => A q ∨ q = o) yL_columns cL_columns 4 [(0, 9, 12, 20)] 7 20 200 [.ref x0, .int x1, .ref o] (fun H => AX D cA A x0 S G nt nv H ∧ (∀ q : Nat, H.size ≤ q → A q) ∧ va_P D vwCl [(o, .inl (cA 2, 1, .inr (.inl f)))] H) k (fun H => AX D cA A x0 S' G nt nv H ∧ ∃ f', (e0 = 0 → f' 0 = r.toInt64) ∧ va_P D vwCl [(o, .inl (cA 2, 1, .inr (.inl f')))] H) := by
  refine CtW_of (by decide +kernel) (Nat.le_of_ble_eq_true rfl) ?_
  intro p e s m args below meth c ls hC hr hlk htab hX hKX hTX hNX hl
  obtain ⟨hAX, hAs, hO⟩ := hX
  have hrec := AX.rec hKX.1 hAX
  obtain ⟨ad, L, hX, hG, hE, hx0⟩ := hAX
  have hx := hC.1
  have hb := hC.2.1
  have hS : va_S (fun q => A q ∨ q = o) s.heap s.heap [] := va_S.rf
  have hl : lv_has ls 4 [(0, .ref x0), (1, .int x1), (2, .ref o)] := hl
  refine lv_aload_n hx hb dL_columns_0 rfl (lv_at hl 2 rfl) ?_
  refine lv_iconst (v := 0) hx hb dL_columns_1 (by decide) ?_
  refine lv_aload_n hx hb dL_columns_2 rfl (lv_at hl 0 rfl) ?_
  refine lv_iload_n hx hb dL_columns_3 rfl (lv_at hl 1 rfl) ?_
  rw [← hx0] at hrec
  refine W.eq (g2 := F0 m 4 ls [.int x1, .ref (ad (5, 0)), .int 0, .ref o]) (by rw [hx0]) ?_
  refine Ct_VX (X := fun H => DX D cA A ad L G S H ∧ ∀ q : Nat, H.size ≤ q → A q) (X' := fun H => AX D cA A x0 S' G nt nv H) (As := [.int x1]) (rest := [.int 0, .ref o]) hC (CtX.to (c_d10_columns hfl hG hf) (fun H q => q.1) (fun H q => AX_of q hG hE hx0)) q_d10_columns a_656 (Nat.le_of_ble_eq_true rfl) hrec ⟨hX, hAs⟩ hKX hTX hS (fun q z => Or.inl z) rfl hl.1 (Nat.le_of_ble_eq_true rfl) dL_columns_4 ⟨Nat.le_of_ble_eq_true rfl, Nat.le_of_ble_eq_true rfl⟩ (fun he H locs hX1 hz1 hk1 hS => ?_) (fun he q9 ce H locs hX1 hz1 hk1 hS hce hcv hcl => ?_)
  · have hk0 : k = 0 := by
      rcases hk with h | h
      · exact h.2
      · exact absurd (he.symm.trans h.1) (by decide)
    subst hk0
    refine lv_i2l (v := r.toInt64) hx hb dL_columns_7 rfl ?_
    refine ox_last hx hb hKX hX1 ho (ox_kept hO ho hk1) hS dL_columns_8 (fun H locs hX1 hO1 hS => ?_)
    refine lv_goto (tgt := 15) hx hb dL_columns_9 (by decide) ?_
    refine lv_iconst (v := 0) hx hb dL_columns_15 (by decide) ?_
    exact CtW_ri hx hb hr hlk ⟨hX1, _, fun _ => if_pos (by decide), hO1⟩ hS (Nat.le_of_ble_eq_true rfl) (Nat.le_of_ble_eq_true rfl) dL_columns_16
  · rcases hk with ⟨h, hk0⟩ | ⟨h, hk0⟩
    · exact absurd h he
    · subst h
      subst hk0
      refine vx_catch (own := "LensbenchLaw") (name := "java/lang/IndexOutOfBoundsException") (E := "java/lang/IndexOutOfBoundsException") hC.2.2.2.1 [] ⟨0, 9, 12, 20⟩ [] htab (fun z hz => by cases hz) (by decide) (by decide) (tA hC.2.2.2.2 a_302) (va_Nw.use rfl (hNX.2 _ (by decide))) hce hcv hcl ?_
      refine lv_astore_n (lv' := [(3, .ref q9), (0, .ref x0), (1, .int x1), (2, .ref o)]) hx hb dL_columns_12 rfl hl (by decide) rfl (fun ls hl => ?_)
      refine lv_iconst (v := 1) hx hb dL_columns_13 (by decide) ?_
      exact CtW_ri hx hb hr hlk ⟨hX1, f, fun z => absurd z he, ox_kept hO ho hk1⟩ hS (Nat.le_of_ble_eq_true rfl) (Nat.le_of_ble_eq_true rfl) dL_columns_14

set_option maxRecDepth 100000 in
set_option maxHeartbeats 4000000 in
theorem w_key {l : Launch} {D : va_G} {cA : Nat → ClassId} {A : Nat → Prop} {G : Gt} {nt nv x0 o : Nat} {f : Nat → Int64} (hfl : l.stackTraces = false) (ho : ¬ A o) {x1 : Int32} {S : St} (hSX : SX S nt nv) {e0 : Nat} {r k : Int32} {S' : St} (hf : d10_key G nt nv x1 S = some (e0, r, S')) (hk : (e0 = 0 ∧ k = 0) ∨ (e0 = 3 ∧ k = 1)) :
    CtW l D cA (fun q => A q ∨ q = o) yL_key cL_key 4 [(0, 9, 12, 20)] 7 20 200 [.ref x0, .int x1, .ref o] (fun H => AX D cA A x0 S G nt nv H ∧ (∀ q : Nat, H.size ≤ q → A q) ∧ va_P D vwCl [(o, .inl (cA 2, 1, .inr (.inl f)))] H) k (fun H => AX D cA A x0 S' G nt nv H ∧ ∃ f', (e0 = 0 → f' 0 = r.toInt64) ∧ va_P D vwCl [(o, .inl (cA 2, 1, .inr (.inl f')))] H) := by
  refine CtW_of (by decide +kernel) (Nat.le_of_ble_eq_true rfl) ?_
  intro p e s m args below meth c ls hC hr hlk htab hX hKX hTX hNX hl
  obtain ⟨hAX, hAs, hO⟩ := hX
  have hrec := AX.rec hKX.1 hAX
  obtain ⟨ad, L, hX, hG, hE, hx0⟩ := hAX
  have hx := hC.1
  have hb := hC.2.1
  have hS : va_S (fun q => A q ∨ q = o) s.heap s.heap [] := va_S.rf
  have hl : lv_has ls 4 [(0, .ref x0), (1, .int x1), (2, .ref o)] := hl
  refine lv_aload_n hx hb dL_key_0 rfl (lv_at hl 2 rfl) ?_
  refine lv_iconst (v := 0) hx hb dL_key_1 (by decide) ?_
  refine lv_aload_n hx hb dL_key_2 rfl (lv_at hl 0 rfl) ?_
  refine lv_iload_n hx hb dL_key_3 rfl (lv_at hl 1 rfl) ?_
  rw [← hx0] at hrec
  refine W.eq (g2 := F0 m 4 ls [.int x1, .ref (ad (5, 0)), .int 0, .ref o]) (by rw [hx0]) ?_
  refine Ct_VX (X := fun H => DX D cA A ad L G S H ∧ ∀ q : Nat, H.size ≤ q → A q) (X' := fun H => AX D cA A x0 S' G nt nv H) (As := [.int x1]) (rest := [.int 0, .ref o]) hC (CtX.to (c_d10_key hfl hG hf) (fun H q => q.1) (fun H q => AX_of q hG hE hx0)) q_d10_key a_663 (Nat.le_of_ble_eq_true rfl) hrec ⟨hX, hAs⟩ hKX hTX hS (fun q z => Or.inl z) rfl hl.1 (Nat.le_of_ble_eq_true rfl) dL_key_4 ⟨Nat.le_of_ble_eq_true rfl, Nat.le_of_ble_eq_true rfl⟩ (fun he H locs hX1 hz1 hk1 hS => ?_) (fun he q9 ce H locs hX1 hz1 hk1 hS hce hcv hcl => ?_)
  · have hk0 : k = 0 := by
      rcases hk with h | h
      · exact h.2
      · exact absurd (he.symm.trans h.1) (by decide)
    subst hk0
    refine lv_i2l (v := r.toInt64) hx hb dL_key_7 rfl ?_
    refine ox_last hx hb hKX hX1 ho (ox_kept hO ho hk1) hS dL_key_8 (fun H locs hX1 hO1 hS => ?_)
    refine lv_goto (tgt := 15) hx hb dL_key_9 (by decide) ?_
    refine lv_iconst (v := 0) hx hb dL_key_15 (by decide) ?_
    exact CtW_ri hx hb hr hlk ⟨hX1, _, fun _ => if_pos (by decide), hO1⟩ hS (Nat.le_of_ble_eq_true rfl) (Nat.le_of_ble_eq_true rfl) dL_key_16
  · rcases hk with ⟨h, hk0⟩ | ⟨h, hk0⟩
    · exact absurd h he
    · subst h
      subst hk0
      refine vx_catch (own := "LensbenchLaw") (name := "java/lang/IndexOutOfBoundsException") (E := "java/lang/IndexOutOfBoundsException") hC.2.2.2.1 [] ⟨0, 9, 12, 20⟩ [] htab (fun z hz => by cases hz) (by decide) (by decide) (tA hC.2.2.2.2 a_302) (va_Nw.use rfl (hNX.2 _ (by decide))) hce hcv hcl ?_
      refine lv_astore_n (lv' := [(3, .ref q9), (0, .ref x0), (1, .int x1), (2, .ref o)]) hx hb dL_key_12 rfl hl (by decide) rfl (fun ls hl => ?_)
      refine lv_iconst (v := 1) hx hb dL_key_13 (by decide) ?_
      exact CtW_ri hx hb hr hlk ⟨hX1, f, fun z => absurd z he, ox_kept hO ho hk1⟩ hS (Nat.le_of_ble_eq_true rfl) (Nat.le_of_ble_eq_true rfl) dL_key_14

set_option maxRecDepth 100000 in
set_option maxHeartbeats 4000000 in
theorem w_rows {l : Launch} {D : va_G} {cA : Nat → ClassId} {A : Nat → Prop} {G : Gt} {nt nv x0 o : Nat} {f : Nat → Int64} (hfl : l.stackTraces = false) (ho : ¬ A o) {x1 : Int32} {S : St} (hSX : SX S nt nv) {e0 : Nat} {r k : Int32} {S' : St} (hf : d10_rows G nt nv x1 S = some (e0, r, S')) (hk : (e0 = 0 ∧ k = 0) ∨ (e0 = 3 ∧ k = 1)) :
    CtW l D cA (fun q => A q ∨ q = o) yL_rows cL_rows 4 [(0, 9, 12, 20)] 7 20 200 [.ref x0, .int x1, .ref o] (fun H => AX D cA A x0 S G nt nv H ∧ (∀ q : Nat, H.size ≤ q → A q) ∧ va_P D vwCl [(o, .inl (cA 2, 1, .inr (.inl f)))] H) k (fun H => AX D cA A x0 S' G nt nv H ∧ ∃ f', (e0 = 0 → f' 0 = r.toInt64) ∧ va_P D vwCl [(o, .inl (cA 2, 1, .inr (.inl f')))] H) := by
  refine CtW_of (by decide +kernel) (Nat.le_of_ble_eq_true rfl) ?_
  intro p e s m args below meth c ls hC hr hlk htab hX hKX hTX hNX hl
  obtain ⟨hAX, hAs, hO⟩ := hX
  have hrec := AX.rec hKX.1 hAX
  obtain ⟨ad, L, hX, hG, hE, hx0⟩ := hAX
  have hx := hC.1
  have hb := hC.2.1
  have hS : va_S (fun q => A q ∨ q = o) s.heap s.heap [] := va_S.rf
  have hl : lv_has ls 4 [(0, .ref x0), (1, .int x1), (2, .ref o)] := hl
  refine lv_aload_n hx hb dL_rows_0 rfl (lv_at hl 2 rfl) ?_
  refine lv_iconst (v := 0) hx hb dL_rows_1 (by decide) ?_
  refine lv_aload_n hx hb dL_rows_2 rfl (lv_at hl 0 rfl) ?_
  refine lv_iload_n hx hb dL_rows_3 rfl (lv_at hl 1 rfl) ?_
  rw [← hx0] at hrec
  refine W.eq (g2 := F0 m 4 ls [.int x1, .ref (ad (5, 0)), .int 0, .ref o]) (by rw [hx0]) ?_
  refine Ct_VX (X := fun H => DX D cA A ad L G S H ∧ ∀ q : Nat, H.size ≤ q → A q) (X' := fun H => AX D cA A x0 S' G nt nv H) (As := [.int x1]) (rest := [.int 0, .ref o]) hC (CtX.to (c_d10_rows hfl hG hf) (fun H q => q.1) (fun H q => AX_of q hG hE hx0)) q_d10_rows a_670 (Nat.le_of_ble_eq_true rfl) hrec ⟨hX, hAs⟩ hKX hTX hS (fun q z => Or.inl z) rfl hl.1 (Nat.le_of_ble_eq_true rfl) dL_rows_4 ⟨Nat.le_of_ble_eq_true rfl, Nat.le_of_ble_eq_true rfl⟩ (fun he H locs hX1 hz1 hk1 hS => ?_) (fun he q9 ce H locs hX1 hz1 hk1 hS hce hcv hcl => ?_)
  · have hk0 : k = 0 := by
      rcases hk with h | h
      · exact h.2
      · exact absurd (he.symm.trans h.1) (by decide)
    subst hk0
    refine lv_i2l (v := r.toInt64) hx hb dL_rows_7 rfl ?_
    refine ox_last hx hb hKX hX1 ho (ox_kept hO ho hk1) hS dL_rows_8 (fun H locs hX1 hO1 hS => ?_)
    refine lv_goto (tgt := 15) hx hb dL_rows_9 (by decide) ?_
    refine lv_iconst (v := 0) hx hb dL_rows_15 (by decide) ?_
    exact CtW_ri hx hb hr hlk ⟨hX1, _, fun _ => if_pos (by decide), hO1⟩ hS (Nat.le_of_ble_eq_true rfl) (Nat.le_of_ble_eq_true rfl) dL_rows_16
  · rcases hk with ⟨h, hk0⟩ | ⟨h, hk0⟩
    · exact absurd h he
    · subst h
      subst hk0
      refine vx_catch (own := "LensbenchLaw") (name := "java/lang/IndexOutOfBoundsException") (E := "java/lang/IndexOutOfBoundsException") hC.2.2.2.1 [] ⟨0, 9, 12, 20⟩ [] htab (fun z hz => by cases hz) (by decide) (by decide) (tA hC.2.2.2.2 a_302) (va_Nw.use rfl (hNX.2 _ (by decide))) hce hcv hcl ?_
      refine lv_astore_n (lv' := [(3, .ref q9), (0, .ref x0), (1, .int x1), (2, .ref o)]) hx hb dL_rows_12 rfl hl (by decide) rfl (fun ls hl => ?_)
      refine lv_iconst (v := 1) hx hb dL_rows_13 (by decide) ?_
      exact CtW_ri hx hb hr hlk ⟨hX1, f, fun z => absurd z he, ox_kept hO ho hk1⟩ hS (Nat.le_of_ble_eq_true rfl) (Nat.le_of_ble_eq_true rfl) dL_rows_14

set_option maxRecDepth 100000 in
set_option maxHeartbeats 4000000 in
theorem w_row {l : Launch} {D : va_G} {cA : Nat → ClassId} {A : Nat → Prop} {G : Gt} {nt nv x0 o : Nat} {f : Nat → Int64} (hfl : l.stackTraces = false) (ho : ¬ A o) {x1 : Int32} {x2 : Int32} {S : St} (hSX : SX S nt nv) {e0 : Nat} {r k : Int32} {S' : St} (hf : d10_row G nt nv x1 x2 S = some (e0, r, S')) (hk : (e0 = 0 ∧ k = 0) ∨ (e0 = 3 ∧ k = 1)) :
    CtW l D cA (fun q => A q ∨ q = o) yL_row cL_row 5 [(0, 10, 13, 20)] 7 20 200 [.ref x0, .int x1, .int x2, .ref o] (fun H => AX D cA A x0 S G nt nv H ∧ (∀ q : Nat, H.size ≤ q → A q) ∧ va_P D vwCl [(o, .inl (cA 2, 1, .inr (.inl f)))] H) k (fun H => AX D cA A x0 S' G nt nv H ∧ ∃ f', (e0 = 0 → f' 0 = r.toInt64) ∧ va_P D vwCl [(o, .inl (cA 2, 1, .inr (.inl f')))] H) := by
  refine CtW_of (by decide +kernel) (Nat.le_of_ble_eq_true rfl) ?_
  intro p e s m args below meth c ls hC hr hlk htab hX hKX hTX hNX hl
  obtain ⟨hAX, hAs, hO⟩ := hX
  have hrec := AX.rec hKX.1 hAX
  obtain ⟨ad, L, hX, hG, hE, hx0⟩ := hAX
  have hx := hC.1
  have hb := hC.2.1
  have hS : va_S (fun q => A q ∨ q = o) s.heap s.heap [] := va_S.rf
  have hl : lv_has ls 5 [(0, .ref x0), (1, .int x1), (2, .int x2), (3, .ref o)] := hl
  refine lv_aload_n hx hb dL_row_0 rfl (lv_at hl 3 rfl) ?_
  refine lv_iconst (v := 0) hx hb dL_row_1 (by decide) ?_
  refine lv_aload_n hx hb dL_row_2 rfl (lv_at hl 0 rfl) ?_
  refine lv_iload_n hx hb dL_row_3 rfl (lv_at hl 1 rfl) ?_
  refine lv_iload_n hx hb dL_row_4 rfl (lv_at hl 2 rfl) ?_
  rw [← hx0] at hrec
  refine W.eq (g2 := F0 m 5 ls [.int x2, .int x1, .ref (ad (5, 0)), .int 0, .ref o]) (by rw [hx0]) ?_
  refine Ct_VX (X := fun H => DX D cA A ad L G S H ∧ ∀ q : Nat, H.size ≤ q → A q) (X' := fun H => AX D cA A x0 S' G nt nv H) (As := [.int x1, .int x2]) (rest := [.int 0, .ref o]) hC (CtX.to (c_d10_row hfl hG hf) (fun H q => q.1) (fun H q => AX_of q hG hE hx0)) q_d10_row a_677 (Nat.le_of_ble_eq_true rfl) hrec ⟨hX, hAs⟩ hKX hTX hS (fun q z => Or.inl z) rfl hl.1 (Nat.le_of_ble_eq_true rfl) dL_row_5 ⟨Nat.le_of_ble_eq_true rfl, Nat.le_of_ble_eq_true rfl⟩ (fun he H locs hX1 hz1 hk1 hS => ?_) (fun he q9 ce H locs hX1 hz1 hk1 hS hce hcv hcl => ?_)
  · have hk0 : k = 0 := by
      rcases hk with h | h
      · exact h.2
      · exact absurd (he.symm.trans h.1) (by decide)
    subst hk0
    refine lv_i2l (v := r.toInt64) hx hb dL_row_8 rfl ?_
    refine ox_last hx hb hKX hX1 ho (ox_kept hO ho hk1) hS dL_row_9 (fun H locs hX1 hO1 hS => ?_)
    refine lv_goto (tgt := 17) hx hb dL_row_10 (by decide) ?_
    refine lv_iconst (v := 0) hx hb dL_row_17 (by decide) ?_
    exact CtW_ri hx hb hr hlk ⟨hX1, _, fun _ => if_pos (by decide), hO1⟩ hS (Nat.le_of_ble_eq_true rfl) (Nat.le_of_ble_eq_true rfl) dL_row_18
  · rcases hk with ⟨h, hk0⟩ | ⟨h, hk0⟩
    · exact absurd h he
    · subst h
      subst hk0
      refine vx_catch (own := "LensbenchLaw") (name := "java/lang/IndexOutOfBoundsException") (E := "java/lang/IndexOutOfBoundsException") hC.2.2.2.1 [] ⟨0, 10, 13, 20⟩ [] htab (fun z hz => by cases hz) (by decide) (by decide) (tA hC.2.2.2.2 a_302) (va_Nw.use rfl (hNX.2 _ (by decide))) hce hcv hcl ?_
      refine lv_astore (lv' := [(4, .ref q9), (0, .ref x0), (1, .int x1), (2, .int x2), (3, .ref o)]) hx hb dL_row_13 hl (by decide) rfl (fun ls hl => ?_)
      refine lv_iconst (v := 1) hx hb dL_row_15 (by decide) ?_
      exact CtW_ri hx hb hr hlk ⟨hX1, f, fun z => absurd z he, ox_kept hO ho hk1⟩ hS (Nat.le_of_ble_eq_true rfl) (Nat.le_of_ble_eq_true rfl) dL_row_16

set_option maxRecDepth 100000 in
set_option maxHeartbeats 4000000 in
theorem w_open {l : Launch} {D : va_G} {cA : Nat → ClassId} {A : Nat → Prop} {G : Gt} {nt nv x0 o : Nat} {f : Nat → Int64} (hfl : l.stackTraces = false) (ho : ¬ A o) {x1 : Int32} {S : St} (hSX : SX S nt nv) {e0 : Nat} {r k : Int32} {S' : St} (hf : d10_open G nt nv x1 S = some (e0, r, S')) (hk : (e0 = 0 ∧ k = 0) ∨ (e0 = 3 ∧ k = 1)) :
    CtW l D cA (fun q => A q ∨ q = o) yL_open cL_open 4 [(0, 9, 12, 20)] 7 20 200 [.ref x0, .int x1, .ref o] (fun H => AX D cA A x0 S G nt nv H ∧ (∀ q : Nat, H.size ≤ q → A q) ∧ va_P D vwCl [(o, .inl (cA 2, 1, .inr (.inl f)))] H) k (fun H => AX D cA A x0 S' G nt nv H ∧ ∃ f', (e0 = 0 → f' 0 = r.toInt64) ∧ va_P D vwCl [(o, .inl (cA 2, 1, .inr (.inl f')))] H) := by
  refine CtW_of (by decide +kernel) (Nat.le_of_ble_eq_true rfl) ?_
  intro p e s m args below meth c ls hC hr hlk htab hX hKX hTX hNX hl
  obtain ⟨hAX, hAs, hO⟩ := hX
  have hrec := AX.rec hKX.1 hAX
  obtain ⟨ad, L, hX, hG, hE, hx0⟩ := hAX
  have hx := hC.1
  have hb := hC.2.1
  have hS : va_S (fun q => A q ∨ q = o) s.heap s.heap [] := va_S.rf
  have hl : lv_has ls 4 [(0, .ref x0), (1, .int x1), (2, .ref o)] := hl
  refine lv_aload_n hx hb dL_open_0 rfl (lv_at hl 2 rfl) ?_
  refine lv_iconst (v := 0) hx hb dL_open_1 (by decide) ?_
  refine lv_aload_n hx hb dL_open_2 rfl (lv_at hl 0 rfl) ?_
  refine lv_iload_n hx hb dL_open_3 rfl (lv_at hl 1 rfl) ?_
  rw [← hx0] at hrec
  refine W.eq (g2 := F0 m 4 ls [.int x1, .ref (ad (5, 0)), .int 0, .ref o]) (by rw [hx0]) ?_
  refine Ct_VX (X := fun H => DX D cA A ad L G S H ∧ ∀ q : Nat, H.size ≤ q → A q) (X' := fun H => AX D cA A x0 S' G nt nv H) (As := [.int x1]) (rest := [.int 0, .ref o]) hC (CtX.to (c_d10_open hfl hG hf) (fun H q => q.1) (fun H q => AX_of q hG hE hx0)) q_d10_open a_686 (Nat.le_of_ble_eq_true rfl) hrec ⟨hX, hAs⟩ hKX hTX hS (fun q z => Or.inl z) rfl hl.1 (Nat.le_of_ble_eq_true rfl) dL_open_4 ⟨Nat.le_of_ble_eq_true rfl, Nat.le_of_ble_eq_true rfl⟩ (fun he H locs hX1 hz1 hk1 hS => ?_) (fun he q9 ce H locs hX1 hz1 hk1 hS hce hcv hcl => ?_)
  · have hk0 : k = 0 := by
      rcases hk with h | h
      · exact h.2
      · exact absurd (he.symm.trans h.1) (by decide)
    subst hk0
    refine lv_i2l (v := r.toInt64) hx hb dL_open_7 rfl ?_
    refine ox_last hx hb hKX hX1 ho (ox_kept hO ho hk1) hS dL_open_8 (fun H locs hX1 hO1 hS => ?_)
    refine lv_goto (tgt := 15) hx hb dL_open_9 (by decide) ?_
    refine lv_iconst (v := 0) hx hb dL_open_15 (by decide) ?_
    exact CtW_ri hx hb hr hlk ⟨hX1, _, fun _ => if_pos (by decide), hO1⟩ hS (Nat.le_of_ble_eq_true rfl) (Nat.le_of_ble_eq_true rfl) dL_open_16
  · rcases hk with ⟨h, hk0⟩ | ⟨h, hk0⟩
    · exact absurd h he
    · subst h
      subst hk0
      refine vx_catch (own := "LensbenchLaw") (name := "java/lang/IndexOutOfBoundsException") (E := "java/lang/IndexOutOfBoundsException") hC.2.2.2.1 [] ⟨0, 9, 12, 20⟩ [] htab (fun z hz => by cases hz) (by decide) (by decide) (tA hC.2.2.2.2 a_302) (va_Nw.use rfl (hNX.2 _ (by decide))) hce hcv hcl ?_
      refine lv_astore_n (lv' := [(3, .ref q9), (0, .ref x0), (1, .int x1), (2, .ref o)]) hx hb dL_open_12 rfl hl (by decide) rfl (fun ls hl => ?_)
      refine lv_iconst (v := 1) hx hb dL_open_13 (by decide) ?_
      exact CtW_ri hx hb hr hlk ⟨hX1, f, fun z => absurd z he, ox_kept hO ho hk1⟩ hS (Nat.le_of_ble_eq_true rfl) (Nat.le_of_ble_eq_true rfl) dL_open_14

set_option maxRecDepth 100000 in
set_option maxHeartbeats 4000000 in
theorem w_add {l : Launch} {D : va_G} {cA : Nat → ClassId} {A : Nat → Prop} {G : Gt} {nt nv x0 o : Nat} {f : Nat → Int64} (hfl : l.stackTraces = false) (ho : ¬ A o) {x1 : Int32} {S : St} (hSX : SX S nt nv) {e0 : Nat} {r k : Int32} {S' : St} (hf : d10_add G nt nv x1 S = some (e0, r, S')) (hk : (e0 = 0 ∧ k = 0) ∨ (e0 = 2 ∧ k = 1) ∨ (e0 = 1 ∧ k = 2)) :
    CtW l D cA (fun q => A q ∨ q = o) yL_add cL_add 4 [(0, 9, 12, 15), (0, 9, 15, 13)] 7 20 200 [.ref x0, .int x1, .ref o] (fun H => AX D cA A x0 S G nt nv H ∧ (∀ q : Nat, H.size ≤ q → A q) ∧ va_P D vwCl [(o, .inl (cA 2, 1, .inr (.inl f)))] H) k (fun H => AX D cA A x0 S' G nt nv H ∧ ∃ f', (e0 = 0 → f' 0 = r.toInt64) ∧ va_P D vwCl [(o, .inl (cA 2, 1, .inr (.inl f')))] H) := by
  refine CtW_of (by decide +kernel) (Nat.le_of_ble_eq_true rfl) ?_
  intro p e s m args below meth c ls hC hr hlk htab hX hKX hTX hNX hl
  obtain ⟨hAX, hAs, hO⟩ := hX
  have hrec := AX.rec hKX.1 hAX
  obtain ⟨ad, L, hX, hG, hE, hx0⟩ := hAX
  have hx := hC.1
  have hb := hC.2.1
  have hS : va_S (fun q => A q ∨ q = o) s.heap s.heap [] := va_S.rf
  have hl : lv_has ls 4 [(0, .ref x0), (1, .int x1), (2, .ref o)] := hl
  refine lv_aload_n hx hb dL_add_0 rfl (lv_at hl 2 rfl) ?_
  refine lv_iconst (v := 0) hx hb dL_add_1 (by decide) ?_
  refine lv_aload_n hx hb dL_add_2 rfl (lv_at hl 0 rfl) ?_
  refine lv_iload_n hx hb dL_add_3 rfl (lv_at hl 1 rfl) ?_
  rw [← hx0] at hrec
  refine W.eq (g2 := F0 m 4 ls [.int x1, .ref (ad (5, 0)), .int 0, .ref o]) (by rw [hx0]) ?_
  refine Ct_VX (X := fun H => DX D cA A ad L G S H ∧ ∀ q : Nat, H.size ≤ q → A q) (X' := fun H => AX D cA A x0 S' G nt nv H) (As := [.int x1]) (rest := [.int 0, .ref o]) hC (CtX.to (c_d10_add hfl hG hf) (fun H q => q.1) (fun H q => AX_of q hG hE hx0)) q_d10_add a_694 (Nat.le_of_ble_eq_true rfl) hrec ⟨hX, hAs⟩ hKX hTX hS (fun q z => Or.inl z) rfl hl.1 (Nat.le_of_ble_eq_true rfl) dL_add_4 ⟨Nat.le_of_ble_eq_true rfl, Nat.le_of_ble_eq_true rfl⟩ (fun he H locs hX1 hz1 hk1 hS => ?_) (fun he q9 ce H locs hX1 hz1 hk1 hS hce hcv hcl => ?_)
  · have hk0 : k = 0 := by
      rcases hk with h | h | h
      · exact h.2
      · exact absurd (he.symm.trans h.1) (by decide)
      · exact absurd (he.symm.trans h.1) (by decide)
    subst hk0
    refine lv_i2l (v := r.toInt64) hx hb dL_add_7 rfl ?_
    refine ox_last hx hb hKX hX1 ho (ox_kept hO ho hk1) hS dL_add_8 (fun H locs hX1 hO1 hS => ?_)
    refine lv_goto (tgt := 18) hx hb dL_add_9 (by decide) ?_
    refine lv_iconst (v := 0) hx hb dL_add_18 (by decide) ?_
    exact CtW_ri hx hb hr hlk ⟨hX1, _, fun _ => if_pos (by decide), hO1⟩ hS (Nat.le_of_ble_eq_true rfl) (Nat.le_of_ble_eq_true rfl) dL_add_19
  · rcases hk with ⟨h, hk0⟩ | ⟨h, hk0⟩ | ⟨h, hk0⟩
    · exact absurd h he
    · subst h
      subst hk0
      refine vx_catch (own := "LensbenchLaw") (name := "java/lang/IllegalStateException") (E := "java/lang/IllegalStateException") hC.2.2.2.1 [] ⟨0, 9, 12, 15⟩ [⟨0, 9, 15, 13⟩] htab (fun z hz => by cases hz) (by decide) (by decide) (tA hC.2.2.2.2 a_174) (va_Nw.use rfl (hNX.2 _ (by decide))) hce hcv hcl ?_
      refine lv_astore_n (lv' := [(3, .ref q9), (0, .ref x0), (1, .int x1), (2, .ref o)]) hx hb dL_add_12 rfl hl (by decide) rfl (fun ls hl => ?_)
      refine lv_iconst (v := 1) hx hb dL_add_13 (by decide) ?_
      exact CtW_ri hx hb hr hlk ⟨hX1, f, fun z => absurd z he, ox_kept hO ho hk1⟩ hS (Nat.le_of_ble_eq_true rfl) (Nat.le_of_ble_eq_true rfl) dL_add_14
    · subst h
      subst hk0
      refine vx_catch (own := "LensbenchLaw") (name := "java/lang/IllegalArgumentException") (E := "java/lang/IllegalArgumentException") hC.2.2.2.1 [⟨0, 9, 12, 15⟩] ⟨0, 9, 15, 13⟩ [] htab (fun z hz => by
        simp only [List.mem_cons, List.not_mem_nil, or_false] at hz
        subst hz
        · exact Or.inr ⟨by decide, "java/lang/IllegalStateException", tA hC.2.2.2.2 a_174, hNX.1 ("java/lang/IllegalArgumentException", "java/lang/IllegalStateException") (by decide)⟩
        ) (by decide) (by decide) (tA hC.2.2.2.2 a_173) (va_Nw.use rfl (hNX.2 _ (by decide))) hce hcv hcl ?_
      refine lv_astore_n (lv' := [(3, .ref q9), (0, .ref x0), (1, .int x1), (2, .ref o)]) hx hb dL_add_15 rfl hl (by decide) rfl (fun ls hl => ?_)
      refine lv_iconst (v := 2) hx hb dL_add_16 (by decide) ?_
      exact CtW_ri hx hb hr hlk ⟨hX1, f, fun z => absurd z he, ox_kept hO ho hk1⟩ hS (Nat.le_of_ble_eq_true rfl) (Nat.le_of_ble_eq_true rfl) dL_add_17

set_option maxRecDepth 100000 in
set_option maxHeartbeats 4000000 in
theorem w_takeOut {l : Launch} {D : va_G} {cA : Nat → ClassId} {A : Nat → Prop} {G : Gt} {nt nv x0 o : Nat} {f : Nat → Int64} (hfl : l.stackTraces = false) (ho : ¬ A o) {x1 : Int32} {S : St} (hSX : SX S nt nv) {e0 : Nat} {r k : Int32} {S' : St} (hf : d10_takeOut G nt nv x1 S = some (e0, r, S')) (hk : (e0 = 0 ∧ k = 0) ∨ (e0 = 2 ∧ k = 1) ∨ (e0 = 4 ∧ k = 2)) :
    CtW l D cA (fun q => A q ∨ q = o) yL_takeOut cL_takeOut 4 [(0, 9, 12, 15), (0, 9, 15, 25)] 7 20 200 [.ref x0, .int x1, .ref o] (fun H => AX D cA A x0 S G nt nv H ∧ (∀ q : Nat, H.size ≤ q → A q) ∧ va_P D vwCl [(o, .inl (cA 2, 1, .inr (.inl f)))] H) k (fun H => AX D cA A x0 S' G nt nv H ∧ ∃ f', (e0 = 0 → f' 0 = r.toInt64) ∧ va_P D vwCl [(o, .inl (cA 2, 1, .inr (.inl f')))] H) := by
  refine CtW_of (by decide +kernel) (Nat.le_of_ble_eq_true rfl) ?_
  intro p e s m args below meth c ls hC hr hlk htab hX hKX hTX hNX hl
  obtain ⟨hAX, hAs, hO⟩ := hX
  have hrec := AX.rec hKX.1 hAX
  obtain ⟨ad, L, hX, hG, hE, hx0⟩ := hAX
  have hx := hC.1
  have hb := hC.2.1
  have hS : va_S (fun q => A q ∨ q = o) s.heap s.heap [] := va_S.rf
  have hl : lv_has ls 4 [(0, .ref x0), (1, .int x1), (2, .ref o)] := hl
  refine lv_aload_n hx hb dL_takeOut_0 rfl (lv_at hl 2 rfl) ?_
  refine lv_iconst (v := 0) hx hb dL_takeOut_1 (by decide) ?_
  refine lv_aload_n hx hb dL_takeOut_2 rfl (lv_at hl 0 rfl) ?_
  refine lv_iload_n hx hb dL_takeOut_3 rfl (lv_at hl 1 rfl) ?_
  rw [← hx0] at hrec
  refine W.eq (g2 := F0 m 4 ls [.int x1, .ref (ad (5, 0)), .int 0, .ref o]) (by rw [hx0]) ?_
  refine Ct_VX (X := fun H => DX D cA A ad L G S H ∧ ∀ q : Nat, H.size ≤ q → A q) (X' := fun H => AX D cA A x0 S' G nt nv H) (As := [.int x1]) (rest := [.int 0, .ref o]) hC (CtX.to (c_d10_takeOut hfl hG hf) (fun H q => q.1) (fun H q => AX_of q hG hE hx0)) q_d10_takeOut a_702 (Nat.le_of_ble_eq_true rfl) hrec ⟨hX, hAs⟩ hKX hTX hS (fun q z => Or.inl z) rfl hl.1 (Nat.le_of_ble_eq_true rfl) dL_takeOut_4 ⟨Nat.le_of_ble_eq_true rfl, Nat.le_of_ble_eq_true rfl⟩ (fun he H locs hX1 hz1 hk1 hS => ?_) (fun he q9 ce H locs hX1 hz1 hk1 hS hce hcv hcl => ?_)
  · have hk0 : k = 0 := by
      rcases hk with h | h | h
      · exact h.2
      · exact absurd (he.symm.trans h.1) (by decide)
      · exact absurd (he.symm.trans h.1) (by decide)
    subst hk0
    refine lv_i2l (v := r.toInt64) hx hb dL_takeOut_7 rfl ?_
    refine ox_last hx hb hKX hX1 ho (ox_kept hO ho hk1) hS dL_takeOut_8 (fun H locs hX1 hO1 hS => ?_)
    refine lv_goto (tgt := 18) hx hb dL_takeOut_9 (by decide) ?_
    refine lv_iconst (v := 0) hx hb dL_takeOut_18 (by decide) ?_
    exact CtW_ri hx hb hr hlk ⟨hX1, _, fun _ => if_pos (by decide), hO1⟩ hS (Nat.le_of_ble_eq_true rfl) (Nat.le_of_ble_eq_true rfl) dL_takeOut_19
  · rcases hk with ⟨h, hk0⟩ | ⟨h, hk0⟩ | ⟨h, hk0⟩
    · exact absurd h he
    · subst h
      subst hk0
      refine vx_catch (own := "LensbenchLaw") (name := "java/lang/IllegalStateException") (E := "java/lang/IllegalStateException") hC.2.2.2.1 [] ⟨0, 9, 12, 15⟩ [⟨0, 9, 15, 25⟩] htab (fun z hz => by cases hz) (by decide) (by decide) (tA hC.2.2.2.2 a_174) (va_Nw.use rfl (hNX.2 _ (by decide))) hce hcv hcl ?_
      refine lv_astore_n (lv' := [(3, .ref q9), (0, .ref x0), (1, .int x1), (2, .ref o)]) hx hb dL_takeOut_12 rfl hl (by decide) rfl (fun ls hl => ?_)
      refine lv_iconst (v := 1) hx hb dL_takeOut_13 (by decide) ?_
      exact CtW_ri hx hb hr hlk ⟨hX1, f, fun z => absurd z he, ox_kept hO ho hk1⟩ hS (Nat.le_of_ble_eq_true rfl) (Nat.le_of_ble_eq_true rfl) dL_takeOut_14
    · subst h
      subst hk0
      refine vx_catch (own := "LensbenchLaw") (name := "java/util/NoSuchElementException") (E := "java/util/NoSuchElementException") hC.2.2.2.1 [⟨0, 9, 12, 15⟩] ⟨0, 9, 15, 25⟩ [] htab (fun z hz => by
        simp only [List.mem_cons, List.not_mem_nil, or_false] at hz
        subst hz
        · exact Or.inr ⟨by decide, "java/lang/IllegalStateException", tA hC.2.2.2.2 a_174, hNX.1 ("java/util/NoSuchElementException", "java/lang/IllegalStateException") (by decide)⟩
        ) (by decide) (by decide) (tA hC.2.2.2.2 a_420) (va_Nw.use rfl (hNX.2 _ (by decide))) hce hcv hcl ?_
      refine lv_astore_n (lv' := [(3, .ref q9), (0, .ref x0), (1, .int x1), (2, .ref o)]) hx hb dL_takeOut_15 rfl hl (by decide) rfl (fun ls hl => ?_)
      refine lv_iconst (v := 2) hx hb dL_takeOut_16 (by decide) ?_
      exact CtW_ri hx hb hr hlk ⟨hX1, f, fun z => absurd z he, ox_kept hO ho hk1⟩ hS (Nat.le_of_ble_eq_true rfl) (Nat.le_of_ble_eq_true rfl) dL_takeOut_17

set_option maxRecDepth 100000 in
set_option maxHeartbeats 4000000 in
theorem w_change {l : Launch} {D : va_G} {cA : Nat → ClassId} {A : Nat → Prop} {G : Gt} {nt nv x0 o : Nat} {f : Nat → Int64} (hfl : l.stackTraces = false) (ho : ¬ A o) {x1 : Int32} {x2 : Int32} {x3 : Int32} {S : St} (hSX : SX S nt nv) {e0 : Nat} {r k : Int32} {S' : St} (hf : d10_change G nt nv x1 x2 x3 S = some (e0, r, S')) (hk : (e0 = 0 ∧ k = 0) ∨ (e0 = 2 ∧ k = 1) ∨ (e0 = 1 ∧ k = 2) ∨ (e0 = 4 ∧ k = 3)) :
    CtW l D cA (fun q => A q ∨ q = o) yL_change cL_change 6 [(0, 12, 15, 15), (0, 12, 19, 13), (0, 12, 23, 25)] 7 20 200 [.ref x0, .int x1, .int x2, .int x3, .ref o] (fun H => AX D cA A x0 S G nt nv H ∧ (∀ q : Nat, H.size ≤ q → A q) ∧ va_P D vwCl [(o, .inl (cA 2, 1, .inr (.inl f)))] H) k (fun H => AX D cA A x0 S' G nt nv H ∧ ∃ f', (e0 = 0 → f' 0 = r.toInt64) ∧ va_P D vwCl [(o, .inl (cA 2, 1, .inr (.inl f')))] H) := by
  refine CtW_of (by decide +kernel) (Nat.le_of_ble_eq_true rfl) ?_
  intro p e s m args below meth c ls hC hr hlk htab hX hKX hTX hNX hl
  obtain ⟨hAX, hAs, hO⟩ := hX
  have hrec := AX.rec hKX.1 hAX
  obtain ⟨ad, L, hX, hG, hE, hx0⟩ := hAX
  have hx := hC.1
  have hb := hC.2.1
  have hS : va_S (fun q => A q ∨ q = o) s.heap s.heap [] := va_S.rf
  have hl : lv_has ls 6 [(0, .ref x0), (1, .int x1), (2, .int x2), (3, .int x3), (4, .ref o)] := hl
  refine lv_aload hx hb dL_change_0 (lv_at hl 4 rfl) ?_
  refine lv_iconst (v := 0) hx hb dL_change_2 (by decide) ?_
  refine lv_aload_n hx hb dL_change_3 rfl (lv_at hl 0 rfl) ?_
  refine lv_iload_n hx hb dL_change_4 rfl (lv_at hl 1 rfl) ?_
  refine lv_iload_n hx hb dL_change_5 rfl (lv_at hl 2 rfl) ?_
  refine lv_iload_n hx hb dL_change_6 rfl (lv_at hl 3 rfl) ?_
  rw [← hx0] at hrec
  refine W.eq (g2 := F0 m 7 ls [.int x3, .int x2, .int x1, .ref (ad (5, 0)), .int 0, .ref o]) (by rw [hx0]) ?_
  refine Ct_VX (X := fun H => DX D cA A ad L G S H ∧ ∀ q : Nat, H.size ≤ q → A q) (X' := fun H => AX D cA A x0 S' G nt nv H) (As := [.int x1, .int x2, .int x3]) (rest := [.int 0, .ref o]) hC (CtX.to (c_d10_change hfl hG hf) (fun H q => q.1) (fun H q => AX_of q hG hE hx0)) q_d10_change a_710 (Nat.le_of_ble_eq_true rfl) hrec ⟨hX, hAs⟩ hKX hTX hS (fun q z => Or.inl z) rfl hl.1 (Nat.le_of_ble_eq_true rfl) dL_change_7 ⟨Nat.le_of_ble_eq_true rfl, Nat.le_of_ble_eq_true rfl⟩ (fun he H locs hX1 hz1 hk1 hS => ?_) (fun he q9 ce H locs hX1 hz1 hk1 hS hce hcv hcl => ?_)
  · have hk0 : k = 0 := by
      rcases hk with h | h | h | h
      · exact h.2
      · exact absurd (he.symm.trans h.1) (by decide)
      · exact absurd (he.symm.trans h.1) (by decide)
      · exact absurd (he.symm.trans h.1) (by decide)
    subst hk0
    refine lv_i2l (v := r.toInt64) hx hb dL_change_10 rfl ?_
    refine ox_last hx hb hKX hX1 ho (ox_kept hO ho hk1) hS dL_change_11 (fun H locs hX1 hO1 hS => ?_)
    refine lv_goto (tgt := 27) hx hb dL_change_12 (by decide) ?_
    refine lv_iconst (v := 0) hx hb dL_change_27 (by decide) ?_
    exact CtW_ri hx hb hr hlk ⟨hX1, _, fun _ => if_pos (by decide), hO1⟩ hS (Nat.le_of_ble_eq_true rfl) (Nat.le_of_ble_eq_true rfl) dL_change_28
  · rcases hk with ⟨h, hk0⟩ | ⟨h, hk0⟩ | ⟨h, hk0⟩ | ⟨h, hk0⟩
    · exact absurd h he
    · subst h
      subst hk0
      refine vx_catch (own := "LensbenchLaw") (name := "java/lang/IllegalStateException") (E := "java/lang/IllegalStateException") hC.2.2.2.1 [] ⟨0, 12, 15, 15⟩ [⟨0, 12, 19, 13⟩, ⟨0, 12, 23, 25⟩] htab (fun z hz => by cases hz) (by decide) (by decide) (tA hC.2.2.2.2 a_174) (va_Nw.use rfl (hNX.2 _ (by decide))) hce hcv hcl ?_
      refine lv_astore (lv' := [(5, .ref q9), (0, .ref x0), (1, .int x1), (2, .int x2), (3, .int x3), (4, .ref o)]) hx hb dL_change_15 hl (by decide) rfl (fun ls hl => ?_)
      refine lv_iconst (v := 1) hx hb dL_change_17 (by decide) ?_
      exact CtW_ri hx hb hr hlk ⟨hX1, f, fun z => absurd z he, ox_kept hO ho hk1⟩ hS (Nat.le_of_ble_eq_true rfl) (Nat.le_of_ble_eq_true rfl) dL_change_18
    · subst h
      subst hk0
      refine vx_catch (own := "LensbenchLaw") (name := "java/lang/IllegalArgumentException") (E := "java/lang/IllegalArgumentException") hC.2.2.2.1 [⟨0, 12, 15, 15⟩] ⟨0, 12, 19, 13⟩ [⟨0, 12, 23, 25⟩] htab (fun z hz => by
        simp only [List.mem_cons, List.not_mem_nil, or_false] at hz
        subst hz
        · exact Or.inr ⟨by decide, "java/lang/IllegalStateException", tA hC.2.2.2.2 a_174, hNX.1 ("java/lang/IllegalArgumentException", "java/lang/IllegalStateException") (by decide)⟩
        ) (by decide) (by decide) (tA hC.2.2.2.2 a_173) (va_Nw.use rfl (hNX.2 _ (by decide))) hce hcv hcl ?_
      refine lv_astore (lv' := [(5, .ref q9), (0, .ref x0), (1, .int x1), (2, .int x2), (3, .int x3), (4, .ref o)]) hx hb dL_change_19 hl (by decide) rfl (fun ls hl => ?_)
      refine lv_iconst (v := 2) hx hb dL_change_21 (by decide) ?_
      exact CtW_ri hx hb hr hlk ⟨hX1, f, fun z => absurd z he, ox_kept hO ho hk1⟩ hS (Nat.le_of_ble_eq_true rfl) (Nat.le_of_ble_eq_true rfl) dL_change_22
    · subst h
      subst hk0
      refine vx_catch (own := "LensbenchLaw") (name := "java/util/NoSuchElementException") (E := "java/util/NoSuchElementException") hC.2.2.2.1 [⟨0, 12, 15, 15⟩, ⟨0, 12, 19, 13⟩] ⟨0, 12, 23, 25⟩ [] htab (fun z hz => by
        simp only [List.mem_cons, List.not_mem_nil, or_false] at hz
        rcases hz with rfl | rfl
        · exact Or.inr ⟨by decide, "java/lang/IllegalStateException", tA hC.2.2.2.2 a_174, hNX.1 ("java/util/NoSuchElementException", "java/lang/IllegalStateException") (by decide)⟩
        · exact Or.inr ⟨by decide, "java/lang/IllegalArgumentException", tA hC.2.2.2.2 a_173, hNX.1 ("java/util/NoSuchElementException", "java/lang/IllegalArgumentException") (by decide)⟩
        ) (by decide) (by decide) (tA hC.2.2.2.2 a_420) (va_Nw.use rfl (hNX.2 _ (by decide))) hce hcv hcl ?_
      refine lv_astore (lv' := [(5, .ref q9), (0, .ref x0), (1, .int x1), (2, .int x2), (3, .int x3), (4, .ref o)]) hx hb dL_change_23 hl (by decide) rfl (fun ls hl => ?_)
      refine lv_iconst (v := 3) hx hb dL_change_25 (by decide) ?_
      exact CtW_ri hx hb hr hlk ⟨hX1, f, fun z => absurd z he, ox_kept hO ho hk1⟩ hS (Nat.le_of_ble_eq_true rfl) (Nat.le_of_ble_eq_true rfl) dL_change_26

set_option maxRecDepth 100000 in
set_option maxHeartbeats 4000000 in
theorem w_draftRow {l : Launch} {D : va_G} {cA : Nat → ClassId} {A : Nat → Prop} {G : Gt} {nt nv x0 o : Nat} {f : Nat → Int64} (hfl : l.stackTraces = false) (ho : ¬ A o) {x1 : Int32} {S : St} (hSX : SX S nt nv) {e0 : Nat} {r k : Int32} {S' : St} (hf : d10_draftRow G nt nv x1 S = some (e0, r, S')) (hk : (e0 = 0 ∧ k = 0) ∨ (e0 = 2 ∧ k = 1) ∨ (e0 = 3 ∧ k = 2)) :
    CtW l D cA (fun q => A q ∨ q = o) yL_draftRow cL_draftRow 4 [(0, 9, 12, 15), (0, 9, 15, 20)] 7 20 200 [.ref x0, .int x1, .ref o] (fun H => AX D cA A x0 S G nt nv H ∧ (∀ q : Nat, H.size ≤ q → A q) ∧ va_P D vwCl [(o, .inl (cA 2, 1, .inr (.inl f)))] H) k (fun H => AX D cA A x0 S' G nt nv H ∧ ∃ f', (e0 = 0 → f' 0 = r.toInt64) ∧ va_P D vwCl [(o, .inl (cA 2, 1, .inr (.inl f')))] H) := by
  refine CtW_of (by decide +kernel) (Nat.le_of_ble_eq_true rfl) ?_
  intro p e s m args below meth c ls hC hr hlk htab hX hKX hTX hNX hl
  obtain ⟨hAX, hAs, hO⟩ := hX
  have hrec := AX.rec hKX.1 hAX
  obtain ⟨ad, L, hX, hG, hE, hx0⟩ := hAX
  have hx := hC.1
  have hb := hC.2.1
  have hS : va_S (fun q => A q ∨ q = o) s.heap s.heap [] := va_S.rf
  have hl : lv_has ls 4 [(0, .ref x0), (1, .int x1), (2, .ref o)] := hl
  refine lv_aload_n hx hb dL_draftRow_0 rfl (lv_at hl 2 rfl) ?_
  refine lv_iconst (v := 0) hx hb dL_draftRow_1 (by decide) ?_
  refine lv_aload_n hx hb dL_draftRow_2 rfl (lv_at hl 0 rfl) ?_
  refine lv_iload_n hx hb dL_draftRow_3 rfl (lv_at hl 1 rfl) ?_
  rw [← hx0] at hrec
  refine W.eq (g2 := F0 m 4 ls [.int x1, .ref (ad (5, 0)), .int 0, .ref o]) (by rw [hx0]) ?_
  refine Ct_VX (X := fun H => DX D cA A ad L G S H ∧ ∀ q : Nat, H.size ≤ q → A q) (X' := fun H => AX D cA A x0 S' G nt nv H) (As := [.int x1]) (rest := [.int 0, .ref o]) hC (CtX.to (c_d10_draftRow hfl hG hf) (fun H q => q.1) (fun H q => AX_of q hG hE hx0)) q_d10_draftRow a_725 (Nat.le_of_ble_eq_true rfl) hrec ⟨hX, hAs⟩ hKX hTX hS (fun q z => Or.inl z) rfl hl.1 (Nat.le_of_ble_eq_true rfl) dL_draftRow_4 ⟨Nat.le_of_ble_eq_true rfl, Nat.le_of_ble_eq_true rfl⟩ (fun he H locs hX1 hz1 hk1 hS => ?_) (fun he q9 ce H locs hX1 hz1 hk1 hS hce hcv hcl => ?_)
  · have hk0 : k = 0 := by
      rcases hk with h | h | h
      · exact h.2
      · exact absurd (he.symm.trans h.1) (by decide)
      · exact absurd (he.symm.trans h.1) (by decide)
    subst hk0
    refine lv_i2l (v := r.toInt64) hx hb dL_draftRow_7 rfl ?_
    refine ox_last hx hb hKX hX1 ho (ox_kept hO ho hk1) hS dL_draftRow_8 (fun H locs hX1 hO1 hS => ?_)
    refine lv_goto (tgt := 18) hx hb dL_draftRow_9 (by decide) ?_
    refine lv_iconst (v := 0) hx hb dL_draftRow_18 (by decide) ?_
    exact CtW_ri hx hb hr hlk ⟨hX1, _, fun _ => if_pos (by decide), hO1⟩ hS (Nat.le_of_ble_eq_true rfl) (Nat.le_of_ble_eq_true rfl) dL_draftRow_19
  · rcases hk with ⟨h, hk0⟩ | ⟨h, hk0⟩ | ⟨h, hk0⟩
    · exact absurd h he
    · subst h
      subst hk0
      refine vx_catch (own := "LensbenchLaw") (name := "java/lang/IllegalStateException") (E := "java/lang/IllegalStateException") hC.2.2.2.1 [] ⟨0, 9, 12, 15⟩ [⟨0, 9, 15, 20⟩] htab (fun z hz => by cases hz) (by decide) (by decide) (tA hC.2.2.2.2 a_174) (va_Nw.use rfl (hNX.2 _ (by decide))) hce hcv hcl ?_
      refine lv_astore_n (lv' := [(3, .ref q9), (0, .ref x0), (1, .int x1), (2, .ref o)]) hx hb dL_draftRow_12 rfl hl (by decide) rfl (fun ls hl => ?_)
      refine lv_iconst (v := 1) hx hb dL_draftRow_13 (by decide) ?_
      exact CtW_ri hx hb hr hlk ⟨hX1, f, fun z => absurd z he, ox_kept hO ho hk1⟩ hS (Nat.le_of_ble_eq_true rfl) (Nat.le_of_ble_eq_true rfl) dL_draftRow_14
    · subst h
      subst hk0
      refine vx_catch (own := "LensbenchLaw") (name := "java/lang/IndexOutOfBoundsException") (E := "java/lang/IndexOutOfBoundsException") hC.2.2.2.1 [⟨0, 9, 12, 15⟩] ⟨0, 9, 15, 20⟩ [] htab (fun z hz => by
        simp only [List.mem_cons, List.not_mem_nil, or_false] at hz
        subst hz
        · exact Or.inr ⟨by decide, "java/lang/IllegalStateException", tA hC.2.2.2.2 a_174, hNX.1 ("java/lang/IndexOutOfBoundsException", "java/lang/IllegalStateException") (by decide)⟩
        ) (by decide) (by decide) (tA hC.2.2.2.2 a_302) (va_Nw.use rfl (hNX.2 _ (by decide))) hce hcv hcl ?_
      refine lv_astore_n (lv' := [(3, .ref q9), (0, .ref x0), (1, .int x1), (2, .ref o)]) hx hb dL_draftRow_15 rfl hl (by decide) rfl (fun ls hl => ?_)
      refine lv_iconst (v := 2) hx hb dL_draftRow_16 (by decide) ?_
      exact CtW_ri hx hb hr hlk ⟨hX1, f, fun z => absurd z he, ox_kept hO ho hk1⟩ hS (Nat.le_of_ble_eq_true rfl) (Nat.le_of_ble_eq_true rfl) dL_draftRow_17

set_option maxRecDepth 100000 in
set_option maxHeartbeats 4000000 in
theorem w_conflict {l : Launch} {D : va_G} {cA : Nat → ClassId} {A : Nat → Prop} {G : Gt} {nt nv x0 o : Nat} {f : Nat → Int64} (hfl : l.stackTraces = false) (ho : ¬ A o) {S : St} (hSX : SX S nt nv) {e0 : Nat} {r k : Int32} {S' : St} (hf : d10_conflict G nt nv S = some (e0, r, S')) (hk : (e0 = 0 ∧ k = 0) ∨ (e0 = 2 ∧ k = 1)) :
    CtW l D cA (fun q => A q ∨ q = o) yL_conflict cL_conflict 3 [(0, 8, 11, 15)] 20 20 200 [.ref x0, .ref o] (fun H => AX D cA A x0 S G nt nv H ∧ (∀ q : Nat, H.size ≤ q → A q) ∧ va_P D vwCl [(o, .inl (cA 2, 1, .inr (.inl f)))] H) k (fun H => AX D cA A x0 S' G nt nv H ∧ ∃ f', (e0 = 0 → f' 0 = r.toInt64) ∧ va_P D vwCl [(o, .inl (cA 2, 1, .inr (.inl f')))] H) := by
  refine CtW_of (by decide +kernel) (Nat.le_of_ble_eq_true rfl) ?_
  intro p e s m args below meth c ls hC hr hlk htab hX hKX hTX hNX hl
  obtain ⟨hAX, hAs, hO⟩ := hX
  have hrec := AX.rec hKX.1 hAX
  obtain ⟨ad, L, hX, hG, hE, hx0⟩ := hAX
  have hx := hC.1
  have hb := hC.2.1
  have hS : va_S (fun q => A q ∨ q = o) s.heap s.heap [] := va_S.rf
  have hl : lv_has ls 3 [(0, .ref x0), (1, .ref o)] := hl
  refine lv_aload_n hx hb dL_conflict_0 rfl (lv_at hl 1 rfl) ?_
  refine lv_iconst (v := 0) hx hb dL_conflict_1 (by decide) ?_
  refine lv_aload_n hx hb dL_conflict_2 rfl (lv_at hl 0 rfl) ?_
  rw [← hx0] at hrec
  refine W.eq (g2 := F0 m 3 ls [.ref (ad (5, 0)), .int 0, .ref o]) (by rw [hx0]) ?_
  refine Ct_VX (X := fun H => DX D cA A ad L G S H ∧ ∀ q : Nat, H.size ≤ q → A q) (X' := fun H => AX D cA A x0 S' G nt nv H) (As := []) (rest := [.int 0, .ref o]) hC (CtX.to (c_d10_conflict hfl hG hf) (fun H q => q.1) (fun H q => AX_of q hG hE hx0)) q_d10_conflict a_733 (Nat.le_of_ble_eq_true rfl) hrec ⟨hX, hAs⟩ hKX hTX hS (fun q z => Or.inl z) rfl hl.1 (Nat.le_of_ble_eq_true rfl) dL_conflict_3 ⟨Nat.le_of_ble_eq_true rfl, Nat.le_of_ble_eq_true rfl⟩ (fun he H locs hX1 hz1 hk1 hS => ?_) (fun he q9 ce H locs hX1 hz1 hk1 hS hce hcv hcl => ?_)
  · have hk0 : k = 0 := by
      rcases hk with h | h
      · exact h.2
      · exact absurd (he.symm.trans h.1) (by decide)
    subst hk0
    refine lv_i2l (v := r.toInt64) hx hb dL_conflict_6 rfl ?_
    refine ox_last hx hb hKX hX1 ho (ox_kept hO ho hk1) hS dL_conflict_7 (fun H locs hX1 hO1 hS => ?_)
    refine lv_goto (tgt := 14) hx hb dL_conflict_8 (by decide) ?_
    refine lv_iconst (v := 0) hx hb dL_conflict_14 (by decide) ?_
    exact CtW_ri hx hb hr hlk ⟨hX1, _, fun _ => if_pos (by decide), hO1⟩ hS (Nat.le_of_ble_eq_true rfl) (Nat.le_of_ble_eq_true rfl) dL_conflict_15
  · rcases hk with ⟨h, hk0⟩ | ⟨h, hk0⟩
    · exact absurd h he
    · subst h
      subst hk0
      refine vx_catch (own := "LensbenchLaw") (name := "java/lang/IllegalStateException") (E := "java/lang/IllegalStateException") hC.2.2.2.1 [] ⟨0, 8, 11, 15⟩ [] htab (fun z hz => by cases hz) (by decide) (by decide) (tA hC.2.2.2.2 a_174) (va_Nw.use rfl (hNX.2 _ (by decide))) hce hcv hcl ?_
      refine lv_astore_n (lv' := [(2, .ref q9), (0, .ref x0), (1, .ref o)]) hx hb dL_conflict_11 rfl hl (by decide) rfl (fun ls hl => ?_)
      refine lv_iconst (v := 1) hx hb dL_conflict_12 (by decide) ?_
      exact CtW_ri hx hb hr hlk ⟨hX1, f, fun z => absurd z he, ox_kept hO ho hk1⟩ hS (Nat.le_of_ble_eq_true rfl) (Nat.le_of_ble_eq_true rfl) dL_conflict_13

set_option maxRecDepth 100000 in
set_option maxHeartbeats 4000000 in
theorem w_conflictRow {l : Launch} {D : va_G} {cA : Nat → ClassId} {A : Nat → Prop} {G : Gt} {nt nv x0 o : Nat} {f : Nat → Int64} (hfl : l.stackTraces = false) (ho : ¬ A o) {x1 : Int32} {S : St} (hSX : SX S nt nv) {e0 : Nat} {r k : Int32} {S' : St} (hf : d10_conflictRow G nt nv x1 S = some (e0, r, S')) (hk : (e0 = 0 ∧ k = 0) ∨ (e0 = 2 ∧ k = 1) ∨ (e0 = 1 ∧ k = 2)) :
    CtW l D cA (fun q => A q ∨ q = o) yL_conflictRow cL_conflictRow 4 [(0, 9, 12, 15), (0, 9, 15, 13)] 20 20 200 [.ref x0, .int x1, .ref o] (fun H => AX D cA A x0 S G nt nv H ∧ (∀ q : Nat, H.size ≤ q → A q) ∧ va_P D vwCl [(o, .inl (cA 2, 1, .inr (.inl f)))] H) k (fun H => AX D cA A x0 S' G nt nv H ∧ ∃ f', (e0 = 0 → f' 0 = r.toInt64) ∧ va_P D vwCl [(o, .inl (cA 2, 1, .inr (.inl f')))] H) := by
  refine CtW_of (by decide +kernel) (Nat.le_of_ble_eq_true rfl) ?_
  intro p e s m args below meth c ls hC hr hlk htab hX hKX hTX hNX hl
  obtain ⟨hAX, hAs, hO⟩ := hX
  have hrec := AX.rec hKX.1 hAX
  obtain ⟨ad, L, hX, hG, hE, hx0⟩ := hAX
  have hx := hC.1
  have hb := hC.2.1
  have hS : va_S (fun q => A q ∨ q = o) s.heap s.heap [] := va_S.rf
  have hl : lv_has ls 4 [(0, .ref x0), (1, .int x1), (2, .ref o)] := hl
  refine lv_aload_n hx hb dL_conflictRow_0 rfl (lv_at hl 2 rfl) ?_
  refine lv_iconst (v := 0) hx hb dL_conflictRow_1 (by decide) ?_
  refine lv_aload_n hx hb dL_conflictRow_2 rfl (lv_at hl 0 rfl) ?_
  refine lv_iload_n hx hb dL_conflictRow_3 rfl (lv_at hl 1 rfl) ?_
  rw [← hx0] at hrec
  refine W.eq (g2 := F0 m 4 ls [.int x1, .ref (ad (5, 0)), .int 0, .ref o]) (by rw [hx0]) ?_
  refine Ct_VX (X := fun H => DX D cA A ad L G S H ∧ ∀ q : Nat, H.size ≤ q → A q) (X' := fun H => AX D cA A x0 S' G nt nv H) (As := [.int x1]) (rest := [.int 0, .ref o]) hC (CtX.to (c_d10_conflictRow hfl hG hf) (fun H q => q.1) (fun H q => AX_of q hG hE hx0)) q_d10_conflictRow a_843 (Nat.le_of_ble_eq_true rfl) hrec ⟨hX, hAs⟩ hKX hTX hS (fun q z => Or.inl z) rfl hl.1 (Nat.le_of_ble_eq_true rfl) dL_conflictRow_4 ⟨Nat.le_of_ble_eq_true rfl, Nat.le_of_ble_eq_true rfl⟩ (fun he H locs hX1 hz1 hk1 hS => ?_) (fun he q9 ce H locs hX1 hz1 hk1 hS hce hcv hcl => ?_)
  · have hk0 : k = 0 := by
      rcases hk with h | h | h
      · exact h.2
      · exact absurd (he.symm.trans h.1) (by decide)
      · exact absurd (he.symm.trans h.1) (by decide)
    subst hk0
    refine lv_i2l (v := r.toInt64) hx hb dL_conflictRow_7 rfl ?_
    refine ox_last hx hb hKX hX1 ho (ox_kept hO ho hk1) hS dL_conflictRow_8 (fun H locs hX1 hO1 hS => ?_)
    refine lv_goto (tgt := 18) hx hb dL_conflictRow_9 (by decide) ?_
    refine lv_iconst (v := 0) hx hb dL_conflictRow_18 (by decide) ?_
    exact CtW_ri hx hb hr hlk ⟨hX1, _, fun _ => if_pos (by decide), hO1⟩ hS (Nat.le_of_ble_eq_true rfl) (Nat.le_of_ble_eq_true rfl) dL_conflictRow_19
  · rcases hk with ⟨h, hk0⟩ | ⟨h, hk0⟩ | ⟨h, hk0⟩
    · exact absurd h he
    · subst h
      subst hk0
      refine vx_catch (own := "LensbenchLaw") (name := "java/lang/IllegalStateException") (E := "java/lang/IllegalStateException") hC.2.2.2.1 [] ⟨0, 9, 12, 15⟩ [⟨0, 9, 15, 13⟩] htab (fun z hz => by cases hz) (by decide) (by decide) (tA hC.2.2.2.2 a_174) (va_Nw.use rfl (hNX.2 _ (by decide))) hce hcv hcl ?_
      refine lv_astore_n (lv' := [(3, .ref q9), (0, .ref x0), (1, .int x1), (2, .ref o)]) hx hb dL_conflictRow_12 rfl hl (by decide) rfl (fun ls hl => ?_)
      refine lv_iconst (v := 1) hx hb dL_conflictRow_13 (by decide) ?_
      exact CtW_ri hx hb hr hlk ⟨hX1, f, fun z => absurd z he, ox_kept hO ho hk1⟩ hS (Nat.le_of_ble_eq_true rfl) (Nat.le_of_ble_eq_true rfl) dL_conflictRow_14
    · subst h
      subst hk0
      refine vx_catch (own := "LensbenchLaw") (name := "java/lang/IllegalArgumentException") (E := "java/lang/IllegalArgumentException") hC.2.2.2.1 [⟨0, 9, 12, 15⟩] ⟨0, 9, 15, 13⟩ [] htab (fun z hz => by
        simp only [List.mem_cons, List.not_mem_nil, or_false] at hz
        subst hz
        · exact Or.inr ⟨by decide, "java/lang/IllegalStateException", tA hC.2.2.2.2 a_174, hNX.1 ("java/lang/IllegalArgumentException", "java/lang/IllegalStateException") (by decide)⟩
        ) (by decide) (by decide) (tA hC.2.2.2.2 a_173) (va_Nw.use rfl (hNX.2 _ (by decide))) hce hcv hcl ?_
      refine lv_astore_n (lv' := [(3, .ref q9), (0, .ref x0), (1, .int x1), (2, .ref o)]) hx hb dL_conflictRow_15 rfl hl (by decide) rfl (fun ls hl => ?_)
      refine lv_iconst (v := 2) hx hb dL_conflictRow_16 (by decide) ?_
      exact CtW_ri hx hb hr hlk ⟨hX1, f, fun z => absurd z he, ox_kept hO ho hk1⟩ hS (Nat.le_of_ble_eq_true rfl) (Nat.le_of_ble_eq_true rfl) dL_conflictRow_17

set_option maxRecDepth 100000 in
set_option maxHeartbeats 4000000 in
theorem w_changes {l : Launch} {D : va_G} {cA : Nat → ClassId} {A : Nat → Prop} {G : Gt} {nt nv x0 o : Nat} {f : Nat → Int64} (hfl : l.stackTraces = false) (ho : ¬ A o) {S : St} (hSX : SX S nt nv) {e0 : Nat} {r k : Int32} {S' : St} (hf : d10_changes G nt nv S = some (e0, r, S')) (hk : (e0 = 0 ∧ k = 0) ∨ (e0 = 2 ∧ k = 1)) :
    CtW l D cA (fun q => A q ∨ q = o) yL_changes cL_changes 3 [(0, 8, 11, 15)] 20 20 200 [.ref x0, .ref o] (fun H => AX D cA A x0 S G nt nv H ∧ (∀ q : Nat, H.size ≤ q → A q) ∧ va_P D vwCl [(o, .inl (cA 2, 1, .inr (.inl f)))] H) k (fun H => AX D cA A x0 S' G nt nv H ∧ ∃ f', (e0 = 0 → f' 0 = r.toInt64) ∧ va_P D vwCl [(o, .inl (cA 2, 1, .inr (.inl f')))] H) := by
  refine CtW_of (by decide +kernel) (Nat.le_of_ble_eq_true rfl) ?_
  intro p e s m args below meth c ls hC hr hlk htab hX hKX hTX hNX hl
  obtain ⟨hAX, hAs, hO⟩ := hX
  have hrec := AX.rec hKX.1 hAX
  obtain ⟨ad, L, hX, hG, hE, hx0⟩ := hAX
  have hx := hC.1
  have hb := hC.2.1
  have hS : va_S (fun q => A q ∨ q = o) s.heap s.heap [] := va_S.rf
  have hl : lv_has ls 3 [(0, .ref x0), (1, .ref o)] := hl
  refine lv_aload_n hx hb dL_changes_0 rfl (lv_at hl 1 rfl) ?_
  refine lv_iconst (v := 0) hx hb dL_changes_1 (by decide) ?_
  refine lv_aload_n hx hb dL_changes_2 rfl (lv_at hl 0 rfl) ?_
  rw [← hx0] at hrec
  refine W.eq (g2 := F0 m 3 ls [.ref (ad (5, 0)), .int 0, .ref o]) (by rw [hx0]) ?_
  refine Ct_VX (X := fun H => DX D cA A ad L G S H ∧ ∀ q : Nat, H.size ≤ q → A q) (X' := fun H => AX D cA A x0 S' G nt nv H) (As := []) (rest := [.int 0, .ref o]) hC (CtX.to (c_d10_changes hfl hG hf) (fun H q => q.1) (fun H q => AX_of q hG hE hx0)) q_d10_changes a_851 (Nat.le_of_ble_eq_true rfl) hrec ⟨hX, hAs⟩ hKX hTX hS (fun q z => Or.inl z) rfl hl.1 (Nat.le_of_ble_eq_true rfl) dL_changes_3 ⟨Nat.le_of_ble_eq_true rfl, Nat.le_of_ble_eq_true rfl⟩ (fun he H locs hX1 hz1 hk1 hS => ?_) (fun he q9 ce H locs hX1 hz1 hk1 hS hce hcv hcl => ?_)
  · have hk0 : k = 0 := by
      rcases hk with h | h
      · exact h.2
      · exact absurd (he.symm.trans h.1) (by decide)
    subst hk0
    refine lv_i2l (v := r.toInt64) hx hb dL_changes_6 rfl ?_
    refine ox_last hx hb hKX hX1 ho (ox_kept hO ho hk1) hS dL_changes_7 (fun H locs hX1 hO1 hS => ?_)
    refine lv_goto (tgt := 14) hx hb dL_changes_8 (by decide) ?_
    refine lv_iconst (v := 0) hx hb dL_changes_14 (by decide) ?_
    exact CtW_ri hx hb hr hlk ⟨hX1, _, fun _ => if_pos (by decide), hO1⟩ hS (Nat.le_of_ble_eq_true rfl) (Nat.le_of_ble_eq_true rfl) dL_changes_15
  · rcases hk with ⟨h, hk0⟩ | ⟨h, hk0⟩
    · exact absurd h he
    · subst h
      subst hk0
      refine vx_catch (own := "LensbenchLaw") (name := "java/lang/IllegalStateException") (E := "java/lang/IllegalStateException") hC.2.2.2.1 [] ⟨0, 8, 11, 15⟩ [] htab (fun z hz => by cases hz) (by decide) (by decide) (tA hC.2.2.2.2 a_174) (va_Nw.use rfl (hNX.2 _ (by decide))) hce hcv hcl ?_
      refine lv_astore_n (lv' := [(2, .ref q9), (0, .ref x0), (1, .ref o)]) hx hb dL_changes_11 rfl hl (by decide) rfl (fun ls hl => ?_)
      refine lv_iconst (v := 1) hx hb dL_changes_12 (by decide) ?_
      exact CtW_ri hx hb hr hlk ⟨hX1, f, fun z => absurd z he, ox_kept hO ho hk1⟩ hS (Nat.le_of_ble_eq_true rfl) (Nat.le_of_ble_eq_true rfl) dL_changes_13

set_option maxRecDepth 100000 in
set_option maxHeartbeats 4000000 in
theorem w_fewest {l : Launch} {D : va_G} {cA : Nat → ClassId} {A : Nat → Prop} {G : Gt} {nt nv x0 o : Nat} {f : Nat → Int64} (hfl : l.stackTraces = false) (ho : ¬ A o) {S : St} (hSX : SX S nt nv) {e0 : Nat} {r k : Int32} {S' : St} (hf : d10_fewest G nt nv S = some (e0, r, S')) (hk : (e0 = 0 ∧ k = 0) ∨ (e0 = 2 ∧ k = 1)) :
    CtW l D cA (fun q => A q ∨ q = o) yL_fewest cL_fewest 3 [(0, 8, 11, 15)] 7 20 200 [.ref x0, .ref o] (fun H => AX D cA A x0 S G nt nv H ∧ (∀ q : Nat, H.size ≤ q → A q) ∧ va_P D vwCl [(o, .inl (cA 2, 1, .inr (.inl f)))] H) k (fun H => AX D cA A x0 S' G nt nv H ∧ ∃ f', (e0 = 0 → f' 0 = r.toInt64) ∧ va_P D vwCl [(o, .inl (cA 2, 1, .inr (.inl f')))] H) := by
  refine CtW_of (by decide +kernel) (Nat.le_of_ble_eq_true rfl) ?_
  intro p e s m args below meth c ls hC hr hlk htab hX hKX hTX hNX hl
  obtain ⟨hAX, hAs, hO⟩ := hX
  have hrec := AX.rec hKX.1 hAX
  obtain ⟨ad, L, hX, hG, hE, hx0⟩ := hAX
  have hx := hC.1
  have hb := hC.2.1
  have hS : va_S (fun q => A q ∨ q = o) s.heap s.heap [] := va_S.rf
  have hl : lv_has ls 3 [(0, .ref x0), (1, .ref o)] := hl
  refine lv_aload_n hx hb dL_fewest_0 rfl (lv_at hl 1 rfl) ?_
  refine lv_iconst (v := 0) hx hb dL_fewest_1 (by decide) ?_
  refine lv_aload_n hx hb dL_fewest_2 rfl (lv_at hl 0 rfl) ?_
  rw [← hx0] at hrec
  refine W.eq (g2 := F0 m 3 ls [.ref (ad (5, 0)), .int 0, .ref o]) (by rw [hx0]) ?_
  refine Ct_VX (X := fun H => DX D cA A ad L G S H ∧ ∀ q : Nat, H.size ≤ q → A q) (X' := fun H => AX D cA A x0 S' G nt nv H) (As := []) (rest := [.int 0, .ref o]) hC (CtX.to (c_d10_fewest hfl hG hf) (fun H q => q.1) (fun H q => AX_of q hG hE hx0)) q_d10_fewest a_866 (Nat.le_of_ble_eq_true rfl) hrec ⟨hX, hAs⟩ hKX hTX hS (fun q z => Or.inl z) rfl hl.1 (Nat.le_of_ble_eq_true rfl) dL_fewest_3 ⟨Nat.le_of_ble_eq_true rfl, Nat.le_of_ble_eq_true rfl⟩ (fun he H locs hX1 hz1 hk1 hS => ?_) (fun he q9 ce H locs hX1 hz1 hk1 hS hce hcv hcl => ?_)
  · have hk0 : k = 0 := by
      rcases hk with h | h
      · exact h.2
      · exact absurd (he.symm.trans h.1) (by decide)
    subst hk0
    refine lv_i2l (v := r.toInt64) hx hb dL_fewest_6 rfl ?_
    refine ox_last hx hb hKX hX1 ho (ox_kept hO ho hk1) hS dL_fewest_7 (fun H locs hX1 hO1 hS => ?_)
    refine lv_goto (tgt := 14) hx hb dL_fewest_8 (by decide) ?_
    refine lv_iconst (v := 0) hx hb dL_fewest_14 (by decide) ?_
    exact CtW_ri hx hb hr hlk ⟨hX1, _, fun _ => if_pos (by decide), hO1⟩ hS (Nat.le_of_ble_eq_true rfl) (Nat.le_of_ble_eq_true rfl) dL_fewest_15
  · rcases hk with ⟨h, hk0⟩ | ⟨h, hk0⟩
    · exact absurd h he
    · subst h
      subst hk0
      refine vx_catch (own := "LensbenchLaw") (name := "java/lang/IllegalStateException") (E := "java/lang/IllegalStateException") hC.2.2.2.1 [] ⟨0, 8, 11, 15⟩ [] htab (fun z hz => by cases hz) (by decide) (by decide) (tA hC.2.2.2.2 a_174) (va_Nw.use rfl (hNX.2 _ (by decide))) hce hcv hcl ?_
      refine lv_astore_n (lv' := [(2, .ref q9), (0, .ref x0), (1, .ref o)]) hx hb dL_fewest_11 rfl hl (by decide) rfl (fun ls hl => ?_)
      refine lv_iconst (v := 1) hx hb dL_fewest_12 (by decide) ?_
      exact CtW_ri hx hb hr hlk ⟨hX1, f, fun z => absurd z he, ox_kept hO ho hk1⟩ hS (Nat.le_of_ble_eq_true rfl) (Nat.le_of_ble_eq_true rfl) dL_fewest_13

set_option maxRecDepth 100000 in
set_option maxHeartbeats 4000000 in
theorem w_putBack {l : Launch} {D : va_G} {cA : Nat → ClassId} {A : Nat → Prop} {G : Gt} {nt nv x0 o : Nat} {f : Nat → Int64} (hfl : l.stackTraces = false) (ho : ¬ A o) {S : St} (hSX : SX S nt nv) {e0 : Nat} {r k : Int32} {S' : St} (hf : d10_putBack G nt nv S = some (e0, r, S')) (hk : (e0 = 0 ∧ k = 0) ∨ (e0 = 2 ∧ k = 1)) :
    CtW l D cA (fun q => A q ∨ q = o) yL_putBack cL_putBack 3 [(0, 8, 11, 15)] 20 20 200 [.ref x0, .ref o] (fun H => AX D cA A x0 S G nt nv H ∧ (∀ q : Nat, H.size ≤ q → A q) ∧ va_P D vwCl [(o, .inl (cA 2, 1, .inr (.inl f)))] H) k (fun H => AX D cA A x0 S' G nt nv H ∧ ∃ f', (e0 = 0 → f' 0 = r.toInt64) ∧ va_P D vwCl [(o, .inl (cA 2, 1, .inr (.inl f')))] H) := by
  refine CtW_of (by decide +kernel) (Nat.le_of_ble_eq_true rfl) ?_
  intro p e s m args below meth c ls hC hr hlk htab hX hKX hTX hNX hl
  obtain ⟨hAX, hAs, hO⟩ := hX
  have hrec := AX.rec hKX.1 hAX
  obtain ⟨ad, L, hX, hG, hE, hx0⟩ := hAX
  have hx := hC.1
  have hb := hC.2.1
  have hS : va_S (fun q => A q ∨ q = o) s.heap s.heap [] := va_S.rf
  have hl : lv_has ls 3 [(0, .ref x0), (1, .ref o)] := hl
  refine lv_aload_n hx hb dL_putBack_0 rfl (lv_at hl 1 rfl) ?_
  refine lv_iconst (v := 0) hx hb dL_putBack_1 (by decide) ?_
  refine lv_aload_n hx hb dL_putBack_2 rfl (lv_at hl 0 rfl) ?_
  rw [← hx0] at hrec
  refine W.eq (g2 := F0 m 3 ls [.ref (ad (5, 0)), .int 0, .ref o]) (by rw [hx0]) ?_
  refine Ct_VX (X := fun H => DX D cA A ad L G S H ∧ ∀ q : Nat, H.size ≤ q → A q) (X' := fun H => AX D cA A x0 S' G nt nv H) (As := []) (rest := [.int 0, .ref o]) hC (CtX.to (c_d10_putBack hfl hG hf) (fun H q => q.1) (fun H q => AX_of q hG hE hx0)) q_d10_putBack a_930 (Nat.le_of_ble_eq_true rfl) hrec ⟨hX, hAs⟩ hKX hTX hS (fun q z => Or.inl z) rfl hl.1 (Nat.le_of_ble_eq_true rfl) dL_putBack_3 ⟨Nat.le_of_ble_eq_true rfl, Nat.le_of_ble_eq_true rfl⟩ (fun he H locs hX1 hz1 hk1 hS => ?_) (fun he q9 ce H locs hX1 hz1 hk1 hS hce hcv hcl => ?_)
  · have hk0 : k = 0 := by
      rcases hk with h | h
      · exact h.2
      · exact absurd (he.symm.trans h.1) (by decide)
    subst hk0
    refine lv_i2l (v := r.toInt64) hx hb dL_putBack_6 rfl ?_
    refine ox_last hx hb hKX hX1 ho (ox_kept hO ho hk1) hS dL_putBack_7 (fun H locs hX1 hO1 hS => ?_)
    refine lv_goto (tgt := 14) hx hb dL_putBack_8 (by decide) ?_
    refine lv_iconst (v := 0) hx hb dL_putBack_14 (by decide) ?_
    exact CtW_ri hx hb hr hlk ⟨hX1, _, fun _ => if_pos (by decide), hO1⟩ hS (Nat.le_of_ble_eq_true rfl) (Nat.le_of_ble_eq_true rfl) dL_putBack_15
  · rcases hk with ⟨h, hk0⟩ | ⟨h, hk0⟩
    · exact absurd h he
    · subst h
      subst hk0
      refine vx_catch (own := "LensbenchLaw") (name := "java/lang/IllegalStateException") (E := "java/lang/IllegalStateException") hC.2.2.2.1 [] ⟨0, 8, 11, 15⟩ [] htab (fun z hz => by cases hz) (by decide) (by decide) (tA hC.2.2.2.2 a_174) (va_Nw.use rfl (hNX.2 _ (by decide))) hce hcv hcl ?_
      refine lv_astore_n (lv' := [(2, .ref q9), (0, .ref x0), (1, .ref o)]) hx hb dL_putBack_11 rfl hl (by decide) rfl (fun ls hl => ?_)
      refine lv_iconst (v := 1) hx hb dL_putBack_12 (by decide) ?_
      exact CtW_ri hx hb hr hlk ⟨hX1, f, fun z => absurd z he, ox_kept hO ho hk1⟩ hS (Nat.le_of_ble_eq_true rfl) (Nat.le_of_ble_eq_true rfl) dL_putBack_13

set_option maxRecDepth 100000 in
set_option maxHeartbeats 4000000 in
theorem w_undo {l : Launch} {D : va_G} {cA : Nat → ClassId} {A : Nat → Prop} {G : Gt} {nt nv x0 o : Nat} {f : Nat → Int64} (hfl : l.stackTraces = false) (ho : ¬ A o) {S : St} (hSX : SX S nt nv) {e0 : Nat} {r k : Int32} {S' : St} (hf : d10_undo G nt nv S = some (e0, r, S')) (hk : (e0 = 0 ∧ k = 0) ∨ (e0 = 2 ∧ k = 1)) :
    CtW l D cA (fun q => A q ∨ q = o) yL_undo cL_undo 3 [(0, 8, 11, 15)] 7 20 200 [.ref x0, .ref o] (fun H => AX D cA A x0 S G nt nv H ∧ (∀ q : Nat, H.size ≤ q → A q) ∧ va_P D vwCl [(o, .inl (cA 2, 1, .inr (.inl f)))] H) k (fun H => AX D cA A x0 S' G nt nv H ∧ ∃ f', (e0 = 0 → f' 0 = r.toInt64) ∧ va_P D vwCl [(o, .inl (cA 2, 1, .inr (.inl f')))] H) := by
  refine CtW_of (by decide +kernel) (Nat.le_of_ble_eq_true rfl) ?_
  intro p e s m args below meth c ls hC hr hlk htab hX hKX hTX hNX hl
  obtain ⟨hAX, hAs, hO⟩ := hX
  have hrec := AX.rec hKX.1 hAX
  obtain ⟨ad, L, hX, hG, hE, hx0⟩ := hAX
  have hx := hC.1
  have hb := hC.2.1
  have hS : va_S (fun q => A q ∨ q = o) s.heap s.heap [] := va_S.rf
  have hl : lv_has ls 3 [(0, .ref x0), (1, .ref o)] := hl
  refine lv_aload_n hx hb dL_undo_0 rfl (lv_at hl 1 rfl) ?_
  refine lv_iconst (v := 0) hx hb dL_undo_1 (by decide) ?_
  refine lv_aload_n hx hb dL_undo_2 rfl (lv_at hl 0 rfl) ?_
  rw [← hx0] at hrec
  refine W.eq (g2 := F0 m 3 ls [.ref (ad (5, 0)), .int 0, .ref o]) (by rw [hx0]) ?_
  refine Ct_VX (X := fun H => DX D cA A ad L G S H ∧ ∀ q : Nat, H.size ≤ q → A q) (X' := fun H => AX D cA A x0 S' G nt nv H) (As := []) (rest := [.int 0, .ref o]) hC (CtX.to (c_d10_undo hfl hG hf) (fun H q => q.1) (fun H q => AX_of q hG hE hx0)) q_d10_undo a_952 (Nat.le_of_ble_eq_true rfl) hrec ⟨hX, hAs⟩ hKX hTX hS (fun q z => Or.inl z) rfl hl.1 (Nat.le_of_ble_eq_true rfl) dL_undo_3 ⟨Nat.le_of_ble_eq_true rfl, Nat.le_of_ble_eq_true rfl⟩ (fun he H locs hX1 hz1 hk1 hS => ?_) (fun he q9 ce H locs hX1 hz1 hk1 hS hce hcv hcl => ?_)
  · have hk0 : k = 0 := by
      rcases hk with h | h
      · exact h.2
      · exact absurd (he.symm.trans h.1) (by decide)
    subst hk0
    refine lv_i2l (v := r.toInt64) hx hb dL_undo_6 rfl ?_
    refine ox_last hx hb hKX hX1 ho (ox_kept hO ho hk1) hS dL_undo_7 (fun H locs hX1 hO1 hS => ?_)
    refine lv_goto (tgt := 14) hx hb dL_undo_8 (by decide) ?_
    refine lv_iconst (v := 0) hx hb dL_undo_14 (by decide) ?_
    exact CtW_ri hx hb hr hlk ⟨hX1, _, fun _ => if_pos (by decide), hO1⟩ hS (Nat.le_of_ble_eq_true rfl) (Nat.le_of_ble_eq_true rfl) dL_undo_15
  · rcases hk with ⟨h, hk0⟩ | ⟨h, hk0⟩
    · exact absurd h he
    · subst h
      subst hk0
      refine vx_catch (own := "LensbenchLaw") (name := "java/lang/IllegalStateException") (E := "java/lang/IllegalStateException") hC.2.2.2.1 [] ⟨0, 8, 11, 15⟩ [] htab (fun z hz => by cases hz) (by decide) (by decide) (tA hC.2.2.2.2 a_174) (va_Nw.use rfl (hNX.2 _ (by decide))) hce hcv hcl ?_
      refine lv_astore_n (lv' := [(2, .ref q9), (0, .ref x0), (1, .ref o)]) hx hb dL_undo_11 rfl hl (by decide) rfl (fun ls hl => ?_)
      refine lv_iconst (v := 1) hx hb dL_undo_12 (by decide) ?_
      exact CtW_ri hx hb hr hlk ⟨hX1, f, fun z => absurd z he, ox_kept hO ho hk1⟩ hS (Nat.le_of_ble_eq_true rfl) (Nat.le_of_ble_eq_true rfl) dL_undo_13
