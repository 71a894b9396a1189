theorem va_D1 {a : Nat} {e : va_E} {sz : Nat} : va_D (va_A [(a, e)] sz) [(a, e)] := ⟨fun i j p q hi hj _ => by
  have h1 := (List.getElem?_eq_some_iff.mp hi).1
  have h2 := (List.getElem?_eq_some_iff.mp hj).1
  simp only [List.length_singleton] at h1 h2
  omega, fun k q hk => va_A.in hk⟩

set_option maxRecDepth 100000 in
set_option maxHeartbeats 4000000 in
theorem c_X4_init {l : Launch} {D : va_G} {cA : Nat → ClassId} {h0 sz : Nat} {n : Nat} (hn : n < 1000) : Ct l D cA (va_A [(h0, .inr (3, [.null, .int 0]))] sz) yX4_init cX4_init 2 none 1 1 n [.ref h0, .int (nI n)] (fun H => H.size = sz ∧ va_P D vwCl [(h0, .inr (3, [.null, .int 0]))] H) none (fun H => ∃ q1 : Nat, va_P D vwCl [(h0, .inr (3, [.ref q1, .int 0])), (q1, .inl (cA 0, n, .inl (fun _ => 0)))] H ∧ va_D (va_A [(h0, .inr (3, [.null, .int 0]))] sz) [(h0, .inr (3, [.ref q1, .int 0])), (q1, .inl (cA 0, n, .inl (fun _ => 0)))]) := by
  refine Ct_of (by decide +kernel) (Nat.le_of_ble_eq_true rfl) ?_
  intro p e s m args below meth c ls hC hr hlk hnm hX hKX hl
  obtain ⟨hsz, hP⟩ := hX
  have hx := hC.1
  have hb := hC.2.1
  have hS : va_S (va_A [(h0, .inr (3, [.null, .int 0]))] sz) s.heap s.heap [] := va_S.rf
  have hA : ∀ q, s.heap.size ≤ q → (va_A [(h0, .inr (3, [.null, .int 0]))] sz) q := fun q h => Or.inr (by rw [← hsz]; exact h)
  have hD : va_D (va_A [(h0, .inr (3, [.null, .int 0]))] sz) [(h0, .inr (3, [.null, .int 0]))] := va_D1
  have hl : lv_has ls 2 [(0, .ref h0), (1, .int (nI n))] := hl
  refine lv_aload_n hx hb dX4_init_0 rfl (lv_at hl 0 rfl) ?_
  refine W.objInit hx hb hC.2.2.2.1 (tA hC.2.2.2.2 a_53) (tA hC.2.2.2.2 a_42) (tA hC.2.2.2.2 a_43) rfl (by rw [hC.2.2.1]; exact hl.1) rfl dX4_init_1 (Nat.le_of_ble_eq_true rfl) (Nat.le_of_ble_eq_true rfl) ?_
  refine W.eq (g2 := F0 m 4 ls []) rfl ?_
  refine lv_aload_n hx hb dX4_init_4 rfl (lv_at hl 0 rfl) ?_
  refine lv_iload_n hx hb dX4_init_5 rfl (lv_at hl 1 rfl) ?_
  refine lv_if_ge (tgt := 13) hx hb dX4_init_6 (by decide) (fun _ => ?_) (fun c9 => absurd (nI_pos' (by omega)) c9)
  refine lv_iload_n hx hb dX4_init_13 rfl (lv_at hl 1 rfl) ?_
  refine l_newI (N := n) hx hb a_61 hC hKX.1 hP hD hS hA (nI_pos (by omega)) (nI_clamp (by omega)) (by omega) (Nat.le_of_ble_eq_true rfl) (by show 0 + n ≤ n; omega) dX4_init_14 (fun q1 H hP hD hS => ?_)
  have hP : va_P D vwCl [(h0, .inr (3, [.null, .int 0])), (q1, .inl (cA 0, n, .inl (fun _ => 0)))] H := hP
  have hD : va_D (va_A [(h0, .inr (3, [.null, .int 0]))] sz) [(h0, .inr (3, [.null, .int 0])), (q1, .inl (cA 0, n, .inl (fun _ => 0)))] := hD
  refine va_putF (D := D) (ci := 3) (v := .ref q1) (ty := (.array .int)) (C := RX4) (T := TX4) (N := 2) hx hb hC.2.2.2.2 (tU inX4) tyX4 tyX4_ok nmX4 hC.2.2.2.1 hKX.1 hP hD hS 0 rfl rfl 0 (by decide) (tA hC.2.2.2.2 a_54) (fun _ h9 => h9) rfl hnm rfl (by decide +kernel) rfl rfl (Nat.le_of_ble_eq_true rfl) dX4_init_16 (fun H locs hP hD hS => ?_)
  have hP : va_P D vwCl [(h0, .inr (3, [.ref q1, .int 0])), (q1, .inl (cA 0, n, .inl (fun _ => 0)))] H := hP
  have hD : va_D (va_A [(h0, .inr (3, [.null, .int 0]))] sz) [(h0, .inr (3, [.ref q1, .int 0])), (q1, .inl (cA 0, n, .inl (fun _ => 0)))] := hD
  refine W.widen (k := 1) (n := n) (Nat.le_of_ble_eq_true rfl) (by omega) ?_
  exact Ct_rv hx hb hr hlk ⟨q1, hP, hD⟩ hS dX4_init_19
theorem qi_X4 : VWi yX4_init cX4_init 2 1 := ⟨a_52, a_17, a_51, rfl, by decide +kernel, Nat.le_of_ble_eq_true rfl⟩

set_option maxRecDepth 100000 in
set_option maxHeartbeats 4000000 in
theorem c_X0_init {l : Launch} {D : va_G} {cA : Nat → ClassId} {h0 sz : Nat}  : Ct l D cA (va_A [(h0, .inr (0, [.int 0, .int 0, .int 0]))] sz) yX0_init cX0_init 1 none 1 0 0 [.ref h0] (fun H => H.size = sz ∧ va_P D vwCl [(h0, .inr (0, [.int 0, .int 0, .int 0]))] H) none (fun H => va_P D vwCl [(h0, .inr (0, [.int 0, .int (-1), .int (-1)]))] H ∧ va_D (va_A [(h0, .inr (0, [.int 0, .int 0, .int 0]))] sz) [(h0, .inr (0, [.int 0, .int (-1), .int (-1)]))]) := by
  refine Ct_of (by decide +kernel) (Nat.le_of_ble_eq_true rfl) ?_
  intro p e s m args below meth c ls hC hr hlk hnm hX hKX hl
  obtain ⟨hsz, hP⟩ := hX
  have hx := hC.1
  have hb := hC.2.1
  have hS : va_S (va_A [(h0, .inr (0, [.int 0, .int 0, .int 0]))] sz) s.heap s.heap [] := va_S.rf
  have hA : ∀ q, s.heap.size ≤ q → (va_A [(h0, .inr (0, [.int 0, .int 0, .int 0]))] sz) q := fun q h => Or.inr (by rw [← hsz]; exact h)
  have hD : va_D (va_A [(h0, .inr (0, [.int 0, .int 0, .int 0]))] sz) [(h0, .inr (0, [.int 0, .int 0, .int 0]))] := va_D1
  have hl : lv_has ls 1 [(0, .ref h0)] := hl
  refine lv_aload_n hx hb dX0_init_0 rfl (lv_at hl 0 rfl) ?_
  refine W.objInit hx hb hC.2.2.2.1 (tA hC.2.2.2.2 a_67) (tA hC.2.2.2.2 a_42) (tA hC.2.2.2.2 a_43) rfl (by rw [hC.2.2.1]; exact hl.1) rfl dX0_init_1 (Nat.le_of_ble_eq_true rfl) (Nat.le_of_ble_eq_true rfl) ?_
  refine W.eq (g2 := F0 m 4 ls []) rfl ?_
  refine lv_aload_n hx hb dX0_init_4 rfl (lv_at hl 0 rfl) ?_
  refine lv_iconst (v := (-1)) hx hb dX0_init_5 (by decide) ?_
  refine va_put (D := D) (ci := 0) (v := .int (-1)) (ty := .int) (C := RX0) (T := TX0) (N := 3) hx hb hC.2.2.2.2 (tU inX0) tyX0 tyX0_ok nmX0 hC.2.2.2.1 hKX.1 hP hD hS 0 rfl rfl 1 (by decide) (tA hC.2.2.2.2 a_70) (fun _ h9 => h9) rfl (by decide +kernel) rfl rfl (Nat.le_of_ble_eq_true rfl) dX0_init_6 (fun H locs hP hD hS => ?_)
  have hP : va_P D vwCl [(h0, .inr (0, [.int 0, .int (-1), .int 0]))] H := hP
  have hD : va_D (va_A [(h0, .inr (0, [.int 0, .int 0, .int 0]))] sz) [(h0, .inr (0, [.int 0, .int (-1), .int 0]))] := hD
  refine lv_aload_n hx hb dX0_init_9 rfl (lv_at hl 0 rfl) ?_
  refine lv_iconst (v := (-1)) hx hb dX0_init_10 (by decide) ?_
  refine va_put (D := D) (ci := 0) (v := .int (-1)) (ty := .int) (C := RX0) (T := TX0) (N := 3) hx hb hC.2.2.2.2 (tU inX0) tyX0 tyX0_ok nmX0 hC.2.2.2.1 hKX.1 hP hD hS 0 rfl rfl 2 (by decide) (tA hC.2.2.2.2 a_72) (fun _ h9 => h9) rfl (by decide +kernel) rfl rfl (Nat.le_of_ble_eq_true rfl) dX0_init_11 (fun H locs hP hD hS => ?_)
  have hP : va_P D vwCl [(h0, .inr (0, [.int 0, .int (-1), .int (-1)]))] H := hP
  have hD : va_D (va_A [(h0, .inr (0, [.int 0, .int 0, .int 0]))] sz) [(h0, .inr (0, [.int 0, .int (-1), .int (-1)]))] := hD
  refine W.widen (k := 0) (n := 0) (Nat.le_of_ble_eq_true rfl) (Nat.le_of_ble_eq_true rfl) ?_
  exact Ct_rv hx hb hr hlk ⟨hP, hD⟩ hS dX0_init_14
theorem qi_X0 : VWi yX0_init cX0_init 1 0 := ⟨a_66, a_18, a_65, rfl, by decide +kernel, Nat.le_of_ble_eq_true rfl⟩

set_option maxRecDepth 100000 in
set_option maxHeartbeats 4000000 in
theorem c_X8_init {l : Launch} {D : va_G} {cA : Nat → ClassId} {h0 sz : Nat}  : Ct l D cA (va_A [(h0, .inr (7, [.null, .null, .int 0, .int 0, .int 0, .int 0]))] sz) yX8_init cX8_init 1 none 1 2 18 [.ref h0] (fun H => H.size = sz ∧ va_P D vwCl [(h0, .inr (7, [.null, .null, .int 0, .int 0, .int 0, .int 0]))] H) none (fun H => ∃ q1 : Nat, ∃ q2 : Nat, va_P D vwCl [(h0, .inr (7, [.ref q1, .ref q2, .int 0, .int 0, .int 0, .int 0])), (q1, .inl (cA 0, 9, .inl (fun _ => 0))), (q2, .inl (cA 0, 9, .inl (fun _ => 0)))] H ∧ va_D (va_A [(h0, .inr (7, [.null, .null, .int 0, .int 0, .int 0, .int 0]))] sz) [(h0, .inr (7, [.ref q1, .ref q2, .int 0, .int 0, .int 0, .int 0])), (q1, .inl (cA 0, 9, .inl (fun _ => 0))), (q2, .inl (cA 0, 9, .inl (fun _ => 0)))]) := by
  refine Ct_of (by decide +kernel) (Nat.le_of_ble_eq_true rfl) ?_
  intro p e s m args below meth c ls hC hr hlk hnm hX hKX hl
  obtain ⟨hsz, hP⟩ := hX
  have hx := hC.1
  have hb := hC.2.1
  have hS : va_S (va_A [(h0, .inr (7, [.null, .null, .int 0, .int 0, .int 0, .int 0]))] sz) s.heap s.heap [] := va_S.rf
  have hA : ∀ q, s.heap.size ≤ q → (va_A [(h0, .inr (7, [.null, .null, .int 0, .int 0, .int 0, .int 0]))] sz) q := fun q h => Or.inr (by rw [← hsz]; exact h)
  have hD : va_D (va_A [(h0, .inr (7, [.null, .null, .int 0, .int 0, .int 0, .int 0]))] sz) [(h0, .inr (7, [.null, .null, .int 0, .int 0, .int 0, .int 0]))] := va_D1
  have hl : lv_has ls 1 [(0, .ref h0)] := hl
  refine lv_aload_n hx hb dX8_init_0 rfl (lv_at hl 0 rfl) ?_
  refine W.objInit hx hb hC.2.2.2.1 (tA hC.2.2.2.2 a_86) (tA hC.2.2.2.2 a_42) (tA hC.2.2.2.2 a_43) rfl (by rw [hC.2.2.1]; exact hl.1) rfl dX8_init_1 (Nat.le_of_ble_eq_true rfl) (Nat.le_of_ble_eq_true rfl) ?_
  refine W.eq (g2 := F0 m 4 ls []) rfl ?_
  refine lv_aload_n hx hb dX8_init_4 rfl (lv_at hl 0 rfl) ?_
  refine lv_bipush (v := 9) hx hb dX8_init_5 (by decide) ?_
  refine l_newI (N := 9) hx hb a_61 hC hKX.1 hP hD hS hA (by decide) (by decide) (by decide) (Nat.le_of_ble_eq_true rfl) (Nat.le_of_ble_eq_true rfl) dX8_init_7 (fun q1 H hP hD hS => ?_)
  have hP : va_P D vwCl [(h0, .inr (7, [.null, .null, .int 0, .int 0, .int 0, .int 0])), (q1, .inl (cA 0, 9, .inl (fun _ => 0)))] H := hP
  have hD : va_D (va_A [(h0, .inr (7, [.null, .null, .int 0, .int 0, .int 0, .int 0]))] sz) [(h0, .inr (7, [.null, .null, .int 0, .int 0, .int 0, .int 0])), (q1, .inl (cA 0, 9, .inl (fun _ => 0)))] := hD
  refine va_putF (D := D) (ci := 7) (v := .ref q1) (ty := (.array .int)) (C := RX8) (T := TX8) (N := 6) hx hb hC.2.2.2.2 (tU inX8) tyX8 tyX8_ok nmX8 hC.2.2.2.1 hKX.1 hP hD hS 0 rfl rfl 0 (by decide) (tA hC.2.2.2.2 a_87) (fun _ h9 => h9) rfl hnm rfl (by decide +kernel) rfl rfl (Nat.le_of_ble_eq_true rfl) dX8_init_9 (fun H locs hP hD hS => ?_)
  have hP : va_P D vwCl [(h0, .inr (7, [.ref q1, .null, .int 0, .int 0, .int 0, .int 0])), (q1, .inl (cA 0, 9, .inl (fun _ => 0)))] H := hP
  have hD : va_D (va_A [(h0, .inr (7, [.null, .null, .int 0, .int 0, .int 0, .int 0]))] sz) [(h0, .inr (7, [.ref q1, .null, .int 0, .int 0, .int 0, .int 0])), (q1, .inl (cA 0, 9, .inl (fun _ => 0)))] := hD
  refine lv_aload_n hx hb dX8_init_12 rfl (lv_at hl 0 rfl) ?_
  refine lv_bipush (v := 9) hx hb dX8_init_13 (by decide) ?_
  refine l_newI (N := 9) hx hb a_61 hC hKX.1 hP hD hS hA (by decide) (by decide) (by decide) (Nat.le_of_ble_eq_true rfl) (Nat.le_of_ble_eq_true rfl) dX8_init_15 (fun q2 H hP hD hS => ?_)
  have hP : va_P D vwCl [(h0, .inr (7, [.ref q1, .null, .int 0, .int 0, .int 0, .int 0])), (q1, .inl (cA 0, 9, .inl (fun _ => 0))), (q2, .inl (cA 0, 9, .inl (fun _ => 0)))] H := hP
  have hD : va_D (va_A [(h0, .inr (7, [.null, .null, .int 0, .int 0, .int 0, .int 0]))] sz) [(h0, .inr (7, [.ref q1, .null, .int 0, .int 0, .int 0, .int 0])), (q1, .inl (cA 0, 9, .inl (fun _ => 0))), (q2, .inl (cA 0, 9, .inl (fun _ => 0)))] := hD
  refine va_putF (D := D) (ci := 7) (v := .ref q2) (ty := (.array .int)) (C := RX8) (T := TX8) (N := 6) hx hb hC.2.2.2.2 (tU inX8) tyX8 tyX8_ok nmX8 hC.2.2.2.1 hKX.1 hP hD hS 0 rfl rfl 1 (by decide) (tA hC.2.2.2.2 a_88) (fun _ h9 => h9) rfl hnm rfl (by decide +kernel) rfl rfl (Nat.le_of_ble_eq_true rfl) dX8_init_17 (fun H locs hP hD hS => ?_)
  have hP : va_P D vwCl [(h0, .inr (7, [.ref q1, .ref q2, .int 0, .int 0, .int 0, .int 0])), (q1, .inl (cA 0, 9, .inl (fun _ => 0))), (q2, .inl (cA 0, 9, .inl (fun _ => 0)))] H := hP
  have hD : va_D (va_A [(h0, .inr (7, [.null, .null, .int 0, .int 0, .int 0, .int 0]))] sz) [(h0, .inr (7, [.ref q1, .ref q2, .int 0, .int 0, .int 0, .int 0])), (q1, .inl (cA 0, 9, .inl (fun _ => 0))), (q2, .inl (cA 0, 9, .inl (fun _ => 0)))] := hD
  refine W.widen (k := 2) (n := 18) (Nat.le_of_ble_eq_true rfl) (Nat.le_of_ble_eq_true rfl) ?_
  exact Ct_rv hx hb hr hlk ⟨q1, q2, hP, hD⟩ hS dX8_init_20
theorem qi_X8 : VWi yX8_init cX8_init 1 0 := ⟨a_85, a_19, a_84, rfl, by decide +kernel, Nat.le_of_ble_eq_true rfl⟩

set_option maxRecDepth 100000 in
set_option maxHeartbeats 4000000 in
theorem c_X10_init {l : Launch} {D : va_G} {cA : Nat → ClassId} {h0 sz : Nat}  : Ct l D cA (va_A [(h0, .inr (8, [.null, .int 0, .null, .int 0, .null, .null, .null, .null, .int 0]))] sz) yX10_init cX10_init 1 none 2 8 62 [.ref h0] (fun H => H.size = sz ∧ va_P D vwCl [(h0, .inr (8, [.null, .int 0, .null, .int 0, .null, .null, .null, .null, .int 0]))] H) none (fun H => ∃ q1 : Nat, ∃ q2 : Nat, ∃ q3 : Nat, ∃ q4 : Nat, ∃ q5 : Nat, ∃ q6 : Nat, ∃ q7 : Nat, ∃ q8 : Nat, va_P D vwCl [(h0, .inr (8, [.ref q1, .int 0, .ref q2, .int 0, .ref q3, .null, .ref q5, .ref q6, .int 0])), (q1, .inl (cA 3, 3, .inr (.inr (.inr (.inr (fun _ => none)))))), (q2, .inl (cA 4, 10, .inr (.inr (.inr (.inr (fun _ => none)))))), (q3, .inr (3, [.ref q4, .int 0])), (q4, .inl (cA 0, 20, .inl (fun _ => 0))), (q5, .inr (0, [.int 0, .int (-1), .int (-1)])), (q6, .inr (7, [.ref q7, .ref q8, .int 0, .int 0, .int 0, .int 0])), (q7, .inl (cA 0, 9, .inl (fun _ => 0))), (q8, .inl (cA 0, 9, .inl (fun _ => 0)))] H ∧ va_D (va_A [(h0, .inr (8, [.null, .int 0, .null, .int 0, .null, .null, .null, .null, .int 0]))] sz) [(h0, .inr (8, [.ref q1, .int 0, .ref q2, .int 0, .ref q3, .null, .ref q5, .ref q6, .int 0])), (q1, .inl (cA 3, 3, .inr (.inr (.inr (.inr (fun _ => none)))))), (q2, .inl (cA 4, 10, .inr (.inr (.inr (.inr (fun _ => none)))))), (q3, .inr (3, [.ref q4, .int 0])), (q4, .inl (cA 0, 20, .inl (fun _ => 0))), (q5, .inr (0, [.int 0, .int (-1), .int (-1)])), (q6, .inr (7, [.ref q7, .ref q8, .int 0, .int 0, .int 0, .int 0])), (q7, .inl (cA 0, 9, .inl (fun _ => 0))), (q8, .inl (cA 0, 9, .inl (fun _ => 0)))]) := by
  refine Ct_of (by decide +kernel) (Nat.le_of_ble_eq_true rfl) ?_
  intro p e s m args below meth c ls hC hr hlk hnm hX hKX hl
  obtain ⟨hsz, hP⟩ := hX
  have hx := hC.1
  have hb := hC.2.1
  have hS : va_S (va_A [(h0, .inr (8, [.null, .int 0, .null, .int 0, .null, .null, .null, .null, .int 0]))] sz) s.heap s.heap [] := va_S.rf
  have hA : ∀ q, s.heap.size ≤ q → (va_A [(h0, .inr (8, [.null, .int 0, .null, .int 0, .null, .null, .null, .null, .int 0]))] sz) q := fun q h => Or.inr (by rw [← hsz]; exact h)
  have hD : va_D (va_A [(h0, .inr (8, [.null, .int 0, .null, .int 0, .null, .null, .null, .null, .int 0]))] sz) [(h0, .inr (8, [.null, .int 0, .null, .int 0, .null, .null, .null, .null, .int 0]))] := va_D1
  have hl : lv_has ls 1 [(0, .ref h0)] := hl
  refine lv_aload_n hx hb dX10_init_0 rfl (lv_at hl 0 rfl) ?_
  refine W.objInit hx hb hC.2.2.2.1 (tA hC.2.2.2.2 a_41) (tA hC.2.2.2.2 a_42) (tA hC.2.2.2.2 a_43) rfl (by rw [hC.2.2.1]; exact hl.1) rfl dX10_init_1 (Nat.le_of_ble_eq_true rfl) (Nat.le_of_ble_eq_true rfl) ?_
  refine W.eq (g2 := F0 m 4 ls []) rfl ?_
  refine lv_aload_n hx hb dX10_init_4 rfl (lv_at hl 0 rfl) ?_
  refine lv_iconst (v := 3) hx hb dX10_init_5 (by decide) ?_
  refine l_newQ3 (N := 3) hx hb a_44 hC hKX hP hD hS hA (by decide) (by decide) (by decide) (Nat.le_of_ble_eq_true rfl) (Nat.le_of_ble_eq_true rfl) dX10_init_6 (fun q1 H hP hD hS => ?_)
  have hP : va_P D vwCl [(h0, .inr (8, [.null, .int 0, .null, .int 0, .null, .null, .null, .null, .int 0])), (q1, .inl (cA 3, 3, .inr (.inr (.inr (.inr (fun _ => none))))))] H := hP
  have hD : va_D (va_A [(h0, .inr (8, [.null, .int 0, .null, .int 0, .null, .null, .null, .null, .int 0]))] sz) [(h0, .inr (8, [.null, .int 0, .null, .int 0, .null, .null, .null, .null, .int 0])), (q1, .inl (cA 3, 3, .inr (.inr (.inr (.inr (fun _ => none))))))] := hD
  refine va_putF (D := D) (ci := 8) (v := .ref q1) (ty := (.array (.object "Lensbench$Table"))) (C := RX10) (T := TX10) (N := 9) hx hb hC.2.2.2.2 (tU inX10) tyX10 tyX10_ok nmX10 hC.2.2.2.1 hKX.1 hP hD hS 0 rfl rfl 0 (by decide) (tA hC.2.2.2.2 a_106) (fun _ h9 => h9) rfl hnm rfl (by decide +kernel) rfl rfl (Nat.le_of_ble_eq_true rfl) dX10_init_9 (fun H locs hP hD hS => ?_)
  have hP : va_P D vwCl [(h0, .inr (8, [.ref q1, .int 0, .null, .int 0, .null, .null, .null, .null, .int 0])), (q1, .inl (cA 3, 3, .inr (.inr (.inr (.inr (fun _ => none))))))] H := hP
  have hD : va_D (va_A [(h0, .inr (8, [.null, .int 0, .null, .int 0, .null, .null, .null, .null, .int 0]))] sz) [(h0, .inr (8, [.ref q1, .int 0, .null, .int 0, .null, .null, .null, .null, .int 0])), (q1, .inl (cA 3, 3, .inr (.inr (.inr (.inr (fun _ => none))))))] := hD
  refine lv_aload_n hx hb dX10_init_12 rfl (lv_at hl 0 rfl) ?_
  refine lv_bipush (v := 10) hx hb dX10_init_13 (by decide) ?_
  refine l_newQ4 (N := 10) hx hb a_46 hC hKX hP hD hS hA (by decide) (by decide) (by decide) (Nat.le_of_ble_eq_true rfl) (Nat.le_of_ble_eq_true rfl) dX10_init_15 (fun q2 H hP hD hS => ?_)
  have hP : va_P D vwCl [(h0, .inr (8, [.ref q1, .int 0, .null, .int 0, .null, .null, .null, .null, .int 0])), (q1, .inl (cA 3, 3, .inr (.inr (.inr (.inr (fun _ => none)))))), (q2, .inl (cA 4, 10, .inr (.inr (.inr (.inr (fun _ => none))))))] H := hP
  have hD : va_D (va_A [(h0, .inr (8, [.null, .int 0, .null, .int 0, .null, .null, .null, .null, .int 0]))] sz) [(h0, .inr (8, [.ref q1, .int 0, .null, .int 0, .null, .null, .null, .null, .int 0])), (q1, .inl (cA 3, 3, .inr (.inr (.inr (.inr (fun _ => none)))))), (q2, .inl (cA 4, 10, .inr (.inr (.inr (.inr (fun _ => none))))))] := hD
  refine va_putF (D := D) (ci := 8) (v := .ref q2) (ty := (.array (.object "Lensbench$View"))) (C := RX10) (T := TX10) (N := 9) hx hb hC.2.2.2.2 (tU inX10) tyX10 tyX10_ok nmX10 hC.2.2.2.1 hKX.1 hP hD hS 0 rfl rfl 2 (by decide) (tA hC.2.2.2.2 a_108) (fun _ h9 => h9) rfl hnm rfl (by decide +kernel) rfl rfl (Nat.le_of_ble_eq_true rfl) dX10_init_18 (fun H locs hP hD hS => ?_)
  have hP : va_P D vwCl [(h0, .inr (8, [.ref q1, .int 0, .ref q2, .int 0, .null, .null, .null, .null, .int 0])), (q1, .inl (cA 3, 3, .inr (.inr (.inr (.inr (fun _ => none)))))), (q2, .inl (cA 4, 10, .inr (.inr (.inr (.inr (fun _ => none))))))] H := hP
  have hD : va_D (va_A [(h0, .inr (8, [.null, .int 0, .null, .int 0, .null, .null, .null, .null, .int 0]))] sz) [(h0, .inr (8, [.ref q1, .int 0, .ref q2, .int 0, .null, .null, .null, .null, .int 0])), (q1, .inl (cA 3, 3, .inr (.inr (.inr (.inr (fun _ => none)))))), (q2, .inl (cA 4, 10, .inr (.inr (.inr (.inr (fun _ => none))))))] := hD
  refine lv_aload_n hx hb dX10_init_21 rfl (lv_at hl 0 rfl) ?_
  refine va_new (ci := 3) (fs := [.null, .int 0]) (C := RX4) (T := TX4) (N := 2) hx hb hC.2.2.2.2 (tU inX4) tyX4 tyX4_ok hC.2.2.2.1 (tA hC.2.2.2.2 a_48) (tA hC.2.2.2.2 a_49) (tA hC.2.2.2.2 a_17) hKX.1 hP hD hS hA rfl dfX4 (Nat.le_of_ble_eq_true rfl) (Nat.le_of_ble_eq_true rfl) dX10_init_22 (fun q3 H hP hD hS => ?_)
  have hP : va_P D vwCl [(h0, .inr (8, [.ref q1, .int 0, .ref q2, .int 0, .null, .null, .null, .null, .int 0])), (q1, .inl (cA 3, 3, .inr (.inr (.inr (.inr (fun _ => none)))))), (q2, .inl (cA 4, 10, .inr (.inr (.inr (.inr (fun _ => none)))))), (q3, .inr (3, [.null, .int 0]))] H := hP
  have hD : va_D (va_A [(h0, .inr (8, [.null, .int 0, .null, .int 0, .null, .null, .null, .null, .int 0]))] sz) [(h0, .inr (8, [.ref q1, .int 0, .ref q2, .int 0, .null, .null, .null, .null, .int 0])), (q1, .inl (cA 3, 3, .inr (.inr (.inr (.inr (fun _ => none)))))), (q2, .inl (cA 4, 10, .inr (.inr (.inr (.inr (fun _ => none)))))), (q3, .inr (3, [.null, .int 0]))] := hD
  refine lv_dup hx hb dX10_init_25 rfl ?_
  refine lv_bipush (v := 20) hx hb dX10_init_26 (by decide) ?_
  have hPc := hP.sub (ws' := [(q3, .inr (3, [.null, .int 0]))]) [3] rfl
  have hFc := va_free (wc := [(q3, .inr (3, [.null, .int 0]))]) hD hS hA [3] rfl
  refine Ct_I (As := [.int 20]) (rest := [.ref q3, .ref h0]) hC (c_X4_init (n := 20) (by decide)) qi_X4 a_50 (Nat.le_of_ble_eq_true rfl) ⟨rfl, hPc⟩ hKX rfl hl.1 (Nat.le_of_ble_eq_true rfl) dX10_init_28 ⟨(Nat.le_of_ble_eq_true rfl), (Nat.le_of_ble_eq_true rfl)⟩ hS hFc (fun H1 locs hQ hz1 hk1 hS => ?_)
  obtain ⟨q4, hP1, hD1⟩ := hQ
  obtain ⟨hP, hD⟩ := va_join (wr := [(h0, .inr (8, [.ref q1, .int 0, .ref q2, .int 0, .null, .null, .null, .null, .int 0])), (q1, .inl (cA 3, 3, .inr (.inr (.inr (.inr (fun _ => none)))))), (q2, .inl (cA 4, 10, .inr (.inr (.inr (.inr (fun _ => none))))))]) (w1 := [(q3, .inr (3, [.ref q4, .int 0])), (q4, .inl (cA 0, 20, .inl (fun _ => 0)))]) hP hD [3] [0, 1, 2] rfl rfl (by decide) (by decide) hk1 hFc hP1 hD1
  generalize H1 = H at hP hS ⊢
  have hP : va_P D vwCl [(h0, .inr (8, [.ref q1, .int 0, .ref q2, .int 0, .null, .null, .null, .null, .int 0])), (q1, .inl (cA 3, 3, .inr (.inr (.inr (.inr (fun _ => none)))))), (q2, .inl (cA 4, 10, .inr (.inr (.inr (.inr (fun _ => none)))))), (q3, .inr (3, [.ref q4, .int 0])), (q4, .inl (cA 0, 20, .inl (fun _ => 0)))] H := hP
  have hD : va_D (va_A [(h0, .inr (8, [.null, .int 0, .null, .int 0, .null, .null, .null, .null, .int 0]))] sz) [(h0, .inr (8, [.ref q1, .int 0, .ref q2, .int 0, .null, .null, .null, .null, .int 0])), (q1, .inl (cA 3, 3, .inr (.inr (.inr (.inr (fun _ => none)))))), (q2, .inl (cA 4, 10, .inr (.inr (.inr (.inr (fun _ => none)))))), (q3, .inr (3, [.ref q4, .int 0])), (q4, .inl (cA 0, 20, .inl (fun _ => 0)))] := hD
  refine va_putF (D := D) (ci := 8) (v := .ref q3) (ty := (.object "Lensbench$Rows")) (C := RX10) (T := TX10) (N := 9) hx hb hC.2.2.2.2 (tU inX10) tyX10 tyX10_ok nmX10 hC.2.2.2.1 hKX.1 hP hD hS 0 rfl rfl 4 (by decide) (tA hC.2.2.2.2 a_110) (fun _ h9 => h9) rfl hnm rfl (by decide +kernel) rfl rfl (Nat.le_of_ble_eq_true rfl) dX10_init_31 (fun H locs hP hD hS => ?_)
  have hP : va_P D vwCl [(h0, .inr (8, [.ref q1, .int 0, .ref q2, .int 0, .ref q3, .null, .null, .null, .int 0])), (q1, .inl (cA 3, 3, .inr (.inr (.inr (.inr (fun _ => none)))))), (q2, .inl (cA 4, 10, .inr (.inr (.inr (.inr (fun _ => none)))))), (q3, .inr (3, [.ref q4, .int 0])), (q4, .inl (cA 0, 20, .inl (fun _ => 0)))] H := hP
  have hD : va_D (va_A [(h0, .inr (8, [.null, .int 0, .null, .int 0, .null, .null, .null, .null, .int 0]))] sz) [(h0, .inr (8, [.ref q1, .int 0, .ref q2, .int 0, .ref q3, .null, .null, .null, .int 0])), (q1, .inl (cA 3, 3, .inr (.inr (.inr (.inr (fun _ => none)))))), (q2, .inl (cA 4, 10, .inr (.inr (.inr (.inr (fun _ => none)))))), (q3, .inr (3, [.ref q4, .int 0])), (q4, .inl (cA 0, 20, .inl (fun _ => 0)))] := hD
  refine lv_aload_n hx hb dX10_init_34 rfl (lv_at hl 0 rfl) ?_
  refine va_new (ci := 0) (fs := [.int 0, .int 0, .int 0]) (C := RX0) (T := TX0) (N := 3) hx hb hC.2.2.2.2 (tU inX0) tyX0 tyX0_ok hC.2.2.2.1 (tA hC.2.2.2.2 a_62) (tA hC.2.2.2.2 a_63) (tA hC.2.2.2.2 a_18) hKX.1 hP hD hS hA rfl dfX0 (Nat.le_of_ble_eq_true rfl) (Nat.le_of_ble_eq_true rfl) dX10_init_35 (fun q5 H hP hD hS => ?_)
  have hP : va_P D vwCl [(h0, .inr (8, [.ref q1, .int 0, .ref q2, .int 0, .ref q3, .null, .null, .null, .int 0])), (q1, .inl (cA 3, 3, .inr (.inr (.inr (.inr (fun _ => none)))))), (q2, .inl (cA 4, 10, .inr (.inr (.inr (.inr (fun _ => none)))))), (q3, .inr (3, [.ref q4, .int 0])), (q4, .inl (cA 0, 20, .inl (fun _ => 0))), (q5, .inr (0, [.int 0, .int 0, .int 0]))] H := hP
  have hD : va_D (va_A [(h0, .inr (8, [.null, .int 0, .null, .int 0, .null, .null, .null, .null, .int 0]))] sz) [(h0, .inr (8, [.ref q1, .int 0, .ref q2, .int 0, .ref q3, .null, .null, .null, .int 0])), (q1, .inl (cA 3, 3, .inr (.inr (.inr (.inr (fun _ => none)))))), (q2, .inl (cA 4, 10, .inr (.inr (.inr (.inr (fun _ => none)))))), (q3, .inr (3, [.ref q4, .int 0])), (q4, .inl (cA 0, 20, .inl (fun _ => 0))), (q5, .inr (0, [.int 0, .int 0, .int 0]))] := hD
  refine lv_dup hx hb dX10_init_38 rfl ?_
  have hPc := hP.sub (ws' := [(q5, .inr (0, [.int 0, .int 0, .int 0]))]) [5] rfl
  have hFc := va_free (wc := [(q5, .inr (0, [.int 0, .int 0, .int 0]))]) hD hS hA [5] rfl
  refine Ct_IN (As := []) (rest := [.ref q5, .ref h0]) hC c_X0_init qi_X0 hKX.2.2.1.1 (Nat.le_of_ble_eq_true rfl) ⟨rfl, hPc⟩ hKX rfl hl.1 (Nat.le_of_ble_eq_true rfl) dX10_init_39 ⟨(Nat.le_of_ble_eq_true rfl), (Nat.le_of_ble_eq_true rfl)⟩ hS hFc (fun H1 locs hQ hz1 hk1 hS => ?_)
  obtain ⟨hP1, hD1⟩ := hQ
  obtain ⟨hP, hD⟩ := va_join (wr := [(h0, .inr (8, [.ref q1, .int 0, .ref q2, .int 0, .ref q3, .null, .null, .null, .int 0])), (q1, .inl (cA 3, 3, .inr (.inr (.inr (.inr (fun _ => none)))))), (q2, .inl (cA 4, 10, .inr (.inr (.inr (.inr (fun _ => none)))))), (q3, .inr (3, [.ref q4, .int 0])), (q4, .inl (cA 0, 20, .inl (fun _ => 0)))]) (w1 := [(q5, .inr (0, [.int 0, .int (-1), .int (-1)]))]) hP hD [5] [0, 1, 2, 3, 4] rfl rfl (by decide) (by decide) hk1 hFc hP1 hD1
  generalize H1 = H at hP hS ⊢
  have hP : va_P D vwCl [(h0, .inr (8, [.ref q1, .int 0, .ref q2, .int 0, .ref q3, .null, .null, .null, .int 0])), (q1, .inl (cA 3, 3, .inr (.inr (.inr (.inr (fun _ => none)))))), (q2, .inl (cA 4, 10, .inr (.inr (.inr (.inr (fun _ => none)))))), (q3, .inr (3, [.ref q4, .int 0])), (q4, .inl (cA 0, 20, .inl (fun _ => 0))), (q5, .inr (0, [.int 0, .int (-1), .int (-1)]))] H := hP
  have hD : va_D (va_A [(h0, .inr (8, [.null, .int 0, .null, .int 0, .null, .null, .null, .null, .int 0]))] sz) [(h0, .inr (8, [.ref q1, .int 0, .ref q2, .int 0, .ref q3, .null, .null, .null, .int 0])), (q1, .inl (cA 3, 3, .inr (.inr (.inr (.inr (fun _ => none)))))), (q2, .inl (cA 4, 10, .inr (.inr (.inr (.inr (fun _ => none)))))), (q3, .inr (3, [.ref q4, .int 0])), (q4, .inl (cA 0, 20, .inl (fun _ => 0))), (q5, .inr (0, [.int 0, .int (-1), .int (-1)]))] := hD
  refine va_putF (D := D) (ci := 8) (v := .ref q5) (ty := (.object "Lensbench$Conflict")) (C := RX10) (T := TX10) (N := 9) hx hb hC.2.2.2.2 (tU inX10) tyX10 tyX10_ok nmX10 hC.2.2.2.1 hKX.1 hP hD hS 0 rfl rfl 6 (by decide) (tA hC.2.2.2.2 a_112) (fun _ h9 => h9) rfl hnm rfl (by decide +kernel) rfl rfl (Nat.le_of_ble_eq_true rfl) dX10_init_42 (fun H locs hP hD hS => ?_)
  have hP : va_P D vwCl [(h0, .inr (8, [.ref q1, .int 0, .ref q2, .int 0, .ref q3, .null, .ref q5, .null, .int 0])), (q1, .inl (cA 3, 3, .inr (.inr (.inr (.inr (fun _ => none)))))), (q2, .inl (cA 4, 10, .inr (.inr (.inr (.inr (fun _ => none)))))), (q3, .inr (3, [.ref q4, .int 0])), (q4, .inl (cA 0, 20, .inl (fun _ => 0))), (q5, .inr (0, [.int 0, .int (-1), .int (-1)]))] H := hP
  have hD : va_D (va_A [(h0, .inr (8, [.null, .int 0, .null, .int 0, .null, .null, .null, .null, .int 0]))] sz) [(h0, .inr (8, [.ref q1, .int 0, .ref q2, .int 0, .ref q3, .null, .ref q5, .null, .int 0])), (q1, .inl (cA 3, 3, .inr (.inr (.inr (.inr (fun _ => none)))))), (q2, .inl (cA 4, 10, .inr (.inr (.inr (.inr (fun _ => none)))))), (q3, .inr (3, [.ref q4, .int 0])), (q4, .inl (cA 0, 20, .inl (fun _ => 0))), (q5, .inr (0, [.int 0, .int (-1), .int (-1)]))] := hD
  refine lv_aload_n hx hb dX10_init_45 rfl (lv_at hl 0 rfl) ?_
  refine va_new (ci := 7) (fs := [.null, .null, .int 0, .int 0, .int 0, .int 0]) (C := RX8) (T := TX8) (N := 6) hx hb hC.2.2.2.2 (tU inX8) tyX8 tyX8_ok hC.2.2.2.1 (tA hC.2.2.2.2 a_81) (tA hC.2.2.2.2 a_82) (tA hC.2.2.2.2 a_19) hKX.1 hP hD hS hA rfl dfX8 (Nat.le_of_ble_eq_true rfl) (Nat.le_of_ble_eq_true rfl) dX10_init_46 (fun q6 H hP hD hS => ?_)
  have hP : va_P D vwCl [(h0, .inr (8, [.ref q1, .int 0, .ref q2, .int 0, .ref q3, .null, .ref q5, .null, .int 0])), (q1, .inl (cA 3, 3, .inr (.inr (.inr (.inr (fun _ => none)))))), (q2, .inl (cA 4, 10, .inr (.inr (.inr (.inr (fun _ => none)))))), (q3, .inr (3, [.ref q4, .int 0])), (q4, .inl (cA 0, 20, .inl (fun _ => 0))), (q5, .inr (0, [.int 0, .int (-1), .int (-1)])), (q6, .inr (7, [.null, .null, .int 0, .int 0, .int 0, .int 0]))] H := hP
  have hD : va_D (va_A [(h0, .inr (8, [.null, .int 0, .null, .int 0, .null, .null, .null, .null, .int 0]))] sz) [(h0, .inr (8, [.ref q1, .int 0, .ref q2, .int 0, .ref q3, .null, .ref q5, .null, .int 0])), (q1, .inl (cA 3, 3, .inr (.inr (.inr (.inr (fun _ => none)))))), (q2, .inl (cA 4, 10, .inr (.inr (.inr (.inr (fun _ => none)))))), (q3, .inr (3, [.ref q4, .int 0])), (q4, .inl (cA 0, 20, .inl (fun _ => 0))), (q5, .inr (0, [.int 0, .int (-1), .int (-1)])), (q6, .inr (7, [.null, .null, .int 0, .int 0, .int 0, .int 0]))] := hD
  refine lv_dup hx hb dX10_init_49 rfl ?_
  have hPc := hP.sub (ws' := [(q6, .inr (7, [.null, .null, .int 0, .int 0, .int 0, .int 0]))]) [6] rfl
  have hFc := va_free (wc := [(q6, .inr (7, [.null, .null, .int 0, .int 0, .int 0, .int 0]))]) hD hS hA [6] rfl
  refine Ct_IN (As := []) (rest := [.ref q6, .ref h0]) hC c_X8_init qi_X8 hKX.2.2.1.2 (Nat.le_of_ble_eq_true rfl) ⟨rfl, hPc⟩ hKX rfl hl.1 (Nat.le_of_ble_eq_true rfl) dX10_init_50 ⟨(Nat.le_of_ble_eq_true rfl), (Nat.le_of_ble_eq_true rfl)⟩ hS hFc (fun H1 locs hQ hz1 hk1 hS => ?_)
  obtain ⟨q7, q8, hP1, hD1⟩ := hQ
  obtain ⟨hP, hD⟩ := va_join (wr := [(h0, .inr (8, [.ref q1, .int 0, .ref q2, .int 0, .ref q3, .null, .ref q5, .null, .int 0])), (q1, .inl (cA 3, 3, .inr (.inr (.inr (.inr (fun _ => none)))))), (q2, .inl (cA 4, 10, .inr (.inr (.inr (.inr (fun _ => none)))))), (q3, .inr (3, [.ref q4, .int 0])), (q4, .inl (cA 0, 20, .inl (fun _ => 0))), (q5, .inr (0, [.int 0, .int (-1), .int (-1)]))]) (w1 := [(q6, .inr (7, [.ref q7, .ref q8, .int 0, .int 0, .int 0, .int 0])), (q7, .inl (cA 0, 9, .inl (fun _ => 0))), (q8, .inl (cA 0, 9, .inl (fun _ => 0)))]) hP hD [6] [0, 1, 2, 3, 4, 5] rfl rfl (by decide) (by decide) hk1 hFc hP1 hD1
  generalize H1 = H at hP hS ⊢
  have hP : va_P D vwCl [(h0, .inr (8, [.ref q1, .int 0, .ref q2, .int 0, .ref q3, .null, .ref q5, .null, .int 0])), (q1, .inl (cA 3, 3, .inr (.inr (.inr (.inr (fun _ => none)))))), (q2, .inl (cA 4, 10, .inr (.inr (.inr (.inr (fun _ => none)))))), (q3, .inr (3, [.ref q4, .int 0])), (q4, .inl (cA 0, 20, .inl (fun _ => 0))), (q5, .inr (0, [.int 0, .int (-1), .int (-1)])), (q6, .inr (7, [.ref q7, .ref q8, .int 0, .int 0, .int 0, .int 0])), (q7, .inl (cA 0, 9, .inl (fun _ => 0))), (q8, .inl (cA 0, 9, .inl (fun _ => 0)))] H := hP
  have hD : va_D (va_A [(h0, .inr (8, [.null, .int 0, .null, .int 0, .null, .null, .null, .null, .int 0]))] sz) [(h0, .inr (8, [.ref q1, .int 0, .ref q2, .int 0, .ref q3, .null, .ref q5, .null, .int 0])), (q1, .inl (cA 3, 3, .inr (.inr (.inr (.inr (fun _ => none)))))), (q2, .inl (cA 4, 10, .inr (.inr (.inr (.inr (fun _ => none)))))), (q3, .inr (3, [.ref q4, .int 0])), (q4, .inl (cA 0, 20, .inl (fun _ => 0))), (q5, .inr (0, [.int 0, .int (-1), .int (-1)])), (q6, .inr (7, [.ref q7, .ref q8, .int 0, .int 0, .int 0, .int 0])), (q7, .inl (cA 0, 9, .inl (fun _ => 0))), (q8, .inl (cA 0, 9, .inl (fun _ => 0)))] := hD
  refine va_putF (D := D) (ci := 8) (v := .ref q6) (ty := (.object "Lensbench$Trials")) (C := RX10) (T := TX10) (N := 9) hx hb hC.2.2.2.2 (tU inX10) tyX10 tyX10_ok nmX10 hC.2.2.2.1 hKX.1 hP hD hS 0 rfl rfl 7 (by decide) (tA hC.2.2.2.2 a_113) (fun _ h9 => h9) rfl hnm rfl (by decide +kernel) rfl rfl (Nat.le_of_ble_eq_true rfl) dX10_init_53 (fun H locs hP hD hS => ?_)
  have hP : va_P D vwCl [(h0, .inr (8, [.ref q1, .int 0, .ref q2, .int 0, .ref q3, .null, .ref q5, .ref q6, .int 0])), (q1, .inl (cA 3, 3, .inr (.inr (.inr (.inr (fun _ => none)))))), (q2, .inl (cA 4, 10, .inr (.inr (.inr (.inr (fun _ => none)))))), (q3, .inr (3, [.ref q4, .int 0])), (q4, .inl (cA 0, 20, .inl (fun _ => 0))), (q5, .inr (0, [.int 0, .int (-1), .int (-1)])), (q6, .inr (7, [.ref q7, .ref q8, .int 0, .int 0, .int 0, .int 0])), (q7, .inl (cA 0, 9, .inl (fun _ => 0))), (q8, .inl (cA 0, 9, .inl (fun _ => 0)))] H := hP
  have hD : va_D (va_A [(h0, .inr (8, [.null, .int 0, .null, .int 0, .null, .null, .null, .null, .int 0]))] sz) [(h0, .inr (8, [.ref q1, .int 0, .ref q2, .int 0, .ref q3, .null, .ref q5, .ref q6, .int 0])), (q1, .inl (cA 3, 3, .inr (.inr (.inr (.inr (fun _ => none)))))), (q2, .inl (cA 4, 10, .inr (.inr (.inr (.inr (fun _ => none)))))), (q3, .inr (3, [.ref q4, .int 0])), (q4, .inl (cA 0, 20, .inl (fun _ => 0))), (q5, .inr (0, [.int 0, .int (-1), .int (-1)])), (q6, .inr (7, [.ref q7, .ref q8, .int 0, .int 0, .int 0, .int 0])), (q7, .inl (cA 0, 9, .inl (fun _ => 0))), (q8, .inl (cA 0, 9, .inl (fun _ => 0)))] := hD
  refine W.widen (k := 8) (n := 62) (Nat.le_of_ble_eq_true rfl) (Nat.le_of_ble_eq_true rfl) ?_
  exact Ct_rv hx hb hr hlk ⟨q1, q2, q3, q4, q5, q6, q7, q8, hP, hD⟩ hS dX10_init_56
theorem qi_X10 : VWi yX10_init cX10_init 1 0 := ⟨a_40, a_16, a_39, rfl, by decide +kernel, Nat.le_of_ble_eq_true rfl⟩

set_option maxRecDepth 100000 in
set_option maxHeartbeats 4000000 in
theorem c_X6_init {l : Launch} {D : va_G} {cA : Nat → ClassId} {h0 sz : Nat} {x1 x2 : Int32} : Ct l D cA (va_A [(h0, .inr (5, [.int 0, .int 0, .null, .null, .null]))] sz) yX6_init cX6_init 4 none 2 15 103 [.ref h0, .int x1, .int x2] (fun H => H.size = sz ∧ va_P D vwCl [(h0, .inr (5, [.int 0, .int 0, .null, .null, .null]))] H) none (fun H => ∃ q1 : Nat, ∃ q2 : Nat, ∃ q3 : Nat, ∃ q4 : Nat, ∃ q5 : Nat, ∃ q6 : Nat, ∃ q7 : Nat, ∃ q8 : Nat, ∃ q9 : Nat, ∃ q10 : Nat, ∃ q11 : Nat, ∃ q12 : Nat, ∃ q13 : Nat, ∃ q14 : Nat, ∃ q15 : Nat, va_P D vwCl [(h0, .inr (5, [.int x1, .int x2, .ref q1, .ref q3, .ref q5])), (q1, .inr (3, [.ref q2, .int 0])), (q2, .inl (cA 0, 12, .inl (fun _ => 0))), (q3, .inr (3, [.ref q4, .int 0])), (q4, .inl (cA 0, 12, .inl (fun _ => 0))), (q5, .inl (cA 5, 5, .inr (.inr (.inr (.inr (va_up (va_up (va_up (va_up (va_up (fun _ => none) 0 (some q6)) 1 (some q8)) 2 (some q10)) 3 (some q12)) 4 (some q14))))))), (q6, .inr (3, [.ref q7, .int 0])), (q7, .inl (cA 0, 12, .inl (fun _ => 0))), (q8, .inr (3, [.ref q9, .int 0])), (q9, .inl (cA 0, 12, .inl (fun _ => 0))), (q10, .inr (3, [.ref q11, .int 0])), (q11, .inl (cA 0, 12, .inl (fun _ => 0))), (q12, .inr (3, [.ref q13, .int 0])), (q13, .inl (cA 0, 12, .inl (fun _ => 0))), (q14, .inr (3, [.ref q15, .int 0])), (q15, .inl (cA 0, 12, .inl (fun _ => 0)))] H ∧ va_D (va_A [(h0, .inr (5, [.int 0, .int 0, .null, .null, .null]))] sz) [(h0, .inr (5, [.int x1, .int x2, .ref q1, .ref q3, .ref q5])), (q1, .inr (3, [.ref q2, .int 0])), (q2, .inl (cA 0, 12, .inl (fun _ => 0))), (q3, .inr (3, [.ref q4, .int 0])), (q4, .inl (cA 0, 12, .inl (fun _ => 0))), (q5, .inl (cA 5, 5, .inr (.inr (.inr (.inr (va_up (va_up (va_up (va_up (va_up (fun _ => none) 0 (some q6)) 1 (some q8)) 2 (some q10)) 3 (some q12)) 4 (some q14))))))), (q6, .inr (3, [.ref q7, .int 0])), (q7, .inl (cA 0, 12, .inl (fun _ => 0))), (q8, .inr (3, [.ref q9, .int 0])), (q9, .inl (cA 0, 12, .inl (fun _ => 0))), (q10, .inr (3, [.ref q11, .int 0])), (q11, .inl (cA 0, 12, .inl (fun _ => 0))), (q12, .inr (3, [.ref q13, .int 0])), (q13, .inl (cA 0, 12, .inl (fun _ => 0))), (q14, .inr (3, [.ref q15, .int 0])), (q15, .inl (cA 0, 12, .inl (fun _ => 0)))]) := by
  refine Ct_of (by decide +kernel) (Nat.le_of_ble_eq_true rfl) ?_
  intro p e s m args below meth c ls hC hr hlk hnm hX hKX hl
  obtain ⟨hsz, hP⟩ := hX
  have hx := hC.1
  have hb := hC.2.1
  have hS : va_S (va_A [(h0, .inr (5, [.int 0, .int 0, .null, .null, .null]))] sz) s.heap s.heap [] := va_S.rf
  have hA : ∀ q, s.heap.size ≤ q → (va_A [(h0, .inr (5, [.int 0, .int 0, .null, .null, .null]))] sz) q := fun q h => Or.inr (by rw [← hsz]; exact h)
  have hD : va_D (va_A [(h0, .inr (5, [.int 0, .int 0, .null, .null, .null]))] sz) [(h0, .inr (5, [.int 0, .int 0, .null, .null, .null]))] := va_D1
  have hl : lv_has ls 4 [(0, .ref h0), (1, .int x1), (2, .int x2)] := hl
  refine lv_aload_n hx hb dX6_init_0 rfl (lv_at hl 0 rfl) ?_
  refine W.objInit hx hb hC.2.2.2.1 (tA hC.2.2.2.2 a_904) (tA hC.2.2.2.2 a_42) (tA hC.2.2.2.2 a_43) rfl (by rw [hC.2.2.1]; exact hl.1) rfl dX6_init_1 (Nat.le_of_ble_eq_true rfl) (Nat.le_of_ble_eq_true rfl) ?_
  refine W.eq (g2 := F0 m 4 ls []) rfl ?_
  refine lv_aload_n hx hb dX6_init_4 rfl (lv_at hl 0 rfl) ?_
  refine va_new (ci := 3) (fs := [.null, .int 0]) (C := RX4) (T := TX4) (N := 2) hx hb hC.2.2.2.2 (tU inX4) tyX4 tyX4_ok hC.2.2.2.1 (tA hC.2.2.2.2 a_905) (tA hC.2.2.2.2 a_49) (tA hC.2.2.2.2 a_17) hKX.1 hP hD hS hA rfl dfX4 (Nat.le_of_ble_eq_true rfl) (Nat.le_of_ble_eq_true rfl) dX6_init_5 (fun q1 H hP hD hS => ?_)
  have hP : va_P D vwCl [(h0, .inr (5, [.int 0, .int 0, .null, .null, .null])), (q1, .inr (3, [.null, .int 0]))] H := hP
  have hD : va_D (va_A [(h0, .inr (5, [.int 0, .int 0, .null, .null, .null]))] sz) [(h0, .inr (5, [.int 0, .int 0, .null, .null, .null])), (q1, .inr (3, [.null, .int 0]))] := hD
  refine lv_dup hx hb dX6_init_8 rfl ?_
  refine lv_bipush (v := 12) hx hb dX6_init_9 (by decide) ?_
  have hPc := hP.sub (ws' := [(q1, .inr (3, [.null, .int 0]))]) [1] rfl
  have hFc := va_free (wc := [(q1, .inr (3, [.null, .int 0]))]) hD hS hA [1] rfl
  refine Ct_I (As := [.int 12]) (rest := [.ref q1, .ref h0]) hC (c_X4_init (n := 12) (by decide)) qi_X4 a_906 (Nat.le_of_ble_eq_true rfl) ⟨rfl, hPc⟩ hKX rfl hl.1 (Nat.le_of_ble_eq_true rfl) dX6_init_11 ⟨(Nat.le_of_ble_eq_true rfl), (Nat.le_of_ble_eq_true rfl)⟩ hS hFc (fun H1 locs hQ hz1 hk1 hS => ?_)
  obtain ⟨q2, hP1, hD1⟩ := hQ
  obtain ⟨hP, hD⟩ := va_join (wr := [(h0, .inr (5, [.int 0, .int 0, .null, .null, .null]))]) (w1 := [(q1, .inr (3, [.ref q2, .int 0])), (q2, .inl (cA 0, 12, .inl (fun _ => 0)))]) hP hD [1] [0] rfl rfl (by decide) (by decide) hk1 hFc hP1 hD1
  generalize H1 = H at hP hS ⊢
  have hP : va_P D vwCl [(h0, .inr (5, [.int 0, .int 0, .null, .null, .null])), (q1, .inr (3, [.ref q2, .int 0])), (q2, .inl (cA 0, 12, .inl (fun _ => 0)))] H := hP
  have hD : va_D (va_A [(h0, .inr (5, [.int 0, .int 0, .null, .null, .null]))] sz) [(h0, .inr (5, [.int 0, .int 0, .null, .null, .null])), (q1, .inr (3, [.ref q2, .int 0])), (q2, .inl (cA 0, 12, .inl (fun _ => 0)))] := hD
  refine va_putF (D := D) (ci := 5) (v := .ref q1) (ty := (.object "Lensbench$Rows")) (C := RX6) (T := TX6) (N := 5) hx hb hC.2.2.2.2 (tU inX6) tyX6 tyX6_ok nmX6 hC.2.2.2.1 hKX.1 hP hD hS 0 rfl rfl 2 (by decide) (tA hC.2.2.2.2 a_916) (fun _ h9 => h9) rfl hnm rfl (by decide +kernel) rfl rfl (Nat.le_of_ble_eq_true rfl) dX6_init_14 (fun H locs hP hD hS => ?_)
  have hP : va_P D vwCl [(h0, .inr (5, [.int 0, .int 0, .ref q1, .null, .null])), (q1, .inr (3, [.ref q2, .int 0])), (q2, .inl (cA 0, 12, .inl (fun _ => 0)))] H := hP
  have hD : va_D (va_A [(h0, .inr (5, [.int 0, .int 0, .null, .null, .null]))] sz) [(h0, .inr (5, [.int 0, .int 0, .ref q1, .null, .null])), (q1, .inr (3, [.ref q2, .int 0])), (q2, .inl (cA 0, 12, .inl (fun _ => 0)))] := hD
  refine lv_aload_n hx hb dX6_init_17 rfl (lv_at hl 0 rfl) ?_
  refine va_new (ci := 3) (fs := [.null, .int 0]) (C := RX4) (T := TX4) (N := 2) hx hb hC.2.2.2.2 (tU inX4) tyX4 tyX4_ok hC.2.2.2.1 (tA hC.2.2.2.2 a_905) (tA hC.2.2.2.2 a_49) (tA hC.2.2.2.2 a_17) hKX.1 hP hD hS hA rfl dfX4 (Nat.le_of_ble_eq_true rfl) (Nat.le_of_ble_eq_true rfl) dX6_init_18 (fun q3 H hP hD hS => ?_)
  have hP : va_P D vwCl [(h0, .inr (5, [.int 0, .int 0, .ref q1, .null, .null])), (q1, .inr (3, [.ref q2, .int 0])), (q2, .inl (cA 0, 12, .inl (fun _ => 0))), (q3, .inr (3, [.null, .int 0]))] H := hP
  have hD : va_D (va_A [(h0, .inr (5, [.int 0, .int 0, .null, .null, .null]))] sz) [(h0, .inr (5, [.int 0, .int 0, .ref q1, .null, .null])), (q1, .inr (3, [.ref q2, .int 0])), (q2, .inl (cA 0, 12, .inl (fun _ => 0))), (q3, .inr (3, [.null, .int 0]))] := hD
  refine lv_dup hx hb dX6_init_21 rfl ?_
  refine lv_bipush (v := 12) hx hb dX6_init_22 (by decide) ?_
  have hPc := hP.sub (ws' := [(q3, .inr (3, [.null, .int 0]))]) [3] rfl
  have hFc := va_free (wc := [(q3, .inr (3, [.null, .int 0]))]) hD hS hA [3] rfl
  refine Ct_I (As := [.int 12]) (rest := [.ref q3, .ref h0]) hC (c_X4_init (n := 12) (by decide)) qi_X4 a_906 (Nat.le_of_ble_eq_true rfl) ⟨rfl, hPc⟩ hKX rfl hl.1 (Nat.le_of_ble_eq_true rfl) dX6_init_24 ⟨(Nat.le_of_ble_eq_true rfl), (Nat.le_of_ble_eq_true rfl)⟩ hS hFc (fun H1 locs hQ hz1 hk1 hS => ?_)
  obtain ⟨q4, hP1, hD1⟩ := hQ
  obtain ⟨hP, hD⟩ := va_join (wr := [(h0, .inr (5, [.int 0, .int 0, .ref q1, .null, .null])), (q1, .inr (3, [.ref q2, .int 0])), (q2, .inl (cA 0, 12, .inl (fun _ => 0)))]) (w1 := [(q3, .inr (3, [.ref q4, .int 0])), (q4, .inl (cA 0, 12, .inl (fun _ => 0)))]) hP hD [3] [0, 1, 2] rfl rfl (by decide) (by decide) hk1 hFc hP1 hD1
  generalize H1 = H at hP hS ⊢
  have hP : va_P D vwCl [(h0, .inr (5, [.int 0, .int 0, .ref q1, .null, .null])), (q1, .inr (3, [.ref q2, .int 0])), (q2, .inl (cA 0, 12, .inl (fun _ => 0))), (q3, .inr (3, [.ref q4, .int 0])), (q4, .inl (cA 0, 12, .inl (fun _ => 0)))] H := hP
  have hD : va_D (va_A [(h0, .inr (5, [.int 0, .int 0, .null, .null, .null]))] sz) [(h0, .inr (5, [.int 0, .int 0, .ref q1, .null, .null])), (q1, .inr (3, [.ref q2, .int 0])), (q2, .inl (cA 0, 12, .inl (fun _ => 0))), (q3, .inr (3, [.ref q4, .int 0])), (q4, .inl (cA 0, 12, .inl (fun _ => 0)))] := hD
  refine va_putF (D := D) (ci := 5) (v := .ref q3) (ty := (.object "Lensbench$Rows")) (C := RX6) (T := TX6) (N := 5) hx hb hC.2.2.2.2 (tU inX6) tyX6 tyX6_ok nmX6 hC.2.2.2.1 hKX.1 hP hD hS 0 rfl rfl 3 (by decide) (tA hC.2.2.2.2 a_920) (fun _ h9 => h9) rfl hnm rfl (by decide +kernel) rfl rfl (Nat.le_of_ble_eq_true rfl) dX6_init_27 (fun H locs hP hD hS => ?_)
  have hP : va_P D vwCl [(h0, .inr (5, [.int 0, .int 0, .ref q1, .ref q3, .null])), (q1, .inr (3, [.ref q2, .int 0])), (q2, .inl (cA 0, 12, .inl (fun _ => 0))), (q3, .inr (3, [.ref q4, .int 0])), (q4, .inl (cA 0, 12, .inl (fun _ => 0)))] H := hP
  have hD : va_D (va_A [(h0, .inr (5, [.int 0, .int 0, .null, .null, .null]))] sz) [(h0, .inr (5, [.int 0, .int 0, .ref q1, .ref q3, .null])), (q1, .inr (3, [.ref q2, .int 0])), (q2, .inl (cA 0, 12, .inl (fun _ => 0))), (q3, .inr (3, [.ref q4, .int 0])), (q4, .inl (cA 0, 12, .inl (fun _ => 0)))] := hD
  refine lv_aload_n hx hb dX6_init_30 rfl (lv_at hl 0 rfl) ?_
  refine lv_iconst (v := 5) hx hb dX6_init_31 (by decide) ?_
  refine l_newQ5 (N := 5) hx hb a_905 hC hKX hP hD hS hA (by decide) (by decide) (by decide) (Nat.le_of_ble_eq_true rfl) (Nat.le_of_ble_eq_true rfl) dX6_init_32 (fun q5 H hP hD hS => ?_)
  have hP : va_P D vwCl [(h0, .inr (5, [.int 0, .int 0, .ref q1, .ref q3, .null])), (q1, .inr (3, [.ref q2, .int 0])), (q2, .inl (cA 0, 12, .inl (fun _ => 0))), (q3, .inr (3, [.ref q4, .int 0])), (q4, .inl (cA 0, 12, .inl (fun _ => 0))), (q5, .inl (cA 5, 5, .inr (.inr (.inr (.inr (fun _ => none))))))] H := hP
  have hD : va_D (va_A [(h0, .inr (5, [.int 0, .int 0, .null, .null, .null]))] sz) [(h0, .inr (5, [.int 0, .int 0, .ref q1, .ref q3, .null])), (q1, .inr (3, [.ref q2, .int 0])), (q2, .inl (cA 0, 12, .inl (fun _ => 0))), (q3, .inr (3, [.ref q4, .int 0])), (q4, .inl (cA 0, 12, .inl (fun _ => 0))), (q5, .inl (cA 5, 5, .inr (.inr (.inr (.inr (fun _ => none))))))] := hD
  refine va_putF (D := D) (ci := 5) (v := .ref q5) (ty := (.array (.object "Lensbench$Rows"))) (C := RX6) (T := TX6) (N := 5) hx hb hC.2.2.2.2 (tU inX6) tyX6 tyX6_ok nmX6 hC.2.2.2.1 hKX.1 hP hD hS 0 rfl rfl 4 (by decide) (tA hC.2.2.2.2 a_923) (fun _ h9 => h9) rfl hnm rfl (by decide +kernel) rfl rfl (Nat.le_of_ble_eq_true rfl) dX6_init_35 (fun H locs hP hD hS => ?_)
  have hP : va_P D vwCl [(h0, .inr (5, [.int 0, .int 0, .ref q1, .ref q3, .ref q5])), (q1, .inr (3, [.ref q2, .int 0])), (q2, .inl (cA 0, 12, .inl (fun _ => 0))), (q3, .inr (3, [.ref q4, .int 0])), (q4, .inl (cA 0, 12, .inl (fun _ => 0))), (q5, .inl (cA 5, 5, .inr (.inr (.inr (.inr (fun _ => none))))))] H := hP
  have hD : va_D (va_A [(h0, .inr (5, [.int 0, .int 0, .null, .null, .null]))] sz) [(h0, .inr (5, [.int 0, .int 0, .ref q1, .ref q3, .ref q5])), (q1, .inr (3, [.ref q2, .int 0])), (q2, .inl (cA 0, 12, .inl (fun _ => 0))), (q3, .inr (3, [.ref q4, .int 0])), (q4, .inl (cA 0, 12, .inl (fun _ => 0))), (q5, .inl (cA 5, 5, .inr (.inr (.inr (.inr (fun _ => none))))))] := hD
  refine lv_aload_n hx hb dX6_init_38 rfl (lv_at hl 0 rfl) ?_
  refine lv_iload_n hx hb dX6_init_39 rfl (lv_at hl 1 rfl) ?_
  refine va_putF (D := D) (ci := 5) (v := .int x1) (ty := .int) (C := RX6) (T := TX6) (N := 5) hx hb hC.2.2.2.2 (tU inX6) tyX6 tyX6_ok nmX6 hC.2.2.2.1 hKX.1 hP hD hS 0 rfl rfl 0 (by decide) (tA hC.2.2.2.2 a_909) (fun _ h9 => h9) rfl hnm rfl (by decide +kernel) rfl rfl (Nat.le_of_ble_eq_true rfl) dX6_init_40 (fun H locs hP hD hS => ?_)
  have hP : va_P D vwCl [(h0, .inr (5, [.int x1, .int 0, .ref q1, .ref q3, .ref q5])), (q1, .inr (3, [.ref q2, .int 0])), (q2, .inl (cA 0, 12, .inl (fun _ => 0))), (q3, .inr (3, [.ref q4, .int 0])), (q4, .inl (cA 0, 12, .inl (fun _ => 0))), (q5, .inl (cA 5, 5, .inr (.inr (.inr (.inr (fun _ => none))))))] H := hP
  have hD : va_D (va_A [(h0, .inr (5, [.int 0, .int 0, .null, .null, .null]))] sz) [(h0, .inr (5, [.int x1, .int 0, .ref q1, .ref q3, .ref q5])), (q1, .inr (3, [.ref q2, .int 0])), (q2, .inl (cA 0, 12, .inl (fun _ => 0))), (q3, .inr (3, [.ref q4, .int 0])), (q4, .inl (cA 0, 12, .inl (fun _ => 0))), (q5, .inl (cA 5, 5, .inr (.inr (.inr (.inr (fun _ => none))))))] := hD
  refine lv_aload_n hx hb dX6_init_43 rfl (lv_at hl 0 rfl) ?_
  refine lv_iload_n hx hb dX6_init_44 rfl (lv_at hl 2 rfl) ?_
  refine va_putF (D := D) (ci := 5) (v := .int x2) (ty := .int) (C := RX6) (T := TX6) (N := 5) hx hb hC.2.2.2.2 (tU inX6) tyX6 tyX6_ok nmX6 hC.2.2.2.1 hKX.1 hP hD hS 0 rfl rfl 1 (by decide) (tA hC.2.2.2.2 a_913) (fun _ h9 => h9) rfl hnm rfl (by decide +kernel) rfl rfl (Nat.le_of_ble_eq_true rfl) dX6_init_45 (fun H locs hP hD hS => ?_)
  have hP : va_P D vwCl [(h0, .inr (5, [.int x1, .int x2, .ref q1, .ref q3, .ref q5])), (q1, .inr (3, [.ref q2, .int 0])), (q2, .inl (cA 0, 12, .inl (fun _ => 0))), (q3, .inr (3, [.ref q4, .int 0])), (q4, .inl (cA 0, 12, .inl (fun _ => 0))), (q5, .inl (cA 5, 5, .inr (.inr (.inr (.inr (fun _ => none))))))] H := hP
  have hD : va_D (va_A [(h0, .inr (5, [.int 0, .int 0, .null, .null, .null]))] sz) [(h0, .inr (5, [.int x1, .int x2, .ref q1, .ref q3, .ref q5])), (q1, .inr (3, [.ref q2, .int 0])), (q2, .inl (cA 0, 12, .inl (fun _ => 0))), (q3, .inr (3, [.ref q4, .int 0])), (q4, .inl (cA 0, 12, .inl (fun _ => 0))), (q5, .inl (cA 5, 5, .inr (.inr (.inr (.inr (fun _ => none))))))] := hD
  refine lv_iconst (v := 0) hx hb dX6_init_48 (by decide) ?_
  refine lv_istore_n (lv' := [(3, .int 0), (0, .ref h0), (1, .int x1), (2, .int x2)]) hx hb dX6_init_49 rfl hl (by decide) rfl (fun ls hl => ?_)
  refine lv_iload_n hx hb dX6_init_50 rfl (lv_at hl 0 rfl) ?_
  refine lv_aload_n hx hb dX6_init_51 rfl (lv_at hl 1 rfl) ?_
  refine va_get (D := D) (ci := 5) (v := .ref q5) (C := RX6) (T := TX6) (N := 5) hx hb hC.2.2.2.2 (tU inX6) hC.2.2.2.1 hKX.1 hP 0 rfl rfl 4 (by decide) (tA hC.2.2.2.2 a_923) (fun _ h9 => h9) rfl dX6_init_52 ?_
  refine va_alen (tys := tysA cA) hx hb hKX.1 hP 5 5 rfl rfl (v := 5) rfl dX6_init_55 ?_
  refine lv_icmp_ge (tgt := 80) hx hb dX6_init_56 (by decide) (fun c9 => absurd c9 (by decide)) (fun _ => ?_)
  refine lv_aload_n hx hb dX6_init_59 rfl (lv_at hl 1 rfl) ?_
  refine va_get (D := D) (ci := 5) (v := .ref q5) (C := RX6) (T := TX6) (N := 5) hx hb hC.2.2.2.2 (tU inX6) hC.2.2.2.1 hKX.1 hP 0 rfl rfl 4 (by decide) (tA hC.2.2.2.2 a_923) (fun _ h9 => h9) rfl dX6_init_60 ?_
  refine lv_iload_n hx hb dX6_init_63 rfl (lv_at hl 0 rfl) ?_
  refine va_new (ci := 3) (fs := [.null, .int 0]) (C := RX4) (T := TX4) (N := 2) hx hb hC.2.2.2.2 (tU inX4) tyX4 tyX4_ok hC.2.2.2.1 (tA hC.2.2.2.2 a_905) (tA hC.2.2.2.2 a_49) (tA hC.2.2.2.2 a_17) hKX.1 hP hD hS hA rfl dfX4 (Nat.le_of_ble_eq_true rfl) (Nat.le_of_ble_eq_true rfl) dX6_init_64 (fun q6 H hP hD hS => ?_)
  have hP : va_P D vwCl [(h0, .inr (5, [.int x1, .int x2, .ref q1, .ref q3, .ref q5])), (q1, .inr (3, [.ref q2, .int 0])), (q2, .inl (cA 0, 12, .inl (fun _ => 0))), (q3, .inr (3, [.ref q4, .int 0])), (q4, .inl (cA 0, 12, .inl (fun _ => 0))), (q5, .inl (cA 5, 5, .inr (.inr (.inr (.inr (fun _ => none)))))), (q6, .inr (3, [.null, .int 0]))] H := hP
  have hD : va_D (va_A [(h0, .inr (5, [.int 0, .int 0, .null, .null, .null]))] sz) [(h0, .inr (5, [.int x1, .int x2, .ref q1, .ref q3, .ref q5])), (q1, .inr (3, [.ref q2, .int 0])), (q2, .inl (cA 0, 12, .inl (fun _ => 0))), (q3, .inr (3, [.ref q4, .int 0])), (q4, .inl (cA 0, 12, .inl (fun _ => 0))), (q5, .inl (cA 5, 5, .inr (.inr (.inr (.inr (fun _ => none)))))), (q6, .inr (3, [.null, .int 0]))] := hD
  refine lv_dup hx hb dX6_init_67 rfl ?_
  refine lv_bipush (v := 12) hx hb dX6_init_68 (by decide) ?_
  have hPc := hP.sub (ws' := [(q6, .inr (3, [.null, .int 0]))]) [6] rfl
  have hFc := va_free (wc := [(q6, .inr (3, [.null, .int 0]))]) hD hS hA [6] rfl
  refine Ct_I (As := [.int 12]) (rest := [.ref q6, .int 0, .ref q5]) hC (c_X4_init (n := 12) (by decide)) qi_X4 a_906 (Nat.le_of_ble_eq_true rfl) ⟨rfl, hPc⟩ hKX rfl hl.1 (Nat.le_of_ble_eq_true rfl) dX6_init_70 ⟨(Nat.le_of_ble_eq_true rfl), (Nat.le_of_ble_eq_true rfl)⟩ hS hFc (fun H1 locs hQ hz1 hk1 hS => ?_)
  obtain ⟨q7, hP1, hD1⟩ := hQ
  obtain ⟨hP, hD⟩ := va_join (wr := [(h0, .inr (5, [.int x1, .int x2, .ref q1, .ref q3, .ref q5])), (q1, .inr (3, [.ref q2, .int 0])), (q2, .inl (cA 0, 12, .inl (fun _ => 0))), (q3, .inr (3, [.ref q4, .int 0])), (q4, .inl (cA 0, 12, .inl (fun _ => 0))), (q5, .inl (cA 5, 5, .inr (.inr (.inr (.inr (fun _ => none))))))]) (w1 := [(q6, .inr (3, [.ref q7, .int 0])), (q7, .inl (cA 0, 12, .inl (fun _ => 0)))]) hP hD [6] [0, 1, 2, 3, 4, 5] rfl rfl (by decide) (by decide) hk1 hFc hP1 hD1
  generalize H1 = H at hP hS ⊢
  have hP : va_P D vwCl [(h0, .inr (5, [.int x1, .int x2, .ref q1, .ref q3, .ref q5])), (q1, .inr (3, [.ref q2, .int 0])), (q2, .inl (cA 0, 12, .inl (fun _ => 0))), (q3, .inr (3, [.ref q4, .int 0])), (q4, .inl (cA 0, 12, .inl (fun _ => 0))), (q5, .inl (cA 5, 5, .inr (.inr (.inr (.inr (fun _ => none)))))), (q6, .inr (3, [.ref q7, .int 0])), (q7, .inl (cA 0, 12, .inl (fun _ => 0)))] H := hP
  have hD : va_D (va_A [(h0, .inr (5, [.int 0, .int 0, .null, .null, .null]))] sz) [(h0, .inr (5, [.int x1, .int x2, .ref q1, .ref q3, .ref q5])), (q1, .inr (3, [.ref q2, .int 0])), (q2, .inl (cA 0, 12, .inl (fun _ => 0))), (q3, .inr (3, [.ref q4, .int 0])), (q4, .inl (cA 0, 12, .inl (fun _ => 0))), (q5, .inl (cA 5, 5, .inr (.inr (.inr (.inr (fun _ => none)))))), (q6, .inr (3, [.ref q7, .int 0])), (q7, .inl (cA 0, 12, .inl (fun _ => 0)))] := hD
  refine va_astq (tys := tysA cA) (r := (RX4, TX4, 2)) hx hb hKX.1 hP hD hS 5 5 6 3 rfl rfl rfl rfl (by unfold vp_in; decide) dX6_init_73 (fun H locs hP hD hS => ?_)
  have hP : va_P D vwCl [(h0, .inr (5, [.int x1, .int x2, .ref q1, .ref q3, .ref q5])), (q1, .inr (3, [.ref q2, .int 0])), (q2, .inl (cA 0, 12, .inl (fun _ => 0))), (q3, .inr (3, [.ref q4, .int 0])), (q4, .inl (cA 0, 12, .inl (fun _ => 0))), (q5, .inl (cA 5, 5, .inr (.inr (.inr (.inr (va_up (fun _ => none) 0 (some q6))))))), (q6, .inr (3, [.ref q7, .int 0])), (q7, .inl (cA 0, 12, .inl (fun _ => 0)))] H := hP
  have hD : va_D (va_A [(h0, .inr (5, [.int 0, .int 0, .null, .null, .null]))] sz) [(h0, .inr (5, [.int x1, .int x2, .ref q1, .ref q3, .ref q5])), (q1, .inr (3, [.ref q2, .int 0])), (q2, .inl (cA 0, 12, .inl (fun _ => 0))), (q3, .inr (3, [.ref q4, .int 0])), (q4, .inl (cA 0, 12, .inl (fun _ => 0))), (q5, .inl (cA 5, 5, .inr (.inr (.inr (.inr (va_up (fun _ => none) 0 (some q6))))))), (q6, .inr (3, [.ref q7, .int 0])), (q7, .inl (cA 0, 12, .inl (fun _ => 0)))] := hD
  refine lv_iinc (v := 1) (lv' := [(3, .int 1), (0, .ref h0), (1, .int x1), (2, .int x2)]) hx hb dX6_init_74 hl (k := 0) rfl rfl (by decide) rfl (fun ls hl => ?_)
  refine lv_goto (tgt := 50) hx hb dX6_init_77 (by decide) ?_
  refine lv_iload_n hx hb dX6_init_50 rfl (lv_at hl 0 rfl) ?_
  refine lv_aload_n hx hb dX6_init_51 rfl (lv_at hl 1 rfl) ?_
  refine va_get (D := D) (ci := 5) (v := .ref q5) (C := RX6) (T := TX6) (N := 5) hx hb hC.2.2.2.2 (tU inX6) hC.2.2.2.1 hKX.1 hP 0 rfl rfl 4 (by decide) (tA hC.2.2.2.2 a_923) (fun _ h9 => h9) rfl dX6_init_52 ?_
  refine va_alen (tys := tysA cA) hx hb hKX.1 hP 5 5 rfl rfl (v := 5) rfl dX6_init_55 ?_
  refine lv_icmp_ge (tgt := 80) hx hb dX6_init_56 (by decide) (fun c9 => absurd c9 (by decide)) (fun _ => ?_)
  refine lv_aload_n hx hb dX6_init_59 rfl (lv_at hl 1 rfl) ?_
  refine va_get (D := D) (ci := 5) (v := .ref q5) (C := RX6) (T := TX6) (N := 5) hx hb hC.2.2.2.2 (tU inX6) hC.2.2.2.1 hKX.1 hP 0 rfl rfl 4 (by decide) (tA hC.2.2.2.2 a_923) (fun _ h9 => h9) rfl dX6_init_60 ?_
  refine lv_iload_n hx hb dX6_init_63 rfl (lv_at hl 0 rfl) ?_
  refine va_new (ci := 3) (fs := [.null, .int 0]) (C := RX4) (T := TX4) (N := 2) hx hb hC.2.2.2.2 (tU inX4) tyX4 tyX4_ok hC.2.2.2.1 (tA hC.2.2.2.2 a_905) (tA hC.2.2.2.2 a_49) (tA hC.2.2.2.2 a_17) hKX.1 hP hD hS hA rfl dfX4 (Nat.le_of_ble_eq_true rfl) (Nat.le_of_ble_eq_true rfl) dX6_init_64 (fun q8 H hP hD hS => ?_)
  have hP : va_P D vwCl [(h0, .inr (5, [.int x1, .int x2, .ref q1, .ref q3, .ref q5])), (q1, .inr (3, [.ref q2, .int 0])), (q2, .inl (cA 0, 12, .inl (fun _ => 0))), (q3, .inr (3, [.ref q4, .int 0])), (q4, .inl (cA 0, 12, .inl (fun _ => 0))), (q5, .inl (cA 5, 5, .inr (.inr (.inr (.inr (va_up (fun _ => none) 0 (some q6))))))), (q6, .inr (3, [.ref q7, .int 0])), (q7, .inl (cA 0, 12, .inl (fun _ => 0))), (q8, .inr (3, [.null, .int 0]))] H := hP
  have hD : va_D (va_A [(h0, .inr (5, [.int 0, .int 0, .null, .null, .null]))] sz) [(h0, .inr (5, [.int x1, .int x2, .ref q1, .ref q3, .ref q5])), (q1, .inr (3, [.ref q2, .int 0])), (q2, .inl (cA 0, 12, .inl (fun _ => 0))), (q3, .inr (3, [.ref q4, .int 0])), (q4, .inl (cA 0, 12, .inl (fun _ => 0))), (q5, .inl (cA 5, 5, .inr (.inr (.inr (.inr (va_up (fun _ => none) 0 (some q6))))))), (q6, .inr (3, [.ref q7, .int 0])), (q7, .inl (cA 0, 12, .inl (fun _ => 0))), (q8, .inr (3, [.null, .int 0]))] := hD
  refine lv_dup hx hb dX6_init_67 rfl ?_
  refine lv_bipush (v := 12) hx hb dX6_init_68 (by decide) ?_
  have hPc := hP.sub (ws' := [(q8, .inr (3, [.null, .int 0]))]) [8] rfl
  have hFc := va_free (wc := [(q8, .inr (3, [.null, .int 0]))]) hD hS hA [8] rfl
  refine Ct_I (As := [.int 12]) (rest := [.ref q8, .int 1, .ref q5]) hC (c_X4_init (n := 12) (by decide)) qi_X4 a_906 (Nat.le_of_ble_eq_true rfl) ⟨rfl, hPc⟩ hKX rfl hl.1 (Nat.le_of_ble_eq_true rfl) dX6_init_70 ⟨(Nat.le_of_ble_eq_true rfl), (Nat.le_of_ble_eq_true rfl)⟩ hS hFc (fun H1 locs hQ hz1 hk1 hS => ?_)
  obtain ⟨q9, hP1, hD1⟩ := hQ
  obtain ⟨hP, hD⟩ := va_join (wr := [(h0, .inr (5, [.int x1, .int x2, .ref q1, .ref q3, .ref q5])), (q1, .inr (3, [.ref q2, .int 0])), (q2, .inl (cA 0, 12, .inl (fun _ => 0))), (q3, .inr (3, [.ref q4, .int 0])), (q4, .inl (cA 0, 12, .inl (fun _ => 0))), (q5, .inl (cA 5, 5, .inr (.inr (.inr (.inr (va_up (fun _ => none) 0 (some q6))))))), (q6, .inr (3, [.ref q7, .int 0])), (q7, .inl (cA 0, 12, .inl (fun _ => 0)))]) (w1 := [(q8, .inr (3, [.ref q9, .int 0])), (q9, .inl (cA 0, 12, .inl (fun _ => 0)))]) hP hD [8] [0, 1, 2, 3, 4, 5, 6, 7] rfl rfl (by decide) (by decide) hk1 hFc hP1 hD1
  generalize H1 = H at hP hS ⊢
  have hP : va_P D vwCl [(h0, .inr (5, [.int x1, .int x2, .ref q1, .ref q3, .ref q5])), (q1, .inr (3, [.ref q2, .int 0])), (q2, .inl (cA 0, 12, .inl (fun _ => 0))), (q3, .inr (3, [.ref q4, .int 0])), (q4, .inl (cA 0, 12, .inl (fun _ => 0))), (q5, .inl (cA 5, 5, .inr (.inr (.inr (.inr (va_up (fun _ => none) 0 (some q6))))))), (q6, .inr (3, [.ref q7, .int 0])), (q7, .inl (cA 0, 12, .inl (fun _ => 0))), (q8, .inr (3, [.ref q9, .int 0])), (q9, .inl (cA 0, 12, .inl (fun _ => 0)))] H := hP
  have hD : va_D (va_A [(h0, .inr (5, [.int 0, .int 0, .null, .null, .null]))] sz) [(h0, .inr (5, [.int x1, .int x2, .ref q1, .ref q3, .ref q5])), (q1, .inr (3, [.ref q2, .int 0])), (q2, .inl (cA 0, 12, .inl (fun _ => 0))), (q3, .inr (3, [.ref q4, .int 0])), (q4, .inl (cA 0, 12, .inl (fun _ => 0))), (q5, .inl (cA 5, 5, .inr (.inr (.inr (.inr (va_up (fun _ => none) 0 (some q6))))))), (q6, .inr (3, [.ref q7, .int 0])), (q7, .inl (cA 0, 12, .inl (fun _ => 0))), (q8, .inr (3, [.ref q9, .int 0])), (q9, .inl (cA 0, 12, .inl (fun _ => 0)))] := hD
  refine va_astq (tys := tysA cA) (r := (RX4, TX4, 2)) hx hb hKX.1 hP hD hS 5 5 8 3 rfl rfl rfl rfl (by unfold vp_in; decide) dX6_init_73 (fun H locs hP hD hS => ?_)
  have hP : va_P D vwCl [(h0, .inr (5, [.int x1, .int x2, .ref q1, .ref q3, .ref q5])), (q1, .inr (3, [.ref q2, .int 0])), (q2, .inl (cA 0, 12, .inl (fun _ => 0))), (q3, .inr (3, [.ref q4, .int 0])), (q4, .inl (cA 0, 12, .inl (fun _ => 0))), (q5, .inl (cA 5, 5, .inr (.inr (.inr (.inr (va_up (va_up (fun _ => none) 0 (some q6)) 1 (some q8))))))), (q6, .inr (3, [.ref q7, .int 0])), (q7, .inl (cA 0, 12, .inl (fun _ => 0))), (q8, .inr (3, [.ref q9, .int 0])), (q9, .inl (cA 0, 12, .inl (fun _ => 0)))] H := hP
  have hD : va_D (va_A [(h0, .inr (5, [.int 0, .int 0, .null, .null, .null]))] sz) [(h0, .inr (5, [.int x1, .int x2, .ref q1, .ref q3, .ref q5])), (q1, .inr (3, [.ref q2, .int 0])), (q2, .inl (cA 0, 12, .inl (fun _ => 0))), (q3, .inr (3, [.ref q4, .int 0])), (q4, .inl (cA 0, 12, .inl (fun _ => 0))), (q5, .inl (cA 5, 5, .inr (.inr (.inr (.inr (va_up (va_up (fun _ => none) 0 (some q6)) 1 (some q8))))))), (q6, .inr (3, [.ref q7, .int 0])), (q7, .inl (cA 0, 12, .inl (fun _ => 0))), (q8, .inr (3, [.ref q9, .int 0])), (q9, .inl (cA 0, 12, .inl (fun _ => 0)))] := hD
  refine lv_iinc (v := 2) (lv' := [(3, .int 2), (0, .ref h0), (1, .int x1), (2, .int x2)]) hx hb dX6_init_74 hl (k := 0) rfl rfl (by decide) rfl (fun ls hl => ?_)
  refine lv_goto (tgt := 50) hx hb dX6_init_77 (by decide) ?_
  refine lv_iload_n hx hb dX6_init_50 rfl (lv_at hl 0 rfl) ?_
  refine lv_aload_n hx hb dX6_init_51 rfl (lv_at hl 1 rfl) ?_
  refine va_get (D := D) (ci := 5) (v := .ref q5) (C := RX6) (T := TX6) (N := 5) hx hb hC.2.2.2.2 (tU inX6) hC.2.2.2.1 hKX.1 hP 0 rfl rfl 4 (by decide) (tA hC.2.2.2.2 a_923) (fun _ h9 => h9) rfl dX6_init_52 ?_
  refine va_alen (tys := tysA cA) hx hb hKX.1 hP 5 5 rfl rfl (v := 5) rfl dX6_init_55 ?_
  refine lv_icmp_ge (tgt := 80) hx hb dX6_init_56 (by decide) (fun c9 => absurd c9 (by decide)) (fun _ => ?_)
  refine lv_aload_n hx hb dX6_init_59 rfl (lv_at hl 1 rfl) ?_
  refine va_get (D := D) (ci := 5) (v := .ref q5) (C := RX6) (T := TX6) (N := 5) hx hb hC.2.2.2.2 (tU inX6) hC.2.2.2.1 hKX.1 hP 0 rfl rfl 4 (by decide) (tA hC.2.2.2.2 a_923) (fun _ h9 => h9) rfl dX6_init_60 ?_
  refine lv_iload_n hx hb dX6_init_63 rfl (lv_at hl 0 rfl) ?_
  refine va_new (ci := 3) (fs := [.null, .int 0]) (C := RX4) (T := TX4) (N := 2) hx hb hC.2.2.2.2 (tU inX4) tyX4 tyX4_ok hC.2.2.2.1 (tA hC.2.2.2.2 a_905) (tA hC.2.2.2.2 a_49) (tA hC.2.2.2.2 a_17) hKX.1 hP hD hS hA rfl dfX4 (Nat.le_of_ble_eq_true rfl) (Nat.le_of_ble_eq_true rfl) dX6_init_64 (fun q10 H hP hD hS => ?_)
  have hP : va_P D vwCl [(h0, .inr (5, [.int x1, .int x2, .ref q1, .ref q3, .ref q5])), (q1, .inr (3, [.ref q2, .int 0])), (q2, .inl (cA 0, 12, .inl (fun _ => 0))), (q3, .inr (3, [.ref q4, .int 0])), (q4, .inl (cA 0, 12, .inl (fun _ => 0))), (q5, .inl (cA 5, 5, .inr (.inr (.inr (.inr (va_up (va_up (fun _ => none) 0 (some q6)) 1 (some q8))))))), (q6, .inr (3, [.ref q7, .int 0])), (q7, .inl (cA 0, 12, .inl (fun _ => 0))), (q8, .inr (3, [.ref q9, .int 0])), (q9, .inl (cA 0, 12, .inl (fun _ => 0))), (q10, .inr (3, [.null, .int 0]))] H := hP
  have hD : va_D (va_A [(h0, .inr (5, [.int 0, .int 0, .null, .null, .null]))] sz) [(h0, .inr (5, [.int x1, .int x2, .ref q1, .ref q3, .ref q5])), (q1, .inr (3, [.ref q2, .int 0])), (q2, .inl (cA 0, 12, .inl (fun _ => 0))), (q3, .inr (3, [.ref q4, .int 0])), (q4, .inl (cA 0, 12, .inl (fun _ => 0))), (q5, .inl (cA 5, 5, .inr (.inr (.inr (.inr (va_up (va_up (fun _ => none) 0 (some q6)) 1 (some q8))))))), (q6, .inr (3, [.ref q7, .int 0])), (q7, .inl (cA 0, 12, .inl (fun _ => 0))), (q8, .inr (3, [.ref q9, .int 0])), (q9, .inl (cA 0, 12, .inl (fun _ => 0))), (q10, .inr (3, [.null, .int 0]))] := hD
  refine lv_dup hx hb dX6_init_67 rfl ?_
  refine lv_bipush (v := 12) hx hb dX6_init_68 (by decide) ?_
  have hPc := hP.sub (ws' := [(q10, .inr (3, [.null, .int 0]))]) [10] rfl
  have hFc := va_free (wc := [(q10, .inr (3, [.null, .int 0]))]) hD hS hA [10] rfl
  refine Ct_I (As := [.int 12]) (rest := [.ref q10, .int 2, .ref q5]) hC (c_X4_init (n := 12) (by decide)) qi_X4 a_906 (Nat.le_of_ble_eq_true rfl) ⟨rfl, hPc⟩ hKX rfl hl.1 (Nat.le_of_ble_eq_true rfl) dX6_init_70 ⟨(Nat.le_of_ble_eq_true rfl), (Nat.le_of_ble_eq_true rfl)⟩ hS hFc (fun H1 locs hQ hz1 hk1 hS => ?_)
  obtain ⟨q11, hP1, hD1⟩ := hQ
  obtain ⟨hP, hD⟩ := va_join (wr := [(h0, .inr (5, [.int x1, .int x2, .ref q1, .ref q3, .ref q5])), (q1, .inr (3, [.ref q2, .int 0])), (q2, .inl (cA 0, 12, .inl (fun _ => 0))), (q3, .inr (3, [.ref q4, .int 0])), (q4, .inl (cA 0, 12, .inl (fun _ => 0))), (q5, .inl (cA 5, 5, .inr (.inr (.inr (.inr (va_up (va_up (fun _ => none) 0 (some q6)) 1 (some q8))))))), (q6, .inr (3, [.ref q7, .int 0])), (q7, .inl (cA 0, 12, .inl (fun _ => 0))), (q8, .inr (3, [.ref q9, .int 0])), (q9, .inl (cA 0, 12, .inl (fun _ => 0)))]) (w1 := [(q10, .inr (3, [.ref q11, .int 0])), (q11, .inl (cA 0, 12, .inl (fun _ => 0)))]) hP hD [10] [0, 1, 2, 3, 4, 5, 6, 7, 8, 9] rfl rfl (by decide) (by decide) hk1 hFc hP1 hD1
  generalize H1 = H at hP hS ⊢
  have hP : va_P D vwCl [(h0, .inr (5, [.int x1, .int x2, .ref q1, .ref q3, .ref q5])), (q1, .inr (3, [.ref q2, .int 0])), (q2, .inl (cA 0, 12, .inl (fun _ => 0))), (q3, .inr (3, [.ref q4, .int 0])), (q4, .inl (cA 0, 12, .inl (fun _ => 0))), (q5, .inl (cA 5, 5, .inr (.inr (.inr (.inr (va_up (va_up (fun _ => none) 0 (some q6)) 1 (some q8))))))), (q6, .inr (3, [.ref q7, .int 0])), (q7, .inl (cA 0, 12, .inl (fun _ => 0))), (q8, .inr (3, [.ref q9, .int 0])), (q9, .inl (cA 0, 12, .inl (fun _ => 0))), (q10, .inr (3, [.ref q11, .int 0])), (q11, .inl (cA 0, 12, .inl (fun _ => 0)))] H := hP
  have hD : va_D (va_A [(h0, .inr (5, [.int 0, .int 0, .null, .null, .null]))] sz) [(h0, .inr (5, [.int x1, .int x2, .ref q1, .ref q3, .ref q5])), (q1, .inr (3, [.ref q2, .int 0])), (q2, .inl (cA 0, 12, .inl (fun _ => 0))), (q3, .inr (3, [.ref q4, .int 0])), (q4, .inl (cA 0, 12, .inl (fun _ => 0))), (q5, .inl (cA 5, 5, .inr (.inr (.inr (.inr (va_up (va_up (fun _ => none) 0 (some q6)) 1 (some q8))))))), (q6, .inr (3, [.ref q7, .int 0])), (q7, .inl (cA 0, 12, .inl (fun _ => 0))), (q8, .inr (3, [.ref q9, .int 0])), (q9, .inl (cA 0, 12, .inl (fun _ => 0))), (q10, .inr (3, [.ref q11, .int 0])), (q11, .inl (cA 0, 12, .inl (fun _ => 0)))] := hD
  refine va_astq (tys := tysA cA) (r := (RX4, TX4, 2)) hx hb hKX.1 hP hD hS 5 5 10 3 rfl rfl rfl rfl (by unfold vp_in; decide) dX6_init_73 (fun H locs hP hD hS => ?_)
  have hP : va_P D vwCl [(h0, .inr (5, [.int x1, .int x2, .ref q1, .ref q3, .ref q5])), (q1, .inr (3, [.ref q2, .int 0])), (q2, .inl (cA 0, 12, .inl (fun _ => 0))), (q3, .inr (3, [.ref q4, .int 0])), (q4, .inl (cA 0, 12, .inl (fun _ => 0))), (q5, .inl (cA 5, 5, .inr (.inr (.inr (.inr (va_up (va_up (va_up (fun _ => none) 0 (some q6)) 1 (some q8)) 2 (some q10))))))), (q6, .inr (3, [.ref q7, .int 0])), (q7, .inl (cA 0, 12, .inl (fun _ => 0))), (q8, .inr (3, [.ref q9, .int 0])), (q9, .inl (cA 0, 12, .inl (fun _ => 0))), (q10, .inr (3, [.ref q11, .int 0])), (q11, .inl (cA 0, 12, .inl (fun _ => 0)))] H := hP
  have hD : va_D (va_A [(h0, .inr (5, [.int 0, .int 0, .null, .null, .null]))] sz) [(h0, .inr (5, [.int x1, .int x2, .ref q1, .ref q3, .ref q5])), (q1, .inr (3, [.ref q2, .int 0])), (q2, .inl (cA 0, 12, .inl (fun _ => 0))), (q3, .inr (3, [.ref q4, .int 0])), (q4, .inl (cA 0, 12, .inl (fun _ => 0))), (q5, .inl (cA 5, 5, .inr (.inr (.inr (.inr (va_up (va_up (va_up (fun _ => none) 0 (some q6)) 1 (some q8)) 2 (some q10))))))), (q6, .inr (3, [.ref q7, .int 0])), (q7, .inl (cA 0, 12, .inl (fun _ => 0))), (q8, .inr (3, [.ref q9, .int 0])), (q9, .inl (cA 0, 12, .inl (fun _ => 0))), (q10, .inr (3, [.ref q11, .int 0])), (q11, .inl (cA 0, 12, .inl (fun _ => 0)))] := hD
  refine lv_iinc (v := 3) (lv' := [(3, .int 3), (0, .ref h0), (1, .int x1), (2, .int x2)]) hx hb dX6_init_74 hl (k := 0) rfl rfl (by decide) rfl (fun ls hl => ?_)
  refine lv_goto (tgt := 50) hx hb dX6_init_77 (by decide) ?_
  refine lv_iload_n hx hb dX6_init_50 rfl (lv_at hl 0 rfl) ?_
  refine lv_aload_n hx hb dX6_init_51 rfl (lv_at hl 1 rfl) ?_
  refine va_get (D := D) (ci := 5) (v := .ref q5) (C := RX6) (T := TX6) (N := 5) hx hb hC.2.2.2.2 (tU inX6) hC.2.2.2.1 hKX.1 hP 0 rfl rfl 4 (by decide) (tA hC.2.2.2.2 a_923) (fun _ h9 => h9) rfl dX6_init_52 ?_
  refine va_alen (tys := tysA cA) hx hb hKX.1 hP 5 5 rfl rfl (v := 5) rfl dX6_init_55 ?_
  refine lv_icmp_ge (tgt := 80) hx hb dX6_init_56 (by decide) (fun c9 => absurd c9 (by decide)) (fun _ => ?_)
  refine lv_aload_n hx hb dX6_init_59 rfl (lv_at hl 1 rfl) ?_
  refine va_get (D := D) (ci := 5) (v := .ref q5) (C := RX6) (T := TX6) (N := 5) hx hb hC.2.2.2.2 (tU inX6) hC.2.2.2.1 hKX.1 hP 0 rfl rfl 4 (by decide) (tA hC.2.2.2.2 a_923) (fun _ h9 => h9) rfl dX6_init_60 ?_
  refine lv_iload_n hx hb dX6_init_63 rfl (lv_at hl 0 rfl) ?_
  refine va_new (ci := 3) (fs := [.null, .int 0]) (C := RX4) (T := TX4) (N := 2) hx hb hC.2.2.2.2 (tU inX4) tyX4 tyX4_ok hC.2.2.2.1 (tA hC.2.2.2.2 a_905) (tA hC.2.2.2.2 a_49) (tA hC.2.2.2.2 a_17) hKX.1 hP hD hS hA rfl dfX4 (Nat.le_of_ble_eq_true rfl) (Nat.le_of_ble_eq_true rfl) dX6_init_64 (fun q12 H hP hD hS => ?_)
  have hP : va_P D vwCl [(h0, .inr (5, [.int x1, .int x2, .ref q1, .ref q3, .ref q5])), (q1, .inr (3, [.ref q2, .int 0])), (q2, .inl (cA 0, 12, .inl (fun _ => 0))), (q3, .inr (3, [.ref q4, .int 0])), (q4, .inl (cA 0, 12, .inl (fun _ => 0))), (q5, .inl (cA 5, 5, .inr (.inr (.inr (.inr (va_up (va_up (va_up (fun _ => none) 0 (some q6)) 1 (some q8)) 2 (some q10))))))), (q6, .inr (3, [.ref q7, .int 0])), (q7, .inl (cA 0, 12, .inl (fun _ => 0))), (q8, .inr (3, [.ref q9, .int 0])), (q9, .inl (cA 0, 12, .inl (fun _ => 0))), (q10, .inr (3, [.ref q11, .int 0])), (q11, .inl (cA 0, 12, .inl (fun _ => 0))), (q12, .inr (3, [.null, .int 0]))] H := hP
  have hD : va_D (va_A [(h0, .inr (5, [.int 0, .int 0, .null, .null, .null]))] sz) [(h0, .inr (5, [.int x1, .int x2, .ref q1, .ref q3, .ref q5])), (q1, .inr (3, [.ref q2, .int 0])), (q2, .inl (cA 0, 12, .inl (fun _ => 0))), (q3, .inr (3, [.ref q4, .int 0])), (q4, .inl (cA 0, 12, .inl (fun _ => 0))), (q5, .inl (cA 5, 5, .inr (.inr (.inr (.inr (va_up (va_up (va_up (fun _ => none) 0 (some q6)) 1 (some q8)) 2 (some q10))))))), (q6, .inr (3, [.ref q7, .int 0])), (q7, .inl (cA 0, 12, .inl (fun _ => 0))), (q8, .inr (3, [.ref q9, .int 0])), (q9, .inl (cA 0, 12, .inl (fun _ => 0))), (q10, .inr (3, [.ref q11, .int 0])), (q11, .inl (cA 0, 12, .inl (fun _ => 0))), (q12, .inr (3, [.null, .int 0]))] := hD
  refine lv_dup hx hb dX6_init_67 rfl ?_
  refine lv_bipush (v := 12) hx hb dX6_init_68 (by decide) ?_
  have hPc := hP.sub (ws' := [(q12, .inr (3, [.null, .int 0]))]) [12] rfl
  have hFc := va_free (wc := [(q12, .inr (3, [.null, .int 0]))]) hD hS hA [12] rfl
  refine Ct_I (As := [.int 12]) (rest := [.ref q12, .int 3, .ref q5]) hC (c_X4_init (n := 12) (by decide)) qi_X4 a_906 (Nat.le_of_ble_eq_true rfl) ⟨rfl, hPc⟩ hKX rfl hl.1 (Nat.le_of_ble_eq_true rfl) dX6_init_70 ⟨(Nat.le_of_ble_eq_true rfl), (Nat.le_of_ble_eq_true rfl)⟩ hS hFc (fun H1 locs hQ hz1 hk1 hS => ?_)
  obtain ⟨q13, hP1, hD1⟩ := hQ
  obtain ⟨hP, hD⟩ := va_join (wr := [(h0, .inr (5, [.int x1, .int x2, .ref q1, .ref q3, .ref q5])), (q1, .inr (3, [.ref q2, .int 0])), (q2, .inl (cA 0, 12, .inl (fun _ => 0))), (q3, .inr (3, [.ref q4, .int 0])), (q4, .inl (cA 0, 12, .inl (fun _ => 0))), (q5, .inl (cA 5, 5, .inr (.inr (.inr (.inr (va_up (va_up (va_up (fun _ => none) 0 (some q6)) 1 (some q8)) 2 (some q10))))))), (q6, .inr (3, [.ref q7, .int 0])), (q7, .inl (cA 0, 12, .inl (fun _ => 0))), (q8, .inr (3, [.ref q9, .int 0])), (q9, .inl (cA 0, 12, .inl (fun _ => 0))), (q10, .inr (3, [.ref q11, .int 0])), (q11, .inl (cA 0, 12, .inl (fun _ => 0)))]) (w1 := [(q12, .inr (3, [.ref q13, .int 0])), (q13, .inl (cA 0, 12, .inl (fun _ => 0)))]) hP hD [12] [0, 1, 2, 3, 4, 5, 6, 7, 8, 9, 10, 11] rfl rfl (by decide) (by decide) hk1 hFc hP1 hD1
  generalize H1 = H at hP hS ⊢
  have hP : va_P D vwCl [(h0, .inr (5, [.int x1, .int x2, .ref q1, .ref q3, .ref q5])), (q1, .inr (3, [.ref q2, .int 0])), (q2, .inl (cA 0, 12, .inl (fun _ => 0))), (q3, .inr (3, [.ref q4, .int 0])), (q4, .inl (cA 0, 12, .inl (fun _ => 0))), (q5, .inl (cA 5, 5, .inr (.inr (.inr (.inr (va_up (va_up (va_up (fun _ => none) 0 (some q6)) 1 (some q8)) 2 (some q10))))))), (q6, .inr (3, [.ref q7, .int 0])), (q7, .inl (cA 0, 12, .inl (fun _ => 0))), (q8, .inr (3, [.ref q9, .int 0])), (q9, .inl (cA 0, 12, .inl (fun _ => 0))), (q10, .inr (3, [.ref q11, .int 0])), (q11, .inl (cA 0, 12, .inl (fun _ => 0))), (q12, .inr (3, [.ref q13, .int 0])), (q13, .inl (cA 0, 12, .inl (fun _ => 0)))] H := hP
  have hD : va_D (va_A [(h0, .inr (5, [.int 0, .int 0, .null, .null, .null]))] sz) [(h0, .inr (5, [.int x1, .int x2, .ref q1, .ref q3, .ref q5])), (q1, .inr (3, [.ref q2, .int 0])), (q2, .inl (cA 0, 12, .inl (fun _ => 0))), (q3, .inr (3, [.ref q4, .int 0])), (q4, .inl (cA 0, 12, .inl (fun _ => 0))), (q5, .inl (cA 5, 5, .inr (.inr (.inr (.inr (va_up (va_up (va_up (fun _ => none) 0 (some q6)) 1 (some q8)) 2 (some q10))))))), (q6, .inr (3, [.ref q7, .int 0])), (q7, .inl (cA 0, 12, .inl (fun _ => 0))), (q8, .inr (3, [.ref q9, .int 0])), (q9, .inl (cA 0, 12, .inl (fun _ => 0))), (q10, .inr (3, [.ref q11, .int 0])), (q11, .inl (cA 0, 12, .inl (fun _ => 0))), (q12, .inr (3, [.ref q13, .int 0])), (q13, .inl (cA 0, 12, .inl (fun _ => 0)))] := hD
  refine va_astq (tys := tysA cA) (r := (RX4, TX4, 2)) hx hb hKX.1 hP hD hS 5 5 12 3 rfl rfl rfl rfl (by unfold vp_in; decide) dX6_init_73 (fun H locs hP hD hS => ?_)
  have hP : va_P D vwCl [(h0, .inr (5, [.int x1, .int x2, .ref q1, .ref q3, .ref q5])), (q1, .inr (3, [.ref q2, .int 0])), (q2, .inl (cA 0, 12, .inl (fun _ => 0))), (q3, .inr (3, [.ref q4, .int 0])), (q4, .inl (cA 0, 12, .inl (fun _ => 0))), (q5, .inl (cA 5, 5, .inr (.inr (.inr (.inr (va_up (va_up (va_up (va_up (fun _ => none) 0 (some q6)) 1 (some q8)) 2 (some q10)) 3 (some q12))))))), (q6, .inr (3, [.ref q7, .int 0])), (q7, .inl (cA 0, 12, .inl (fun _ => 0))), (q8, .inr (3, [.ref q9, .int 0])), (q9, .inl (cA 0, 12, .inl (fun _ => 0))), (q10, .inr (3, [.ref q11, .int 0])), (q11, .inl (cA 0, 12, .inl (fun _ => 0))), (q12, .inr (3, [.ref q13, .int 0])), (q13, .inl (cA 0, 12, .inl (fun _ => 0)))] H := hP
  have hD : va_D (va_A [(h0, .inr (5, [.int 0, .int 0, .null, .null, .null]))] sz) [(h0, .inr (5, [.int x1, .int x2, .ref q1, .ref q3, .ref q5])), (q1, .inr (3, [.ref q2, .int 0])), (q2, .inl (cA 0, 12, .inl (fun _ => 0))), (q3, .inr (3, [.ref q4, .int 0])), (q4, .inl (cA 0, 12, .inl (fun _ => 0))), (q5, .inl (cA 5, 5, .inr (.inr (.inr (.inr (va_up (va_up (va_up (va_up (fun _ => none) 0 (some q6)) 1 (some q8)) 2 (some q10)) 3 (some q12))))))), (q6, .inr (3, [.ref q7, .int 0])), (q7, .inl (cA 0, 12, .inl (fun _ => 0))), (q8, .inr (3, [.ref q9, .int 0])), (q9, .inl (cA 0, 12, .inl (fun _ => 0))), (q10, .inr (3, [.ref q11, .int 0])), (q11, .inl (cA 0, 12, .inl (fun _ => 0))), (q12, .inr (3, [.ref q13, .int 0])), (q13, .inl (cA 0, 12, .inl (fun _ => 0)))] := hD
  refine lv_iinc (v := 4) (lv' := [(3, .int 4), (0, .ref h0), (1, .int x1), (2, .int x2)]) hx hb dX6_init_74 hl (k := 0) rfl rfl (by decide) rfl (fun ls hl => ?_)
  refine lv_goto (tgt := 50) hx hb dX6_init_77 (by decide) ?_
  refine lv_iload_n hx hb dX6_init_50 rfl (lv_at hl 0 rfl) ?_
  refine lv_aload_n hx hb dX6_init_51 rfl (lv_at hl 1 rfl) ?_
  refine va_get (D := D) (ci := 5) (v := .ref q5) (C := RX6) (T := TX6) (N := 5) hx hb hC.2.2.2.2 (tU inX6) hC.2.2.2.1 hKX.1 hP 0 rfl rfl 4 (by decide) (tA hC.2.2.2.2 a_923) (fun _ h9 => h9) rfl dX6_init_52 ?_
  refine va_alen (tys := tysA cA) hx hb hKX.1 hP 5 5 rfl rfl (v := 5) rfl dX6_init_55 ?_
  refine lv_icmp_ge (tgt := 80) hx hb dX6_init_56 (by decide) (fun c9 => absurd c9 (by decide)) (fun _ => ?_)
  refine lv_aload_n hx hb dX6_init_59 rfl (lv_at hl 1 rfl) ?_
  refine va_get (D := D) (ci := 5) (v := .ref q5) (C := RX6) (T := TX6) (N := 5) hx hb hC.2.2.2.2 (tU inX6) hC.2.2.2.1 hKX.1 hP 0 rfl rfl 4 (by decide) (tA hC.2.2.2.2 a_923) (fun _ h9 => h9) rfl dX6_init_60 ?_
  refine lv_iload_n hx hb dX6_init_63 rfl (lv_at hl 0 rfl) ?_
  refine va_new (ci := 3) (fs := [.null, .int 0]) (C := RX4) (T := TX4) (N := 2) hx hb hC.2.2.2.2 (tU inX4) tyX4 tyX4_ok hC.2.2.2.1 (tA hC.2.2.2.2 a_905) (tA hC.2.2.2.2 a_49) (tA hC.2.2.2.2 a_17) hKX.1 hP hD hS hA rfl dfX4 (Nat.le_of_ble_eq_true rfl) (Nat.le_of_ble_eq_true rfl) dX6_init_64 (fun q14 H hP hD hS => ?_)
  have hP : va_P D vwCl [(h0, .inr (5, [.int x1, .int x2, .ref q1, .ref q3, .ref q5])), (q1, .inr (3, [.ref q2, .int 0])), (q2, .inl (cA 0, 12, .inl (fun _ => 0))), (q3, .inr (3, [.ref q4, .int 0])), (q4, .inl (cA 0, 12, .inl (fun _ => 0))), (q5, .inl (cA 5, 5, .inr (.inr (.inr (.inr (va_up (va_up (va_up (va_up (fun _ => none) 0 (some q6)) 1 (some q8)) 2 (some q10)) 3 (some q12))))))), (q6, .inr (3, [.ref q7, .int 0])), (q7, .inl (cA 0, 12, .inl (fun _ => 0))), (q8, .inr (3, [.ref q9, .int 0])), (q9, .inl (cA 0, 12, .inl (fun _ => 0))), (q10, .inr (3, [.ref q11, .int 0])), (q11, .inl (cA 0, 12, .inl (fun _ => 0))), (q12, .inr (3, [.ref q13, .int 0])), (q13, .inl (cA 0, 12, .inl (fun _ => 0))), (q14, .inr (3, [.null, .int 0]))] H := hP
  have hD : va_D (va_A [(h0, .inr (5, [.int 0, .int 0, .null, .null, .null]))] sz) [(h0, .inr (5, [.int x1, .int x2, .ref q1, .ref q3, .ref q5])), (q1, .inr (3, [.ref q2, .int 0])), (q2, .inl (cA 0, 12, .inl (fun _ => 0))), (q3, .inr (3, [.ref q4, .int 0])), (q4, .inl (cA 0, 12, .inl (fun _ => 0))), (q5, .inl (cA 5, 5, .inr (.inr (.inr (.inr (va_up (va_up (va_up (va_up (fun _ => none) 0 (some q6)) 1 (some q8)) 2 (some q10)) 3 (some q12))))))), (q6, .inr (3, [.ref q7, .int 0])), (q7, .inl (cA 0, 12, .inl (fun _ => 0))), (q8, .inr (3, [.ref q9, .int 0])), (q9, .inl (cA 0, 12, .inl (fun _ => 0))), (q10, .inr (3, [.ref q11, .int 0])), (q11, .inl (cA 0, 12, .inl (fun _ => 0))), (q12, .inr (3, [.ref q13, .int 0])), (q13, .inl (cA 0, 12, .inl (fun _ => 0))), (q14, .inr (3, [.null, .int 0]))] := hD
  refine lv_dup hx hb dX6_init_67 rfl ?_
  refine lv_bipush (v := 12) hx hb dX6_init_68 (by decide) ?_
  have hPc := hP.sub (ws' := [(q14, .inr (3, [.null, .int 0]))]) [14] rfl
  have hFc := va_free (wc := [(q14, .inr (3, [.null, .int 0]))]) hD hS hA [14] rfl
  refine Ct_I (As := [.int 12]) (rest := [.ref q14, .int 4, .ref q5]) hC (c_X4_init (n := 12) (by decide)) qi_X4 a_906 (Nat.le_of_ble_eq_true rfl) ⟨rfl, hPc⟩ hKX rfl hl.1 (Nat.le_of_ble_eq_true rfl) dX6_init_70 ⟨(Nat.le_of_ble_eq_true rfl), (Nat.le_of_ble_eq_true rfl)⟩ hS hFc (fun H1 locs hQ hz1 hk1 hS => ?_)
  obtain ⟨q15, hP1, hD1⟩ := hQ
  obtain ⟨hP, hD⟩ := va_join (wr := [(h0, .inr (5, [.int x1, .int x2, .ref q1, .ref q3, .ref q5])), (q1, .inr (3, [.ref q2, .int 0])), (q2, .inl (cA 0, 12, .inl (fun _ => 0))), (q3, .inr (3, [.ref q4, .int 0])), (q4, .inl (cA 0, 12, .inl (fun _ => 0))), (q5, .inl (cA 5, 5, .inr (.inr (.inr (.inr (va_up (va_up (va_up (va_up (fun _ => none) 0 (some q6)) 1 (some q8)) 2 (some q10)) 3 (some q12))))))), (q6, .inr (3, [.ref q7, .int 0])), (q7, .inl (cA 0, 12, .inl (fun _ => 0))), (q8, .inr (3, [.ref q9, .int 0])), (q9, .inl (cA 0, 12, .inl (fun _ => 0))), (q10, .inr (3, [.ref q11, .int 0])), (q11, .inl (cA 0, 12, .inl (fun _ => 0))), (q12, .inr (3, [.ref q13, .int 0])), (q13, .inl (cA 0, 12, .inl (fun _ => 0)))]) (w1 := [(q14, .inr (3, [.ref q15, .int 0])), (q15, .inl (cA 0, 12, .inl (fun _ => 0)))]) hP hD [14] [0, 1, 2, 3, 4, 5, 6, 7, 8, 9, 10, 11, 12, 13] rfl rfl (by decide) (by decide) hk1 hFc hP1 hD1
  generalize H1 = H at hP hS ⊢
  have hP : va_P D vwCl [(h0, .inr (5, [.int x1, .int x2, .ref q1, .ref q3, .ref q5])), (q1, .inr (3, [.ref q2, .int 0])), (q2, .inl (cA 0, 12, .inl (fun _ => 0))), (q3, .inr (3, [.ref q4, .int 0])), (q4, .inl (cA 0, 12, .inl (fun _ => 0))), (q5, .inl (cA 5, 5, .inr (.inr (.inr (.inr (va_up (va_up (va_up (va_up (fun _ => none) 0 (some q6)) 1 (some q8)) 2 (some q10)) 3 (some q12))))))), (q6, .inr (3, [.ref q7, .int 0])), (q7, .inl (cA 0, 12, .inl (fun _ => 0))), (q8, .inr (3, [.ref q9, .int 0])), (q9, .inl (cA 0, 12, .inl (fun _ => 0))), (q10, .inr (3, [.ref q11, .int 0])), (q11, .inl (cA 0, 12, .inl (fun _ => 0))), (q12, .inr (3, [.ref q13, .int 0])), (q13, .inl (cA 0, 12, .inl (fun _ => 0))), (q14, .inr (3, [.ref q15, .int 0])), (q15, .inl (cA 0, 12, .inl (fun _ => 0)))] H := hP
  have hD : va_D (va_A [(h0, .inr (5, [.int 0, .int 0, .null, .null, .null]))] sz) [(h0, .inr (5, [.int x1, .int x2, .ref q1, .ref q3, .ref q5])), (q1, .inr (3, [.ref q2, .int 0])), (q2, .inl (cA 0, 12, .inl (fun _ => 0))), (q3, .inr (3, [.ref q4, .int 0])), (q4, .inl (cA 0, 12, .inl (fun _ => 0))), (q5, .inl (cA 5, 5, .inr (.inr (.inr (.inr (va_up (va_up (va_up (va_up (fun _ => none) 0 (some q6)) 1 (some q8)) 2 (some q10)) 3 (some q12))))))), (q6, .inr (3, [.ref q7, .int 0])), (q7, .inl (cA 0, 12, .inl (fun _ => 0))), (q8, .inr (3, [.ref q9, .int 0])), (q9, .inl (cA 0, 12, .inl (fun _ => 0))), (q10, .inr (3, [.ref q11, .int 0])), (q11, .inl (cA 0, 12, .inl (fun _ => 0))), (q12, .inr (3, [.ref q13, .int 0])), (q13, .inl (cA 0, 12, .inl (fun _ => 0))), (q14, .inr (3, [.ref q15, .int 0])), (q15, .inl (cA 0, 12, .inl (fun _ => 0)))] := hD
  refine va_astq (tys := tysA cA) (r := (RX4, TX4, 2)) hx hb hKX.1 hP hD hS 5 5 14 3 rfl rfl rfl rfl (by unfold vp_in; decide) dX6_init_73 (fun H locs hP hD hS => ?_)
  have hP : va_P D vwCl [(h0, .inr (5, [.int x1, .int x2, .ref q1, .ref q3, .ref q5])), (q1, .inr (3, [.ref q2, .int 0])), (q2, .inl (cA 0, 12, .inl (fun _ => 0))), (q3, .inr (3, [.ref q4, .int 0])), (q4, .inl (cA 0, 12, .inl (fun _ => 0))), (q5, .inl (cA 5, 5, .inr (.inr (.inr (.inr (va_up (va_up (va_up (va_up (va_up (fun _ => none) 0 (some q6)) 1 (some q8)) 2 (some q10)) 3 (some q12)) 4 (some q14))))))), (q6, .inr (3, [.ref q7, .int 0])), (q7, .inl (cA 0, 12, .inl (fun _ => 0))), (q8, .inr (3, [.ref q9, .int 0])), (q9, .inl (cA 0, 12, .inl (fun _ => 0))), (q10, .inr (3, [.ref q11, .int 0])), (q11, .inl (cA 0, 12, .inl (fun _ => 0))), (q12, .inr (3, [.ref q13, .int 0])), (q13, .inl (cA 0, 12, .inl (fun _ => 0))), (q14, .inr (3, [.ref q15, .int 0])), (q15, .inl (cA 0, 12, .inl (fun _ => 0)))] H := hP
  have hD : va_D (va_A [(h0, .inr (5, [.int 0, .int 0, .null, .null, .null]))] sz) [(h0, .inr (5, [.int x1, .int x2, .ref q1, .ref q3, .ref q5])), (q1, .inr (3, [.ref q2, .int 0])), (q2, .inl (cA 0, 12, .inl (fun _ => 0))), (q3, .inr (3, [.ref q4, .int 0])), (q4, .inl (cA 0, 12, .inl (fun _ => 0))), (q5, .inl (cA 5, 5, .inr (.inr (.inr (.inr (va_up (va_up (va_up (va_up (va_up (fun _ => none) 0 (some q6)) 1 (some q8)) 2 (some q10)) 3 (some q12)) 4 (some q14))))))), (q6, .inr (3, [.ref q7, .int 0])), (q7, .inl (cA 0, 12, .inl (fun _ => 0))), (q8, .inr (3, [.ref q9, .int 0])), (q9, .inl (cA 0, 12, .inl (fun _ => 0))), (q10, .inr (3, [.ref q11, .int 0])), (q11, .inl (cA 0, 12, .inl (fun _ => 0))), (q12, .inr (3, [.ref q13, .int 0])), (q13, .inl (cA 0, 12, .inl (fun _ => 0))), (q14, .inr (3, [.ref q15, .int 0])), (q15, .inl (cA 0, 12, .inl (fun _ => 0)))] := hD
  refine lv_iinc (v := 5) (lv' := [(3, .int 5), (0, .ref h0), (1, .int x1), (2, .int x2)]) hx hb dX6_init_74 hl (k := 0) rfl rfl (by decide) rfl (fun ls hl => ?_)
  refine lv_goto (tgt := 50) hx hb dX6_init_77 (by decide) ?_
  refine lv_iload_n hx hb dX6_init_50 rfl (lv_at hl 0 rfl) ?_
  refine lv_aload_n hx hb dX6_init_51 rfl (lv_at hl 1 rfl) ?_
  refine va_get (D := D) (ci := 5) (v := .ref q5) (C := RX6) (T := TX6) (N := 5) hx hb hC.2.2.2.2 (tU inX6) hC.2.2.2.1 hKX.1 hP 0 rfl rfl 4 (by decide) (tA hC.2.2.2.2 a_923) (fun _ h9 => h9) rfl dX6_init_52 ?_
  refine va_alen (tys := tysA cA) hx hb hKX.1 hP 5 5 rfl rfl (v := 5) rfl dX6_init_55 ?_
  refine lv_icmp_ge (tgt := 80) hx hb dX6_init_56 (by decide) (fun _ => ?_) (fun c9 => absurd (by decide) c9)
  refine W.widen (k := 15) (n := 103) (Nat.le_of_ble_eq_true rfl) (Nat.le_of_ble_eq_true rfl) ?_
  exact Ct_rv hx hb hr hlk ⟨q1, q2, q3, q4, q5, q6, q7, q8, q9, q10, q11, q12, q13, q14, q15, hP, hD⟩ hS dX6_init_80
theorem qi_X6 : VWi yX6_init cX6_init 4 2 := ⟨a_903, a_25, a_902, rfl, by decide +kernel, Nat.le_of_ble_eq_true rfl⟩

/-- a class of views: its first eight fields are View's -/
def VB (ci : Nat) (C : String) (T : u_T) (N : Nat) (ty0 : Nat → FieldType) : Prop := vwCl[ci]? = some (C, T, N) ∧ (∀ w ∈ u_ws C T N, w ∈ ALL) ∧ 8 ≤ N ∧ (∀ k, k < 8 → T k = TX2 k) ∧ (∀ k, k < N → parseFieldDescriptor (T k).2.2.1 = some (ty0 k)) ∧ ∀ a, a < N → ∀ b, b < N → a ≠ b → (T a).2.1 ≠ (T b).2.1
theorem vb_1 : VB 1 RX2 TX2 11 tyX2 := ⟨rfl, inX2, by decide, fun _ _ => rfl, tyX2_ok, nmX2⟩
theorem vb_2 : VB 2 RX3 TX3 11 tyX3 := ⟨rfl, inX3, by decide, by decide +kernel, tyX3_ok, nmX3⟩
theorem vb_4 : VB 4 RX5 TX5 12 tyX5 := ⟨rfl, inX5, by decide, by decide +kernel, tyX5_ok, nmX5⟩
theorem vb_6 : VB 6 RX7 TX7 9 tyX7 := ⟨rfl, inX7, by decide, by decide +kernel, tyX7_ok, nmX7⟩
theorem DXk {D : va_G} {cA : Nat → ClassId} {A A0 : Nat → Prop} {ad : Cd → Nat} {L : List Cd} {G : Gt} {S : St} {H0 H : Heap} {locs : List Loc} (hX0 : DX D cA A0 ad L G S H0) (hfr : ∀ c, c ∈ L → ¬ A (ad c)) (hS : va_S A H0 H locs) : DX D cA A0 ad L G S H := by
  refine ⟨hX0.1.kept (fun k q hk => ?_), hX0.2⟩
  obtain ⟨c, hc, rfl⟩ := List.mem_map.mp (List.mem_of_getElem? hk)
  exact hS.2.1 _ (hX0.1 k _ hk).lt (hfr c hc)
theorem va_nA {a q : Nat} {e : va_E} {sz : Nat} (h : q ≠ a ∧ q < sz) : ¬ va_A [(a, e)] sz q := by
  intro z
  rcases z with ⟨k, e2, z⟩ | z
  · have h1 := List.mem_of_getElem? z
    rw [List.mem_singleton] at h1
    exact h.1 (Prod.mk.inj h1).1
  · omega

set_option maxRecDepth 100000 in
set_option maxHeartbeats 4000000 in
theorem c_X9_init {l : Launch} {D : va_G} {cA : Nat → ClassId} {ad : Cd → Nat} {h0 sz ci N : Nat} {C : String} {T : u_T} {ty0 : Nat → FieldType} {ys : List Value} (vb : VB ci C T N ty0) {x1 x2 x3 x4 : Int32} {o5 o6 : Option Nat} : Ct l D cA (va_A [(h0, .inr (ci, [.int 0, .int 0, .int 0, .int 0, .null, .null, .null, .null] ++ ys))] sz) yX9_init cX9_init 7 none 2 4 48 [.ref h0, .int x1, .int x2, .int x3, .int x4, rO ad 4 o5, rO ad 4 o6] (fun H => H.size = sz ∧ va_P D vwCl [(h0, .inr (ci, [.int 0, .int 0, .int 0, .int 0, .null, .null, .null, .null] ++ ys))] H) none (fun H => ∃ q1 : Nat, ∃ q2 : Nat, ∃ q3 : Nat, ∃ q4 : Nat, va_P D vwCl [(h0, .inr (ci, [.int x1, .int x2, .int x3, .int x4, rO ad 4 o5, rO ad 4 o6, .ref q1, .ref q3] ++ ys)), (q1, .inr (3, [.ref q2, .int 0])), (q2, .inl (cA 0, 12, .inl (fun _ => 0))), (q3, .inr (3, [.ref q4, .int 0])), (q4, .inl (cA 0, 32, .inl (fun _ => 0)))] H ∧ va_D (va_A [(h0, .inr (ci, [.int 0, .int 0, .int 0, .int 0, .null, .null, .null, .null] ++ ys))] sz) [(h0, .inr (ci, [.int x1, .int x2, .int x3, .int x4, rO ad 4 o5, rO ad 4 o6, .ref q1, .ref q3] ++ ys)), (q1, .inr (3, [.ref q2, .int 0])), (q2, .inl (cA 0, 12, .inl (fun _ => 0))), (q3, .inr (3, [.ref q4, .int 0])), (q4, .inl (cA 0, 32, .inl (fun _ => 0)))]) := by
  refine Ct_of (by decide +kernel) (by cases o5 <;> cases o6 <;> exact Nat.le_of_ble_eq_true rfl) ?_
  intro p e s m args below meth c ls hC hr hlk hnm hX hKX hl
  obtain ⟨hsz, hP⟩ := hX
  have hx := hC.1
  have hb := hC.2.1
  have hS : va_S (va_A [(h0, .inr (ci, [.int 0, .int 0, .int 0, .int 0, .null, .null, .null, .null] ++ ys))] sz) s.heap s.heap [] := va_S.rf
  have hA : ∀ q, s.heap.size ≤ q → (va_A [(h0, .inr (ci, [.int 0, .int 0, .int 0, .int 0, .null, .null, .null, .null] ++ ys))] sz) q := fun q h => Or.inr (by rw [← hsz]; exact h)
  have hD : va_D (va_A [(h0, .inr (ci, [.int 0, .int 0, .int 0, .int 0, .null, .null, .null, .null] ++ ys))] sz) [(h0, .inr (ci, [.int 0, .int 0, .int 0, .int 0, .null, .null, .null, .null] ++ ys))] := va_D1
  have hl : lv_has ls 7 [(0, .ref h0), (1, .int x1), (2, .int x2), (3, .int x3), (4, .int x4), (5, rO ad 4 o5), (6, rO ad 4 o6)] := by cases o5 <;> cases o6 <;> exact hl
  refine lv_aload_n hx hb dX9_init_0 rfl (lv_at hl 0 rfl) ?_
  refine W.objInit hx hb hC.2.2.2.1 (tA hC.2.2.2.2 a_686) (tA hC.2.2.2.2 a_42) (tA hC.2.2.2.2 a_43) rfl (by rw [hC.2.2.1]; exact hl.1) rfl dX9_init_1 (Nat.le_of_ble_eq_true rfl) (Nat.le_of_ble_eq_true rfl) ?_
  refine W.eq (g2 := F0 m 4 ls []) rfl ?_
  refine lv_aload_n hx hb dX9_init_4 rfl (lv_at hl 0 rfl) ?_
  refine va_new (ci := 3) (fs := [.null, .int 0]) (C := RX4) (T := TX4) (N := 2) hx hb hC.2.2.2.2 (tU inX4) tyX4 tyX4_ok hC.2.2.2.1 (tA hC.2.2.2.2 a_687) (tA hC.2.2.2.2 a_49) (tA hC.2.2.2.2 a_17) hKX.1 hP hD hS hA rfl dfX4 (Nat.le_of_ble_eq_true rfl) (Nat.le_of_ble_eq_true rfl) dX9_init_5 (fun q1 H hP hD hS => ?_)
  have hP : va_P D vwCl [(h0, .inr (ci, [.int 0, .int 0, .int 0, .int 0, .null, .null, .null, .null] ++ ys)), (q1, .inr (3, [.null, .int 0]))] H := hP
  have hD : va_D (va_A [(h0, .inr (ci, [.int 0, .int 0, .int 0, .int 0, .null, .null, .null, .null] ++ ys))] sz) [(h0, .inr (ci, [.int 0, .int 0, .int 0, .int 0, .null, .null, .null, .null] ++ ys)), (q1, .inr (3, [.null, .int 0]))] := hD
  refine lv_dup hx hb dX9_init_8 rfl ?_
  refine lv_bipush (v := 12) hx hb dX9_init_9 (by decide) ?_
  have hPc := hP.sub (ws' := [(q1, .inr (3, [.null, .int 0]))]) [1] rfl
  have hFc := va_free (wc := [(q1, .inr (3, [.null, .int 0]))]) hD hS hA [1] rfl
  refine Ct_I (As := [.int 12]) (rest := [.ref q1, .ref h0]) hC (c_X4_init (n := 12) (by decide)) qi_X4 a_688 (Nat.le_of_ble_eq_true rfl) ⟨rfl, hPc⟩ hKX rfl hl.1 (Nat.le_of_ble_eq_true rfl) dX9_init_11 ⟨(Nat.le_of_ble_eq_true rfl), (Nat.le_of_ble_eq_true rfl)⟩ hS hFc (fun H1 locs hQ hz1 hk1 hS => ?_)
  obtain ⟨q2, hP1, hD1⟩ := hQ
  obtain ⟨hP, hD⟩ := va_join (wr := [(h0, .inr (ci, [.int 0, .int 0, .int 0, .int 0, .null, .null, .null, .null] ++ ys))]) (w1 := [(q1, .inr (3, [.ref q2, .int 0])), (q2, .inl (cA 0, 12, .inl (fun _ => 0)))]) hP hD [1] [0] rfl rfl (by decide) (by decide) hk1 hFc hP1 hD1
  generalize H1 = H at hP hS ⊢
  have hP : va_P D vwCl [(h0, .inr (ci, [.int 0, .int 0, .int 0, .int 0, .null, .null, .null, .null] ++ ys)), (q1, .inr (3, [.ref q2, .int 0])), (q2, .inl (cA 0, 12, .inl (fun _ => 0)))] H := hP
  have hD : va_D (va_A [(h0, .inr (ci, [.int 0, .int 0, .int 0, .int 0, .null, .null, .null, .null] ++ ys))] sz) [(h0, .inr (ci, [.int 0, .int 0, .int 0, .int 0, .null, .null, .null, .null] ++ ys)), (q1, .inr (3, [.ref q2, .int 0])), (q2, .inl (cA 0, 12, .inl (fun _ => 0)))] := hD
  refine va_putF (ref := "Lensbench$View") (D := D) (ci := ci) (v := .ref q1) (ty := (.object "Lensbench$Rows")) (C := C) (T := T) (N := N) hx hb hC.2.2.2.2 (tU vb.2.1) ty0 vb.2.2.2.2.1 vb.2.2.2.2.2 hC.2.2.2.1 hKX.1 hP hD hS 0 rfl vb.1 6 (Nat.lt_of_lt_of_le (by decide) vb.2.2.1) (by rw [vb.2.2.2.1 6 (by decide)]; exact tA hC.2.2.2.2 a_725) (by rw [vb.2.2.2.1 6 (by decide)]; exact fun _ h9 => h9) (by rw [vb.2.2.2.1 6 (by decide)]; rfl) hnm (by rw [vb.2.2.2.1 6 (by decide)]; rfl) (by rw [vb.2.2.2.1 6 (by decide)]; decide +kernel) rfl rfl (by simp only [List.length_append, List.length_cons]; omega) dX9_init_14 (fun H locs hP hD hS => ?_)
  have hP : va_P D vwCl [(h0, .inr (ci, [.int 0, .int 0, .int 0, .int 0, .null, .null, .ref q1, .null] ++ ys)), (q1, .inr (3, [.ref q2, .int 0])), (q2, .inl (cA 0, 12, .inl (fun _ => 0)))] H := hP
  have hD : va_D (va_A [(h0, .inr (ci, [.int 0, .int 0, .int 0, .int 0, .null, .null, .null, .null] ++ ys))] sz) [(h0, .inr (ci, [.int 0, .int 0, .int 0, .int 0, .null, .null, .ref q1, .null] ++ ys)), (q1, .inr (3, [.ref q2, .int 0])), (q2, .inl (cA 0, 12, .inl (fun _ => 0)))] := hD
  refine lv_aload_n hx hb dX9_init_17 rfl (lv_at hl 0 rfl) ?_
  refine va_new (ci := 3) (fs := [.null, .int 0]) (C := RX4) (T := TX4) (N := 2) hx hb hC.2.2.2.2 (tU inX4) tyX4 tyX4_ok hC.2.2.2.1 (tA hC.2.2.2.2 a_687) (tA hC.2.2.2.2 a_49) (tA hC.2.2.2.2 a_17) hKX.1 hP hD hS hA rfl dfX4 (Nat.le_of_ble_eq_true rfl) (Nat.le_of_ble_eq_true rfl) dX9_init_18 (fun q3 H hP hD hS => ?_)
  have hP : va_P D vwCl [(h0, .inr (ci, [.int 0, .int 0, .int 0, .int 0, .null, .null, .ref q1, .null] ++ ys)), (q1, .inr (3, [.ref q2, .int 0])), (q2, .inl (cA 0, 12, .inl (fun _ => 0))), (q3, .inr (3, [.null, .int 0]))] H := hP
  have hD : va_D (va_A [(h0, .inr (ci, [.int 0, .int 0, .int 0, .int 0, .null, .null, .null, .null] ++ ys))] sz) [(h0, .inr (ci, [.int 0, .int 0, .int 0, .int 0, .null, .null, .ref q1, .null] ++ ys)), (q1, .inr (3, [.ref q2, .int 0])), (q2, .inl (cA 0, 12, .inl (fun _ => 0))), (q3, .inr (3, [.null, .int 0]))] := hD
  refine lv_dup hx hb dX9_init_21 rfl ?_
  refine lv_bipush (v := 32) hx hb dX9_init_22 (by decide) ?_
  have hPc := hP.sub (ws' := [(q3, .inr (3, [.null, .int 0]))]) [3] rfl
  have hFc := va_free (wc := [(q3, .inr (3, [.null, .int 0]))]) hD hS hA [3] rfl
  refine Ct_I (As := [.int 32]) (rest := [.ref q3, .ref h0]) hC (c_X4_init (n := 32) (by decide)) qi_X4 a_688 (Nat.le_of_ble_eq_true rfl) ⟨rfl, hPc⟩ hKX rfl hl.1 (Nat.le_of_ble_eq_true rfl) dX9_init_24 ⟨(Nat.le_of_ble_eq_true rfl), (Nat.le_of_ble_eq_true rfl)⟩ hS hFc (fun H1 locs hQ hz1 hk1 hS => ?_)
  obtain ⟨q4, hP1, hD1⟩ := hQ
  obtain ⟨hP, hD⟩ := va_join (wr := [(h0, .inr (ci, [.int 0, .int 0, .int 0, .int 0, .null, .null, .ref q1, .null] ++ ys)), (q1, .inr (3, [.ref q2, .int 0])), (q2, .inl (cA 0, 12, .inl (fun _ => 0)))]) (w1 := [(q3, .inr (3, [.ref q4, .int 0])), (q4, .inl (cA 0, 32, .inl (fun _ => 0)))]) hP hD [3] [0, 1, 2] rfl rfl (by decide) (by decide) hk1 hFc hP1 hD1
  generalize H1 = H at hP hS ⊢
  have hP : va_P D vwCl [(h0, .inr (ci, [.int 0, .int 0, .int 0, .int 0, .null, .null, .ref q1, .null] ++ ys)), (q1, .inr (3, [.ref q2, .int 0])), (q2, .inl (cA 0, 12, .inl (fun _ => 0))), (q3, .inr (3, [.ref q4, .int 0])), (q4, .inl (cA 0, 32, .inl (fun _ => 0)))] H := hP
  have hD : va_D (va_A [(h0, .inr (ci, [.int 0, .int 0, .int 0, .int 0, .null, .null, .null, .null] ++ ys))] sz) [(h0, .inr (ci, [.int 0, .int 0, .int 0, .int 0, .null, .null, .ref q1, .null] ++ ys)), (q1, .inr (3, [.ref q2, .int 0])), (q2, .inl (cA 0, 12, .inl (fun _ => 0))), (q3, .inr (3, [.ref q4, .int 0])), (q4, .inl (cA 0, 32, .inl (fun _ => 0)))] := hD
  refine va_putF (ref := "Lensbench$View") (D := D) (ci := ci) (v := .ref q3) (ty := (.object "Lensbench$Rows")) (C := C) (T := T) (N := N) hx hb hC.2.2.2.2 (tU vb.2.1) ty0 vb.2.2.2.2.1 vb.2.2.2.2.2 hC.2.2.2.1 hKX.1 hP hD hS 0 rfl vb.1 7 (Nat.lt_of_lt_of_le (by decide) vb.2.2.1) (by rw [vb.2.2.2.1 7 (by decide)]; exact tA hC.2.2.2.2 a_738) (by rw [vb.2.2.2.1 7 (by decide)]; exact fun _ h9 => h9) (by rw [vb.2.2.2.1 7 (by decide)]; rfl) hnm (by rw [vb.2.2.2.1 7 (by decide)]; rfl) (by rw [vb.2.2.2.1 7 (by decide)]; decide +kernel) rfl rfl (by simp only [List.length_append, List.length_cons]; omega) dX9_init_27 (fun H locs hP hD hS => ?_)
  have hP : va_P D vwCl [(h0, .inr (ci, [.int 0, .int 0, .int 0, .int 0, .null, .null, .ref q1, .ref q3] ++ ys)), (q1, .inr (3, [.ref q2, .int 0])), (q2, .inl (cA 0, 12, .inl (fun _ => 0))), (q3, .inr (3, [.ref q4, .int 0])), (q4, .inl (cA 0, 32, .inl (fun _ => 0)))] H := hP
  have hD : va_D (va_A [(h0, .inr (ci, [.int 0, .int 0, .int 0, .int 0, .null, .null, .null, .null] ++ ys))] sz) [(h0, .inr (ci, [.int 0, .int 0, .int 0, .int 0, .null, .null, .ref q1, .ref q3] ++ ys)), (q1, .inr (3, [.ref q2, .int 0])), (q2, .inl (cA 0, 12, .inl (fun _ => 0))), (q3, .inr (3, [.ref q4, .int 0])), (q4, .inl (cA 0, 32, .inl (fun _ => 0)))] := hD
  refine lv_aload_n hx hb dX9_init_30 rfl (lv_at hl 0 rfl) ?_
  refine lv_iload_n hx hb dX9_init_31 rfl (lv_at hl 1 rfl) ?_
  refine va_putF (ref := "Lensbench$View") (D := D) (ci := ci) (v := .int x1) (ty := .int) (C := C) (T := T) (N := N) hx hb hC.2.2.2.2 (tU vb.2.1) ty0 vb.2.2.2.2.1 vb.2.2.2.2.2 hC.2.2.2.1 hKX.1 hP hD hS 0 rfl vb.1 0 (Nat.lt_of_lt_of_le (by decide) vb.2.2.1) (by rw [vb.2.2.2.1 0 (by decide)]; exact tA hC.2.2.2.2 a_693) (by rw [vb.2.2.2.1 0 (by decide)]; exact fun _ h9 => h9) (by rw [vb.2.2.2.1 0 (by decide)]; rfl) hnm (by rw [vb.2.2.2.1 0 (by decide)]; rfl) (by rw [vb.2.2.2.1 0 (by decide)]; decide +kernel) rfl rfl (by simp only [List.length_append, List.length_cons]; omega) dX9_init_32 (fun H locs hP hD hS => ?_)
  have hP : va_P D vwCl [(h0, .inr (ci, [.int x1, .int 0, .int 0, .int 0, .null, .null, .ref q1, .ref q3] ++ ys)), (q1, .inr (3, [.ref q2, .int 0])), (q2, .inl (cA 0, 12, .inl (fun _ => 0))), (q3, .inr (3, [.ref q4, .int 0])), (q4, .inl (cA 0, 32, .inl (fun _ => 0)))] H := hP
  have hD : va_D (va_A [(h0, .inr (ci, [.int 0, .int 0, .int 0, .int 0, .null, .null, .null, .null] ++ ys))] sz) [(h0, .inr (ci, [.int x1, .int 0, .int 0, .int 0, .null, .null, .ref q1, .ref q3] ++ ys)), (q1, .inr (3, [.ref q2, .int 0])), (q2, .inl (cA 0, 12, .inl (fun _ => 0))), (q3, .inr (3, [.ref q4, .int 0])), (q4, .inl (cA 0, 32, .inl (fun _ => 0)))] := hD
  refine lv_aload_n hx hb dX9_init_35 rfl (lv_at hl 0 rfl) ?_
  refine lv_iload_n hx hb dX9_init_36 rfl (lv_at hl 2 rfl) ?_
  refine va_putF (ref := "Lensbench$View") (D := D) (ci := ci) (v := .int x2) (ty := .int) (C := C) (T := T) (N := N) hx hb hC.2.2.2.2 (tU vb.2.1) ty0 vb.2.2.2.2.1 vb.2.2.2.2.2 hC.2.2.2.1 hKX.1 hP hD hS 0 rfl vb.1 1 (Nat.lt_of_lt_of_le (by decide) vb.2.2.1) (by rw [vb.2.2.2.1 1 (by decide)]; exact tA hC.2.2.2.2 a_703) (by rw [vb.2.2.2.1 1 (by decide)]; exact fun _ h9 => h9) (by rw [vb.2.2.2.1 1 (by decide)]; rfl) hnm (by rw [vb.2.2.2.1 1 (by decide)]; rfl) (by rw [vb.2.2.2.1 1 (by decide)]; decide +kernel) rfl rfl (by simp only [List.length_append, List.length_cons]; omega) dX9_init_37 (fun H locs hP hD hS => ?_)
  have hP : va_P D vwCl [(h0, .inr (ci, [.int x1, .int x2, .int 0, .int 0, .null, .null, .ref q1, .ref q3] ++ ys)), (q1, .inr (3, [.ref q2, .int 0])), (q2, .inl (cA 0, 12, .inl (fun _ => 0))), (q3, .inr (3, [.ref q4, .int 0])), (q4, .inl (cA 0, 32, .inl (fun _ => 0)))] H := hP
  have hD : va_D (va_A [(h0, .inr (ci, [.int 0, .int 0, .int 0, .int 0, .null, .null, .null, .null] ++ ys))] sz) [(h0, .inr (ci, [.int x1, .int x2, .int 0, .int 0, .null, .null, .ref q1, .ref q3] ++ ys)), (q1, .inr (3, [.ref q2, .int 0])), (q2, .inl (cA 0, 12, .inl (fun _ => 0))), (q3, .inr (3, [.ref q4, .int 0])), (q4, .inl (cA 0, 32, .inl (fun _ => 0)))] := hD
  refine lv_aload_n hx hb dX9_init_40 rfl (lv_at hl 0 rfl) ?_
  refine lv_iload_n hx hb dX9_init_41 rfl (lv_at hl 3 rfl) ?_
  refine va_putF (ref := "Lensbench$View") (D := D) (ci := ci) (v := .int x3) (ty := .int) (C := C) (T := T) (N := N) hx hb hC.2.2.2.2 (tU vb.2.1) ty0 vb.2.2.2.2.1 vb.2.2.2.2.2 hC.2.2.2.1 hKX.1 hP hD hS 0 rfl vb.1 2 (Nat.lt_of_lt_of_le (by decide) vb.2.2.1) (by rw [vb.2.2.2.1 2 (by decide)]; exact tA hC.2.2.2.2 a_711) (by rw [vb.2.2.2.1 2 (by decide)]; exact fun _ h9 => h9) (by rw [vb.2.2.2.1 2 (by decide)]; rfl) hnm (by rw [vb.2.2.2.1 2 (by decide)]; rfl) (by rw [vb.2.2.2.1 2 (by decide)]; decide +kernel) rfl rfl (by simp only [List.length_append, List.length_cons]; omega) dX9_init_42 (fun H locs hP hD hS => ?_)
  have hP : va_P D vwCl [(h0, .inr (ci, [.int x1, .int x2, .int x3, .int 0, .null, .null, .ref q1, .ref q3] ++ ys)), (q1, .inr (3, [.ref q2, .int 0])), (q2, .inl (cA 0, 12, .inl (fun _ => 0))), (q3, .inr (3, [.ref q4, .int 0])), (q4, .inl (cA 0, 32, .inl (fun _ => 0)))] H := hP
  have hD : va_D (va_A [(h0, .inr (ci, [.int 0, .int 0, .int 0, .int 0, .null, .null, .null, .null] ++ ys))] sz) [(h0, .inr (ci, [.int x1, .int x2, .int x3, .int 0, .null, .null, .ref q1, .ref q3] ++ ys)), (q1, .inr (3, [.ref q2, .int 0])), (q2, .inl (cA 0, 12, .inl (fun _ => 0))), (q3, .inr (3, [.ref q4, .int 0])), (q4, .inl (cA 0, 32, .inl (fun _ => 0)))] := hD
  refine lv_aload_n hx hb dX9_init_45 rfl (lv_at hl 0 rfl) ?_
  refine lv_iload hx hb dX9_init_46 (lv_at hl 4 rfl) ?_
  refine va_putF (ref := "Lensbench$View") (D := D) (ci := ci) (v := .int x4) (ty := .int) (C := C) (T := T) (N := N) hx hb hC.2.2.2.2 (tU vb.2.1) ty0 vb.2.2.2.2.1 vb.2.2.2.2.2 hC.2.2.2.1 hKX.1 hP hD hS 0 rfl vb.1 3 (Nat.lt_of_lt_of_le (by decide) vb.2.2.1) (by rw [vb.2.2.2.1 3 (by decide)]; exact tA hC.2.2.2.2 a_718) (by rw [vb.2.2.2.1 3 (by decide)]; exact fun _ h9 => h9) (by rw [vb.2.2.2.1 3 (by decide)]; rfl) hnm (by rw [vb.2.2.2.1 3 (by decide)]; rfl) (by rw [vb.2.2.2.1 3 (by decide)]; decide +kernel) rfl rfl (by simp only [List.length_append, List.length_cons]; omega) dX9_init_48 (fun H locs hP hD hS => ?_)
  have hP : va_P D vwCl [(h0, .inr (ci, [.int x1, .int x2, .int x3, .int x4, .null, .null, .ref q1, .ref q3] ++ ys)), (q1, .inr (3, [.ref q2, .int 0])), (q2, .inl (cA 0, 12, .inl (fun _ => 0))), (q3, .inr (3, [.ref q4, .int 0])), (q4, .inl (cA 0, 32, .inl (fun _ => 0)))] H := hP
  have hD : va_D (va_A [(h0, .inr (ci, [.int 0, .int 0, .int 0, .int 0, .null, .null, .null, .null] ++ ys))] sz) [(h0, .inr (ci, [.int x1, .int x2, .int x3, .int x4, .null, .null, .ref q1, .ref q3] ++ ys)), (q1, .inr (3, [.ref q2, .int 0])), (q2, .inl (cA 0, 12, .inl (fun _ => 0))), (q3, .inr (3, [.ref q4, .int 0])), (q4, .inl (cA 0, 32, .inl (fun _ => 0)))] := hD
  refine lv_aload_n hx hb dX9_init_51 rfl (lv_at hl 0 rfl) ?_
  refine lv_aloadO hx hb dX9_init_52 (lv_at hl 5 rfl) ?_
  refine va_putF (ref := "Lensbench$View") (D := D) (ci := ci) (v := rO ad 4 o5) (ty := (.object "Lensbench$View")) (C := C) (T := T) (N := N) hx hb hC.2.2.2.2 (tU vb.2.1) ty0 vb.2.2.2.2.1 vb.2.2.2.2.2 hC.2.2.2.1 hKX.1 hP hD hS 0 rfl vb.1 4 (Nat.lt_of_lt_of_le (by decide) vb.2.2.1) (by rw [vb.2.2.2.1 4 (by decide)]; exact tA hC.2.2.2.2 a_720) (by rw [vb.2.2.2.1 4 (by decide)]; exact fun _ h9 => h9) (by rw [vb.2.2.2.1 4 (by decide)]; rfl) hnm (by rw [vb.2.2.2.1 4 (by decide)]; rfl) (by rw [vb.2.2.2.1 4 (by decide)]; decide +kernel) (by cases o5 <;> rfl) (by cases o5 <;> rfl) (by simp only [List.length_append, List.length_cons]; omega) dX9_init_54 (fun H locs hP hD hS => ?_)
  have hP : va_P D vwCl [(h0, .inr (ci, [.int x1, .int x2, .int x3, .int x4, rO ad 4 o5, .null, .ref q1, .ref q3] ++ ys)), (q1, .inr (3, [.ref q2, .int 0])), (q2, .inl (cA 0, 12, .inl (fun _ => 0))), (q3, .inr (3, [.ref q4, .int 0])), (q4, .inl (cA 0, 32, .inl (fun _ => 0)))] H := hP
  have hD : va_D (va_A [(h0, .inr (ci, [.int 0, .int 0, .int 0, .int 0, .null, .null, .null, .null] ++ ys))] sz) [(h0, .inr (ci, [.int x1, .int x2, .int x3, .int x4, rO ad 4 o5, .null, .ref q1, .ref q3] ++ ys)), (q1, .inr (3, [.ref q2, .int 0])), (q2, .inl (cA 0, 12, .inl (fun _ => 0))), (q3, .inr (3, [.ref q4, .int 0])), (q4, .inl (cA 0, 32, .inl (fun _ => 0)))] := hD
  refine lv_aload_n hx hb dX9_init_57 rfl (lv_at hl 0 rfl) ?_
  refine lv_aloadO hx hb dX9_init_58 (lv_at hl 6 rfl) ?_
  refine va_putF (ref := "Lensbench$View") (D := D) (ci := ci) (v := rO ad 4 o6) (ty := (.object "Lensbench$View")) (C := C) (T := T) (N := N) hx hb hC.2.2.2.2 (tU vb.2.1) ty0 vb.2.2.2.2.1 vb.2.2.2.2.2 hC.2.2.2.1 hKX.1 hP hD hS 0 rfl vb.1 5 (Nat.lt_of_lt_of_le (by decide) vb.2.2.1) (by rw [vb.2.2.2.1 5 (by decide)]; exact tA hC.2.2.2.2 a_723) (by rw [vb.2.2.2.1 5 (by decide)]; exact fun _ h9 => h9) (by rw [vb.2.2.2.1 5 (by decide)]; rfl) hnm (by rw [vb.2.2.2.1 5 (by decide)]; rfl) (by rw [vb.2.2.2.1 5 (by decide)]; decide +kernel) (by cases o6 <;> rfl) (by cases o6 <;> rfl) (by simp only [List.length_append, List.length_cons]; omega) dX9_init_60 (fun H locs hP hD hS => ?_)
  have hP : va_P D vwCl [(h0, .inr (ci, [.int x1, .int x2, .int x3, .int x4, rO ad 4 o5, rO ad 4 o6, .ref q1, .ref q3] ++ ys)), (q1, .inr (3, [.ref q2, .int 0])), (q2, .inl (cA 0, 12, .inl (fun _ => 0))), (q3, .inr (3, [.ref q4, .int 0])), (q4, .inl (cA 0, 32, .inl (fun _ => 0)))] H := hP
  have hD : va_D (va_A [(h0, .inr (ci, [.int 0, .int 0, .int 0, .int 0, .null, .null, .null, .null] ++ ys))] sz) [(h0, .inr (ci, [.int x1, .int x2, .int x3, .int x4, rO ad 4 o5, rO ad 4 o6, .ref q1, .ref q3] ++ ys)), (q1, .inr (3, [.ref q2, .int 0])), (q2, .inl (cA 0, 12, .inl (fun _ => 0))), (q3, .inr (3, [.ref q4, .int 0])), (q4, .inl (cA 0, 32, .inl (fun _ => 0)))] := hD
  refine W.widen (k := 4) (n := 48) (Nat.le_of_ble_eq_true rfl) (Nat.le_of_ble_eq_true rfl) ?_
  exact Ct_rv hx hb hr hlk ⟨q1, q2, q3, q4, hP, hD⟩ hS dX9_init_63
theorem qi_X9 : VWi yX9_init cX9_init 7 6 := ⟨a_685, a_30, a_684, rfl, by decide +kernel, Nat.le_of_ble_eq_true rfl⟩

set_option maxRecDepth 100000 in
set_option maxHeartbeats 4000000 in
theorem c_X2_init {l : Launch} {D : va_G} {cA : Nat → ClassId} {A0 : Nat → Prop} {ad : Cd → Nat} {L : List Cd} {G : Gt} {S : St} {nt nv h0 sz : Nat} (hG : WF L G nt nv) (hfr0 : ∀ c, c ∈ L → ad c ≠ h0 ∧ ad c < sz) {x1 x3 x4 : Int32} {v2 : Nat} (hv2 : v2 < nv) : Ct l D cA (va_A [(h0, .inr (1, [.int 0, .int 0, .int 0, .int 0, .null, .null, .null, .null, .null, .int 0, .int 0]))] sz) yX2_init cX2_init 5 none 3 4 48 [.ref h0, .int x1, .ref (ad (4, v2)), .int x3, .int x4] (fun H => H.size = sz ∧ va_P D vwCl [(h0, .inr (1, [.int 0, .int 0, .int 0, .int 0, .null, .null, .null, .null, .null, .int 0, .int 0]))] H ∧ DX D cA A0 ad L G S H) none (fun H => ∃ q1 : Nat, ∃ q2 : Nat, ∃ q3 : Nat, ∃ q4 : Nat, va_P D vwCl [(h0, .inr (1, [.int x1, .int ((G v2 1) &&& ((1 <<< (x3 &&& 31)) ^^^ (-1))), .int (G v2 2), .int (G v2 3), rO ad 4 (some v2), rO ad 4 none, .ref q1, .ref q3, .ref (ad (4, v2)), .int x3, .int x4])), (q1, .inr (3, [.ref q2, .int 0])), (q2, .inl (cA 0, 12, .inl (fun _ => 0))), (q3, .inr (3, [.ref q4, .int 0])), (q4, .inl (cA 0, 32, .inl (fun _ => 0)))] H ∧ va_D (va_A [(h0, .inr (1, [.int 0, .int 0, .int 0, .int 0, .null, .null, .null, .null, .null, .int 0, .int 0]))] sz) [(h0, .inr (1, [.int x1, .int ((G v2 1) &&& ((1 <<< (x3 &&& 31)) ^^^ (-1))), .int (G v2 2), .int (G v2 3), rO ad 4 (some v2), rO ad 4 none, .ref q1, .ref q3, .ref (ad (4, v2)), .int x3, .int x4])), (q1, .inr (3, [.ref q2, .int 0])), (q2, .inl (cA 0, 12, .inl (fun _ => 0))), (q3, .inr (3, [.ref q4, .int 0])), (q4, .inl (cA 0, 32, .inl (fun _ => 0)))]) := by
  refine Ct_of (by decide +kernel) (Nat.le_of_ble_eq_true rfl) ?_
  intro p e s m args below meth c ls hC hr hlk hnm hX hKX hl
  obtain ⟨hsz, hP, hX0⟩ := hX
  have hx := hC.1
  have hb := hC.2.1
  have hS : va_S (va_A [(h0, .inr (1, [.int 0, .int 0, .int 0, .int 0, .null, .null, .null, .null, .null, .int 0, .int 0]))] sz) s.heap s.heap [] := va_S.rf
  have hA : ∀ q, s.heap.size ≤ q → (va_A [(h0, .inr (1, [.int 0, .int 0, .int 0, .int 0, .null, .null, .null, .null, .null, .int 0, .int 0]))] sz) q := fun q h => Or.inr (by rw [← hsz]; exact h)
  have hD : va_D (va_A [(h0, .inr (1, [.int 0, .int 0, .int 0, .int 0, .null, .null, .null, .null, .null, .int 0, .int 0]))] sz) [(h0, .inr (1, [.int 0, .int 0, .int 0, .int 0, .null, .null, .null, .null, .null, .int 0, .int 0]))] := va_D1
  have hfr : ∀ c, c ∈ L → ¬ (va_A [(h0, .inr (1, [.int 0, .int 0, .int 0, .int 0, .null, .null, .null, .null, .null, .int 0, .int 0]))] sz) (ad c) := fun c hc => va_nA (hfr0 c hc)
  have hl : lv_has ls 5 [(0, .ref h0), (1, .int x1), (2, .ref (ad (4, v2))), (3, .int x3), (4, .int x4)] := hl
  refine lv_aload_n hx hb dX2_init_0 rfl (lv_at hl 0 rfl) ?_
  refine lv_iload_n hx hb dX2_init_1 rfl (lv_at hl 1 rfl) ?_
  refine lv_aload_n hx hb dX2_init_2 rfl (lv_at hl 2 rfl) ?_
  have hX := DXk hX0 hfr hS
  refine dgetV (v := v2) (k := 1) (x := .int (G v2 1)) hx hb hC hKX.1 hX hG hv2 (by decide) a_701 (Or.inl rfl) rfl dX2_init_3 ?_
  refine lv_iconst (v := 1) hx hb dX2_init_6 (by decide) ?_
  refine lv_iload_n hx hb dX2_init_7 rfl (lv_at hl 3 rfl) ?_
  refine lv_ishl hx hb dX2_init_8 ?_
  refine lv_iconst (v := (-1)) hx hb dX2_init_9 (by decide) ?_
  refine lv_ixor hx hb dX2_init_10 ?_
  refine lv_iand hx hb dX2_init_11 ?_
  refine lv_aload_n hx hb dX2_init_12 rfl (lv_at hl 2 rfl) ?_
  have hX := DXk hX0 hfr hS
  refine dgetV (v := v2) (k := 2) (x := .int (G v2 2)) hx hb hC hKX.1 hX hG hv2 (by decide) a_710 (Or.inl rfl) rfl dX2_init_13 ?_
  refine lv_aload_n hx hb dX2_init_16 rfl (lv_at hl 2 rfl) ?_
  have hX := DXk hX0 hfr hS
  refine dgetV (v := v2) (k := 3) (x := .int (G v2 3)) hx hb hC hKX.1 hX hG hv2 (by decide) a_717 (Or.inl rfl) rfl dX2_init_17 ?_
  refine lv_aload_n hx hb dX2_init_20 rfl (lv_at hl 2 rfl) ?_
  refine lv_null hx hb dX2_init_21 ?_
  have hPc := hP.sub (ws' := [(h0, .inr (1, [.int 0, .int 0, .int 0, .int 0, .null, .null, .null, .null, .null, .int 0, .int 0]))]) [0] rfl
  have hFc := va_free (wc := [(h0, .inr (1, [.int 0, .int 0, .int 0, .int 0, .null, .null, .null, .null, .null, .int 0, .int 0]))]) hD hS hA [0] rfl
  refine Ct_I (As := [.int x1, .int ((G v2 1) &&& ((1 <<< (x3 &&& 31)) ^^^ (-1))), .int (G v2 2), .int (G v2 3), .ref (ad (4, v2)), .null]) (rest := []) hC (c_X9_init (ad := ad) (ys := [.null, .int 0, .int 0]) (o5 := some v2) (o6 := none) vb_1) qi_X9 a_811 (Nat.le_of_ble_eq_true rfl) ⟨rfl, hPc⟩ hKX rfl hl.1 (Nat.le_of_ble_eq_true rfl) dX2_init_22 ⟨(Nat.le_of_ble_eq_true rfl), (Nat.le_of_ble_eq_true rfl)⟩ hS hFc (fun H1 locs hQ hz1 hk1 hS => ?_)
  obtain ⟨q1, q2, q3, q4, hP1, hD1⟩ := hQ
  obtain ⟨hP, hD⟩ := va_join (wr := []) (w1 := [(h0, .inr (1, [.int x1, .int ((G v2 1) &&& ((1 <<< (x3 &&& 31)) ^^^ (-1))), .int (G v2 2), .int (G v2 3), rO ad 4 (some v2), rO ad 4 none, .ref q1, .ref q3, .null, .int 0, .int 0])), (q1, .inr (3, [.ref q2, .int 0])), (q2, .inl (cA 0, 12, .inl (fun _ => 0))), (q3, .inr (3, [.ref q4, .int 0])), (q4, .inl (cA 0, 32, .inl (fun _ => 0)))]) hP hD [0] [] rfl rfl (by decide) (by decide) hk1 hFc hP1 hD1
  generalize H1 = H at hP hS ⊢
  have hP : va_P D vwCl [(h0, .inr (1, [.int x1, .int ((G v2 1) &&& ((1 <<< (x3 &&& 31)) ^^^ (-1))), .int (G v2 2), .int (G v2 3), rO ad 4 (some v2), rO ad 4 none, .ref q1, .ref q3, .null, .int 0, .int 0])), (q1, .inr (3, [.ref q2, .int 0])), (q2, .inl (cA 0, 12, .inl (fun _ => 0))), (q3, .inr (3, [.ref q4, .int 0])), (q4, .inl (cA 0, 32, .inl (fun _ => 0)))] H := hP
  have hD : va_D (va_A [(h0, .inr (1, [.int 0, .int 0, .int 0, .int 0, .null, .null, .null, .null, .null, .int 0, .int 0]))] sz) [(h0, .inr (1, [.int x1, .int ((G v2 1) &&& ((1 <<< (x3 &&& 31)) ^^^ (-1))), .int (G v2 2), .int (G v2 3), rO ad 4 (some v2), rO ad 4 none, .ref q1, .ref q3, .null, .int 0, .int 0])), (q1, .inr (3, [.ref q2, .int 0])), (q2, .inl (cA 0, 12, .inl (fun _ => 0))), (q3, .inr (3, [.ref q4, .int 0])), (q4, .inl (cA 0, 32, .inl (fun _ => 0)))] := hD
  refine lv_aload_n hx hb dX2_init_25 rfl (lv_at hl 0 rfl) ?_
  refine lv_aload_n hx hb dX2_init_26 rfl (lv_at hl 2 rfl) ?_
  refine va_putF (D := D) (ci := 1) (v := .ref (ad (4, v2))) (ty := (.object "Lensbench$View")) (C := RX2) (T := TX2) (N := 11) hx hb hC.2.2.2.2 (tU inX2) tyX2 tyX2_ok nmX2 hC.2.2.2.1 hKX.1 hP hD hS 0 rfl rfl 8 (by decide) (tA hC.2.2.2.2 a_812) (fun _ h9 => h9) rfl hnm rfl (by decide +kernel) rfl rfl (Nat.le_of_ble_eq_true rfl) dX2_init_27 (fun H locs hP hD hS => ?_)
  have hP : va_P D vwCl [(h0, .inr (1, [.int x1, .int ((G v2 1) &&& ((1 <<< (x3 &&& 31)) ^^^ (-1))), .int (G v2 2), .int (G v2 3), rO ad 4 (some v2), rO ad 4 none, .ref q1, .ref q3, .ref (ad (4, v2)), .int 0, .int 0])), (q1, .inr (3, [.ref q2, .int 0])), (q2, .inl (cA 0, 12, .inl (fun _ => 0))), (q3, .inr (3, [.ref q4, .int 0])), (q4, .inl (cA 0, 32, .inl (fun _ => 0)))] H := hP
  have hD : va_D (va_A [(h0, .inr (1, [.int 0, .int 0, .int 0, .int 0, .null, .null, .null, .null, .null, .int 0, .int 0]))] sz) [(h0, .inr (1, [.int x1, .int ((G v2 1) &&& ((1 <<< (x3 &&& 31)) ^^^ (-1))), .int (G v2 2), .int (G v2 3), rO ad 4 (some v2), rO ad 4 none, .ref q1, .ref q3, .ref (ad (4, v2)), .int 0, .int 0])), (q1, .inr (3, [.ref q2, .int 0])), (q2, .inl (cA 0, 12, .inl (fun _ => 0))), (q3, .inr (3, [.ref q4, .int 0])), (q4, .inl (cA 0, 32, .inl (fun _ => 0)))] := hD
  refine lv_aload_n hx hb dX2_init_30 rfl (lv_at hl 0 rfl) ?_
  refine lv_iload_n hx hb dX2_init_31 rfl (lv_at hl 3 rfl) ?_
  refine va_putF (D := D) (ci := 1) (v := .int x3) (ty := .int) (C := RX2) (T := TX2) (N := 11) hx hb hC.2.2.2.2 (tU inX2) tyX2 tyX2_ok nmX2 hC.2.2.2.1 hKX.1 hP hD hS 0 rfl rfl 9 (by decide) (tA hC.2.2.2.2 a_813) (fun _ h9 => h9) rfl hnm rfl (by decide +kernel) rfl rfl (Nat.le_of_ble_eq_true rfl) dX2_init_32 (fun H locs hP hD hS => ?_)
  have hP : va_P D vwCl [(h0, .inr (1, [.int x1, .int ((G v2 1) &&& ((1 <<< (x3 &&& 31)) ^^^ (-1))), .int (G v2 2), .int (G v2 3), rO ad 4 (some v2), rO ad 4 none, .ref q1, .ref q3, .ref (ad (4, v2)), .int x3, .int 0])), (q1, .inr (3, [.ref q2, .int 0])), (q2, .inl (cA 0, 12, .inl (fun _ => 0))), (q3, .inr (3, [.ref q4, .int 0])), (q4, .inl (cA 0, 32, .inl (fun _ => 0)))] H := hP
  have hD : va_D (va_A [(h0, .inr (1, [.int 0, .int 0, .int 0, .int 0, .null, .null, .null, .null, .null, .int 0, .int 0]))] sz) [(h0, .inr (1, [.int x1, .int ((G v2 1) &&& ((1 <<< (x3 &&& 31)) ^^^ (-1))), .int (G v2 2), .int (G v2 3), rO ad 4 (some v2), rO ad 4 none, .ref q1, .ref q3, .ref (ad (4, v2)), .int x3, .int 0])), (q1, .inr (3, [.ref q2, .int 0])), (q2, .inl (cA 0, 12, .inl (fun _ => 0))), (q3, .inr (3, [.ref q4, .int 0])), (q4, .inl (cA 0, 32, .inl (fun _ => 0)))] := hD
  refine lv_aload_n hx hb dX2_init_35 rfl (lv_at hl 0 rfl) ?_
  refine lv_iload hx hb dX2_init_36 (lv_at hl 4 rfl) ?_
  refine va_putF (D := D) (ci := 1) (v := .int x4) (ty := .int) (C := RX2) (T := TX2) (N := 11) hx hb hC.2.2.2.2 (tU inX2) tyX2 tyX2_ok nmX2 hC.2.2.2.1 hKX.1 hP hD hS 0 rfl rfl 10 (by decide) (tA hC.2.2.2.2 a_814) (fun _ h9 => h9) rfl hnm rfl (by decide +kernel) rfl rfl (Nat.le_of_ble_eq_true rfl) dX2_init_38 (fun H locs hP hD hS => ?_)
  have hP : va_P D vwCl [(h0, .inr (1, [.int x1, .int ((G v2 1) &&& ((1 <<< (x3 &&& 31)) ^^^ (-1))), .int (G v2 2), .int (G v2 3), rO ad 4 (some v2), rO ad 4 none, .ref q1, .ref q3, .ref (ad (4, v2)), .int x3, .int x4])), (q1, .inr (3, [.ref q2, .int 0])), (q2, .inl (cA 0, 12, .inl (fun _ => 0))), (q3, .inr (3, [.ref q4, .int 0])), (q4, .inl (cA 0, 32, .inl (fun _ => 0)))] H := hP
  have hD : va_D (va_A [(h0, .inr (1, [.int 0, .int 0, .int 0, .int 0, .null, .null, .null, .null, .null, .int 0, .int 0]))] sz) [(h0, .inr (1, [.int x1, .int ((G v2 1) &&& ((1 <<< (x3 &&& 31)) ^^^ (-1))), .int (G v2 2), .int (G v2 3), rO ad 4 (some v2), rO ad 4 none, .ref q1, .ref q3, .ref (ad (4, v2)), .int x3, .int x4])), (q1, .inr (3, [.ref q2, .int 0])), (q2, .inl (cA 0, 12, .inl (fun _ => 0))), (q3, .inr (3, [.ref q4, .int 0])), (q4, .inl (cA 0, 32, .inl (fun _ => 0)))] := hD
  refine W.widen (k := 4) (n := 48) (Nat.le_of_ble_eq_true rfl) (Nat.le_of_ble_eq_true rfl) ?_
  exact Ct_rv hx hb hr hlk ⟨q1, q2, q3, q4, hP, hD⟩ hS dX2_init_41
theorem qi_X2 : VWi yX2_init cX2_init 5 4 := ⟨a_810, a_32, a_809, rfl, by decide +kernel, Nat.le_of_ble_eq_true rfl⟩

set_option maxRecDepth 100000 in
set_option maxHeartbeats 4000000 in
theorem c_X3_init {l : Launch} {D : va_G} {cA : Nat → ClassId} {A0 : Nat → Prop} {ad : Cd → Nat} {L : List Cd} {G : Gt} {S : St} {nt nv h0 sz : Nat} (hG : WF L G nt nv) (hfr0 : ∀ c, c ∈ L → ad c ≠ h0 ∧ ad c < sz) {x1 : Int32} {v2 v3 : Nat} (hv2 : v2 < nv) (hv3 : v3 < nv) : Ct l D cA (va_A [(h0, .inr (2, [.int 0, .int 0, .int 0, .int 0, .null, .null, .null, .null, .null, .null, .int 0]))] sz) yX3_init cX3_init 4 none 3 4 48 [.ref h0, .int x1, .ref (ad (4, v2)), .ref (ad (4, v3))] (fun H => H.size = sz ∧ va_P D vwCl [(h0, .inr (2, [.int 0, .int 0, .int 0, .int 0, .null, .null, .null, .null, .null, .null, .int 0]))] H ∧ DX D cA A0 ad L G S H) none (fun H => ∃ q1 : Nat, ∃ q2 : Nat, ∃ q3 : Nat, ∃ q4 : Nat, va_P D vwCl [(h0, .inr (2, [.int x1, .int ((G v2 1) ||| (G v3 1)), .int (G v2 2), .int ((G v2 3) ||| (G v3 3)), rO ad 4 (some v2), rO ad 4 (some v3), .ref q1, .ref q3, .ref (ad (4, v2)), .ref (ad (4, v3)), .int ((G v2 1) &&& (G v3 1))])), (q1, .inr (3, [.ref q2, .int 0])), (q2, .inl (cA 0, 12, .inl (fun _ => 0))), (q3, .inr (3, [.ref q4, .int 0])), (q4, .inl (cA 0, 32, .inl (fun _ => 0)))] H ∧ va_D (va_A [(h0, .inr (2, [.int 0, .int 0, .int 0, .int 0, .null, .null, .null, .null, .null, .null, .int 0]))] sz) [(h0, .inr (2, [.int x1, .int ((G v2 1) ||| (G v3 1)), .int (G v2 2), .int ((G v2 3) ||| (G v3 3)), rO ad 4 (some v2), rO ad 4 (some v3), .ref q1, .ref q3, .ref (ad (4, v2)), .ref (ad (4, v3)), .int ((G v2 1) &&& (G v3 1))])), (q1, .inr (3, [.ref q2, .int 0])), (q2, .inl (cA 0, 12, .inl (fun _ => 0))), (q3, .inr (3, [.ref q4, .int 0])), (q4, .inl (cA 0, 32, .inl (fun _ => 0)))]) := by
  refine Ct_of (by decide +kernel) (Nat.le_of_ble_eq_true rfl) ?_
  intro p e s m args below meth c ls hC hr hlk hnm hX hKX hl
  obtain ⟨hsz, hP, hX0⟩ := hX
  have hx := hC.1
  have hb := hC.2.1
  have hS : va_S (va_A [(h0, .inr (2, [.int 0, .int 0, .int 0, .int 0, .null, .null, .null, .null, .null, .null, .int 0]))] sz) s.heap s.heap [] := va_S.rf
  have hA : ∀ q, s.heap.size ≤ q → (va_A [(h0, .inr (2, [.int 0, .int 0, .int 0, .int 0, .null, .null, .null, .null, .null, .null, .int 0]))] sz) q := fun q h => Or.inr (by rw [← hsz]; exact h)
  have hD : va_D (va_A [(h0, .inr (2, [.int 0, .int 0, .int 0, .int 0, .null, .null, .null, .null, .null, .null, .int 0]))] sz) [(h0, .inr (2, [.int 0, .int 0, .int 0, .int 0, .null, .null, .null, .null, .null, .null, .int 0]))] := va_D1
  have hfr : ∀ c, c ∈ L → ¬ (va_A [(h0, .inr (2, [.int 0, .int 0, .int 0, .int 0, .null, .null, .null, .null, .null, .null, .int 0]))] sz) (ad c) := fun c hc => va_nA (hfr0 c hc)
  have hl : lv_has ls 4 [(0, .ref h0), (1, .int x1), (2, .ref (ad (4, v2))), (3, .ref (ad (4, v3)))] := hl
  refine lv_aload_n hx hb dX3_init_0 rfl (lv_at hl 0 rfl) ?_
  refine lv_iload_n hx hb dX3_init_1 rfl (lv_at hl 1 rfl) ?_
  refine lv_aload_n hx hb dX3_init_2 rfl (lv_at hl 2 rfl) ?_
  have hX := DXk hX0 hfr hS
  refine dgetV (v := v2) (k := 1) (x := .int (G v2 1)) hx hb hC hKX.1 hX hG hv2 (by decide) a_702 (Or.inl rfl) rfl dX3_init_3 ?_
  refine lv_aload_n hx hb dX3_init_6 rfl (lv_at hl 3 rfl) ?_
  have hX := DXk hX0 hfr hS
  refine dgetV (v := v3) (k := 1) (x := .int (G v3 1)) hx hb hC hKX.1 hX hG hv3 (by decide) a_702 (Or.inl rfl) rfl dX3_init_7 ?_
  refine lv_ior hx hb dX3_init_10 ?_
  refine lv_aload_n hx hb dX3_init_11 rfl (lv_at hl 2 rfl) ?_
  have hX := DXk hX0 hfr hS
  refine dgetV (v := v2) (k := 2) (x := .int (G v2 2)) hx hb hC hKX.1 hX hG hv2 (by decide) a_709 (Or.inl rfl) rfl dX3_init_12 ?_
  refine lv_aload_n hx hb dX3_init_15 rfl (lv_at hl 2 rfl) ?_
  have hX := DXk hX0 hfr hS
  refine dgetV (v := v2) (k := 3) (x := .int (G v2 3)) hx hb hC hKX.1 hX hG hv2 (by decide) a_716 (Or.inl rfl) rfl dX3_init_16 ?_
  refine lv_aload_n hx hb dX3_init_19 rfl (lv_at hl 3 rfl) ?_
  have hX := DXk hX0 hfr hS
  refine dgetV (v := v3) (k := 3) (x := .int (G v3 3)) hx hb hC hKX.1 hX hG hv3 (by decide) a_716 (Or.inl rfl) rfl dX3_init_20 ?_
  refine lv_ior hx hb dX3_init_23 ?_
  refine lv_aload_n hx hb dX3_init_24 rfl (lv_at hl 2 rfl) ?_
  refine lv_aload_n hx hb dX3_init_25 rfl (lv_at hl 3 rfl) ?_
  have hPc := hP.sub (ws' := [(h0, .inr (2, [.int 0, .int 0, .int 0, .int 0, .null, .null, .null, .null, .null, .null, .int 0]))]) [0] rfl
  have hFc := va_free (wc := [(h0, .inr (2, [.int 0, .int 0, .int 0, .int 0, .null, .null, .null, .null, .null, .null, .int 0]))]) hD hS hA [0] rfl
  refine Ct_I (As := [.int x1, .int ((G v2 1) ||| (G v3 1)), .int (G v2 2), .int ((G v2 3) ||| (G v3 3)), .ref (ad (4, v2)), .ref (ad (4, v3))]) (rest := []) hC (c_X9_init (ad := ad) (ys := [.null, .null, .int 0]) (o5 := some v2) (o6 := some v3) vb_2) qi_X9 a_843 (Nat.le_of_ble_eq_true rfl) ⟨rfl, hPc⟩ hKX rfl hl.1 (Nat.le_of_ble_eq_true rfl) dX3_init_26 ⟨(Nat.le_of_ble_eq_true rfl), (Nat.le_of_ble_eq_true rfl)⟩ hS hFc (fun H1 locs hQ hz1 hk1 hS => ?_)
  obtain ⟨q1, q2, q3, q4, hP1, hD1⟩ := hQ
  obtain ⟨hP, hD⟩ := va_join (wr := []) (w1 := [(h0, .inr (2, [.int x1, .int ((G v2 1) ||| (G v3 1)), .int (G v2 2), .int ((G v2 3) ||| (G v3 3)), rO ad 4 (some v2), rO ad 4 (some v3), .ref q1, .ref q3, .null, .null, .int 0])), (q1, .inr (3, [.ref q2, .int 0])), (q2, .inl (cA 0, 12, .inl (fun _ => 0))), (q3, .inr (3, [.ref q4, .int 0])), (q4, .inl (cA 0, 32, .inl (fun _ => 0)))]) hP hD [0] [] rfl rfl (by decide) (by decide) hk1 hFc hP1 hD1
  generalize H1 = H at hP hS ⊢
  have hP : va_P D vwCl [(h0, .inr (2, [.int x1, .int ((G v2 1) ||| (G v3 1)), .int (G v2 2), .int ((G v2 3) ||| (G v3 3)), rO ad 4 (some v2), rO ad 4 (some v3), .ref q1, .ref q3, .null, .null, .int 0])), (q1, .inr (3, [.ref q2, .int 0])), (q2, .inl (cA 0, 12, .inl (fun _ => 0))), (q3, .inr (3, [.ref q4, .int 0])), (q4, .inl (cA 0, 32, .inl (fun _ => 0)))] H := hP
  have hD : va_D (va_A [(h0, .inr (2, [.int 0, .int 0, .int 0, .int 0, .null, .null, .null, .null, .null, .null, .int 0]))] sz) [(h0, .inr (2, [.int x1, .int ((G v2 1) ||| (G v3 1)), .int (G v2 2), .int ((G v2 3) ||| (G v3 3)), rO ad 4 (some v2), rO ad 4 (some v3), .ref q1, .ref q3, .null, .null, .int 0])), (q1, .inr (3, [.ref q2, .int 0])), (q2, .inl (cA 0, 12, .inl (fun _ => 0))), (q3, .inr (3, [.ref q4, .int 0])), (q4, .inl (cA 0, 32, .inl (fun _ => 0)))] := hD
  refine lv_aload_n hx hb dX3_init_29 rfl (lv_at hl 0 rfl) ?_
  refine lv_aload_n hx hb dX3_init_30 rfl (lv_at hl 2 rfl) ?_
  refine va_putF (D := D) (ci := 2) (v := .ref (ad (4, v2))) (ty := (.object "Lensbench$View")) (C := RX3) (T := TX3) (N := 11) hx hb hC.2.2.2.2 (tU inX3) tyX3 tyX3_ok nmX3 hC.2.2.2.1 hKX.1 hP hD hS 0 rfl rfl 8 (by decide) (tA hC.2.2.2.2 a_844) (fun _ h9 => h9) rfl hnm rfl (by decide +kernel) rfl rfl (Nat.le_of_ble_eq_true rfl) dX3_init_31 (fun H locs hP hD hS => ?_)
  have hP : va_P D vwCl [(h0, .inr (2, [.int x1, .int ((G v2 1) ||| (G v3 1)), .int (G v2 2), .int ((G v2 3) ||| (G v3 3)), rO ad 4 (some v2), rO ad 4 (some v3), .ref q1, .ref q3, .ref (ad (4, v2)), .null, .int 0])), (q1, .inr (3, [.ref q2, .int 0])), (q2, .inl (cA 0, 12, .inl (fun _ => 0))), (q3, .inr (3, [.ref q4, .int 0])), (q4, .inl (cA 0, 32, .inl (fun _ => 0)))] H := hP
  have hD : va_D (va_A [(h0, .inr (2, [.int 0, .int 0, .int 0, .int 0, .null, .null, .null, .null, .null, .null, .int 0]))] sz) [(h0, .inr (2, [.int x1, .int ((G v2 1) ||| (G v3 1)), .int (G v2 2), .int ((G v2 3) ||| (G v3 3)), rO ad 4 (some v2), rO ad 4 (some v3), .ref q1, .ref q3, .ref (ad (4, v2)), .null, .int 0])), (q1, .inr (3, [.ref q2, .int 0])), (q2, .inl (cA 0, 12, .inl (fun _ => 0))), (q3, .inr (3, [.ref q4, .int 0])), (q4, .inl (cA 0, 32, .inl (fun _ => 0)))] := hD
  refine lv_aload_n hx hb dX3_init_34 rfl (lv_at hl 0 rfl) ?_
  refine lv_aload_n hx hb dX3_init_35 rfl (lv_at hl 3 rfl) ?_
  refine va_putF (D := D) (ci := 2) (v := .ref (ad (4, v3))) (ty := (.object "Lensbench$View")) (C := RX3) (T := TX3) (N := 11) hx hb hC.2.2.2.2 (tU inX3) tyX3 tyX3_ok nmX3 hC.2.2.2.1 hKX.1 hP hD hS 0 rfl rfl 9 (by decide) (tA hC.2.2.2.2 a_845) (fun _ h9 => h9) rfl hnm rfl (by decide +kernel) rfl rfl (Nat.le_of_ble_eq_true rfl) dX3_init_36 (fun H locs hP hD hS => ?_)
  have hP : va_P D vwCl [(h0, .inr (2, [.int x1, .int ((G v2 1) ||| (G v3 1)), .int (G v2 2), .int ((G v2 3) ||| (G v3 3)), rO ad 4 (some v2), rO ad 4 (some v3), .ref q1, .ref q3, .ref (ad (4, v2)), .ref (ad (4, v3)), .int 0])), (q1, .inr (3, [.ref q2, .int 0])), (q2, .inl (cA 0, 12, .inl (fun _ => 0))), (q3, .inr (3, [.ref q4, .int 0])), (q4, .inl (cA 0, 32, .inl (fun _ => 0)))] H := hP
  have hD : va_D (va_A [(h0, .inr (2, [.int 0, .int 0, .int 0, .int 0, .null, .null, .null, .null, .null, .null, .int 0]))] sz) [(h0, .inr (2, [.int x1, .int ((G v2 1) ||| (G v3 1)), .int (G v2 2), .int ((G v2 3) ||| (G v3 3)), rO ad 4 (some v2), rO ad 4 (some v3), .ref q1, .ref q3, .ref (ad (4, v2)), .ref (ad (4, v3)), .int 0])), (q1, .inr (3, [.ref q2, .int 0])), (q2, .inl (cA 0, 12, .inl (fun _ => 0))), (q3, .inr (3, [.ref q4, .int 0])), (q4, .inl (cA 0, 32, .inl (fun _ => 0)))] := hD
  refine lv_aload_n hx hb dX3_init_39 rfl (lv_at hl 0 rfl) ?_
  refine lv_aload_n hx hb dX3_init_40 rfl (lv_at hl 2 rfl) ?_
  have hX := DXk hX0 hfr hS
  refine dgetV (v := v2) (k := 1) (x := .int (G v2 1)) hx hb hC hKX.1 hX hG hv2 (by decide) a_702 (Or.inl rfl) rfl dX3_init_41 ?_
  refine lv_aload_n hx hb dX3_init_44 rfl (lv_at hl 3 rfl) ?_
  have hX := DXk hX0 hfr hS
  refine dgetV (v := v3) (k := 1) (x := .int (G v3 1)) hx hb hC hKX.1 hX hG hv3 (by decide) a_702 (Or.inl rfl) rfl dX3_init_45 ?_
  refine lv_iand hx hb dX3_init_48 ?_
  refine va_putF (D := D) (ci := 2) (v := .int ((G v2 1) &&& (G v3 1))) (ty := .int) (C := RX3) (T := TX3) (N := 11) hx hb hC.2.2.2.2 (tU inX3) tyX3 tyX3_ok nmX3 hC.2.2.2.1 hKX.1 hP hD hS 0 rfl rfl 10 (by decide) (tA hC.2.2.2.2 a_846) (fun _ h9 => h9) rfl hnm rfl (by decide +kernel) rfl rfl (Nat.le_of_ble_eq_true rfl) dX3_init_49 (fun H locs hP hD hS => ?_)
  have hP : va_P D vwCl [(h0, .inr (2, [.int x1, .int ((G v2 1) ||| (G v3 1)), .int (G v2 2), .int ((G v2 3) ||| (G v3 3)), rO ad 4 (some v2), rO ad 4 (some v3), .ref q1, .ref q3, .ref (ad (4, v2)), .ref (ad (4, v3)), .int ((G v2 1) &&& (G v3 1))])), (q1, .inr (3, [.ref q2, .int 0])), (q2, .inl (cA 0, 12, .inl (fun _ => 0))), (q3, .inr (3, [.ref q4, .int 0])), (q4, .inl (cA 0, 32, .inl (fun _ => 0)))] H := hP
  have hD : va_D (va_A [(h0, .inr (2, [.int 0, .int 0, .int 0, .int 0, .null, .null, .null, .null, .null, .null, .int 0]))] sz) [(h0, .inr (2, [.int x1, .int ((G v2 1) ||| (G v3 1)), .int (G v2 2), .int ((G v2 3) ||| (G v3 3)), rO ad 4 (some v2), rO ad 4 (some v3), .ref q1, .ref q3, .ref (ad (4, v2)), .ref (ad (4, v3)), .int ((G v2 1) &&& (G v3 1))])), (q1, .inr (3, [.ref q2, .int 0])), (q2, .inl (cA 0, 12, .inl (fun _ => 0))), (q3, .inr (3, [.ref q4, .int 0])), (q4, .inl (cA 0, 32, .inl (fun _ => 0)))] := hD
  refine W.widen (k := 4) (n := 48) (Nat.le_of_ble_eq_true rfl) (Nat.le_of_ble_eq_true rfl) ?_
  exact Ct_rv hx hb hr hlk ⟨q1, q2, q3, q4, hP, hD⟩ hS dX3_init_52
theorem qi_X3 : VWi yX3_init cX3_init 4 3 := ⟨a_842, a_33, a_841, rfl, by decide +kernel, Nat.le_of_ble_eq_true rfl⟩

set_option maxRecDepth 100000 in
set_option maxHeartbeats 4000000 in
theorem c_X5_init {l : Launch} {D : va_G} {cA : Nat → ClassId} {A0 : Nat → Prop} {ad : Cd → Nat} {L : List Cd} {G : Gt} {S : St} {nt nv h0 sz : Nat} (hG : WF L G nt nv) (hfr0 : ∀ c, c ∈ L → ad c ≠ h0 ∧ ad c < sz) {x1 x3 x4 x5 : Int32} {v2 : Nat} (hv2 : v2 < nv) (hz : x5 = 0 ∨ x5 = 1) : Ct l D cA (va_A [(h0, .inr (4, [.int 0, .int 0, .int 0, .int 0, .null, .null, .null, .null, .null, .int 0, .int 0, .int 0]))] sz) yX5_init cX5_init 6 none 3 4 48 [.ref h0, .int x1, .ref (ad (4, v2)), .int x3, .int x4, .int x5] (fun H => H.size = sz ∧ va_P D vwCl [(h0, .inr (4, [.int 0, .int 0, .int 0, .int 0, .null, .null, .null, .null, .null, .int 0, .int 0, .int 0]))] H ∧ DX D cA A0 ad L G S H) none (fun H => ∃ q1 : Nat, ∃ q2 : Nat, ∃ q3 : Nat, ∃ q4 : Nat, va_P D vwCl [(h0, .inr (4, [.int x1, .int (G v2 1), .int (G v2 2), .int (G v2 3), rO ad 4 (some v2), rO ad 4 none, .ref q1, .ref q3, .ref (ad (4, v2)), .int x3, .int x4, .int x5])), (q1, .inr (3, [.ref q2, .int 0])), (q2, .inl (cA 0, 12, .inl (fun _ => 0))), (q3, .inr (3, [.ref q4, .int 0])), (q4, .inl (cA 0, 32, .inl (fun _ => 0)))] H ∧ va_D (va_A [(h0, .inr (4, [.int 0, .int 0, .int 0, .int 0, .null, .null, .null, .null, .null, .int 0, .int 0, .int 0]))] sz) [(h0, .inr (4, [.int x1, .int (G v2 1), .int (G v2 2), .int (G v2 3), rO ad 4 (some v2), rO ad 4 none, .ref q1, .ref q3, .ref (ad (4, v2)), .int x3, .int x4, .int x5])), (q1, .inr (3, [.ref q2, .int 0])), (q2, .inl (cA 0, 12, .inl (fun _ => 0))), (q3, .inr (3, [.ref q4, .int 0])), (q4, .inl (cA 0, 32, .inl (fun _ => 0)))]) := by
  refine Ct_of (by decide +kernel) (Nat.le_of_ble_eq_true rfl) ?_
  intro p e s m args below meth c ls hC hr hlk hnm hX hKX hl
  obtain ⟨hsz, hP, hX0⟩ := hX
  have hx := hC.1
  have hb := hC.2.1
  have hS : va_S (va_A [(h0, .inr (4, [.int 0, .int 0, .int 0, .int 0, .null, .null, .null, .null, .null, .int 0, .int 0, .int 0]))] sz) s.heap s.heap [] := va_S.rf
  have hA : ∀ q, s.heap.size ≤ q → (va_A [(h0, .inr (4, [.int 0, .int 0, .int 0, .int 0, .null, .null, .null, .null, .null, .int 0, .int 0, .int 0]))] sz) q := fun q h => Or.inr (by rw [← hsz]; exact h)
  have hD : va_D (va_A [(h0, .inr (4, [.int 0, .int 0, .int 0, .int 0, .null, .null, .null, .null, .null, .int 0, .int 0, .int 0]))] sz) [(h0, .inr (4, [.int 0, .int 0, .int 0, .int 0, .null, .null, .null, .null, .null, .int 0, .int 0, .int 0]))] := va_D1
  have hfr : ∀ c, c ∈ L → ¬ (va_A [(h0, .inr (4, [.int 0, .int 0, .int 0, .int 0, .null, .null, .null, .null, .null, .int 0, .int 0, .int 0]))] sz) (ad c) := fun c hc => va_nA (hfr0 c hc)
  have hl : lv_has ls 6 [(0, .ref h0), (1, .int x1), (2, .ref (ad (4, v2))), (3, .int x3), (4, .int x4), (5, .int x5)] := hl
  refine lv_aload_n hx hb dX5_init_0 rfl (lv_at hl 0 rfl) ?_
  refine lv_iload_n hx hb dX5_init_1 rfl (lv_at hl 1 rfl) ?_
  refine lv_aload_n hx hb dX5_init_2 rfl (lv_at hl 2 rfl) ?_
  have hX := DXk hX0 hfr hS
  refine dgetV (v := v2) (k := 1) (x := .int (G v2 1)) hx hb hC hKX.1 hX hG hv2 (by decide) a_700 (Or.inl rfl) rfl dX5_init_3 ?_
  refine lv_aload_n hx hb dX5_init_6 rfl (lv_at hl 2 rfl) ?_
  have hX := DXk hX0 hfr hS
  refine dgetV (v := v2) (k := 2) (x := .int (G v2 2)) hx hb hC hKX.1 hX hG hv2 (by decide) a_708 (Or.inl rfl) rfl dX5_init_7 ?_
  refine lv_aload_n hx hb dX5_init_10 rfl (lv_at hl 2 rfl) ?_
  have hX := DXk hX0 hfr hS
  refine dgetV (v := v2) (k := 3) (x := .int (G v2 3)) hx hb hC hKX.1 hX hG hv2 (by decide) a_715 (Or.inl rfl) rfl dX5_init_11 ?_
  refine lv_aload_n hx hb dX5_init_14 rfl (lv_at hl 2 rfl) ?_
  refine lv_null hx hb dX5_init_15 ?_
  have hPc := hP.sub (ws' := [(h0, .inr (4, [.int 0, .int 0, .int 0, .int 0, .null, .null, .null, .null, .null, .int 0, .int 0, .int 0]))]) [0] rfl
  have hFc := va_free (wc := [(h0, .inr (4, [.int 0, .int 0, .int 0, .int 0, .null, .null, .null, .null, .null, .int 0, .int 0, .int 0]))]) hD hS hA [0] rfl
  refine Ct_I (As := [.int x1, .int (G v2 1), .int (G v2 2), .int (G v2 3), .ref (ad (4, v2)), .null]) (rest := []) hC (c_X9_init (ad := ad) (ys := [.null, .int 0, .int 0, .int 0]) (o5 := some v2) (o6 := none) vb_4) qi_X9 a_683 (Nat.le_of_ble_eq_true rfl) ⟨rfl, hPc⟩ hKX rfl hl.1 (Nat.le_of_ble_eq_true rfl) dX5_init_16 ⟨(Nat.le_of_ble_eq_true rfl), (Nat.le_of_ble_eq_true rfl)⟩ hS hFc (fun H1 locs hQ hz1 hk1 hS => ?_)
  obtain ⟨q1, q2, q3, q4, hP1, hD1⟩ := hQ
  obtain ⟨hP, hD⟩ := va_join (wr := []) (w1 := [(h0, .inr (4, [.int x1, .int (G v2 1), .int (G v2 2), .int (G v2 3), rO ad 4 (some v2), rO ad 4 none, .ref q1, .ref q3, .null, .int 0, .int 0, .int 0])), (q1, .inr (3, [.ref q2, .int 0])), (q2, .inl (cA 0, 12, .inl (fun _ => 0))), (q3, .inr (3, [.ref q4, .int 0])), (q4, .inl (cA 0, 32, .inl (fun _ => 0)))]) hP hD [0] [] rfl rfl (by decide) (by decide) hk1 hFc hP1 hD1
  generalize H1 = H at hP hS ⊢
  have hP : va_P D vwCl [(h0, .inr (4, [.int x1, .int (G v2 1), .int (G v2 2), .int (G v2 3), rO ad 4 (some v2), rO ad 4 none, .ref q1, .ref q3, .null, .int 0, .int 0, .int 0])), (q1, .inr (3, [.ref q2, .int 0])), (q2, .inl (cA 0, 12, .inl (fun _ => 0))), (q3, .inr (3, [.ref q4, .int 0])), (q4, .inl (cA 0, 32, .inl (fun _ => 0)))] H := hP
  have hD : va_D (va_A [(h0, .inr (4, [.int 0, .int 0, .int 0, .int 0, .null, .null, .null, .null, .null, .int 0, .int 0, .int 0]))] sz) [(h0, .inr (4, [.int x1, .int (G v2 1), .int (G v2 2), .int (G v2 3), rO ad 4 (some v2), rO ad 4 none, .ref q1, .ref q3, .null, .int 0, .int 0, .int 0])), (q1, .inr (3, [.ref q2, .int 0])), (q2, .inl (cA 0, 12, .inl (fun _ => 0))), (q3, .inr (3, [.ref q4, .int 0])), (q4, .inl (cA 0, 32, .inl (fun _ => 0)))] := hD
  refine lv_aload_n hx hb dX5_init_19 rfl (lv_at hl 0 rfl) ?_
  refine lv_aload_n hx hb dX5_init_20 rfl (lv_at hl 2 rfl) ?_
  refine va_putF (D := D) (ci := 4) (v := .ref (ad (4, v2))) (ty := (.object "Lensbench$View")) (C := RX5) (T := TX5) (N := 12) hx hb hC.2.2.2.2 (tU inX5) tyX5 tyX5_ok nmX5 hC.2.2.2.1 hKX.1 hP hD hS 0 rfl rfl 8 (by decide) (tA hC.2.2.2.2 a_689) (fun _ h9 => h9) rfl hnm rfl (by decide +kernel) rfl rfl (Nat.le_of_ble_eq_true rfl) dX5_init_21 (fun H locs hP hD hS => ?_)
  have hP : va_P D vwCl [(h0, .inr (4, [.int x1, .int (G v2 1), .int (G v2 2), .int (G v2 3), rO ad 4 (some v2), rO ad 4 none, .ref q1, .ref q3, .ref (ad (4, v2)), .int 0, .int 0, .int 0])), (q1, .inr (3, [.ref q2, .int 0])), (q2, .inl (cA 0, 12, .inl (fun _ => 0))), (q3, .inr (3, [.ref q4, .int 0])), (q4, .inl (cA 0, 32, .inl (fun _ => 0)))] H := hP
  have hD : va_D (va_A [(h0, .inr (4, [.int 0, .int 0, .int 0, .int 0, .null, .null, .null, .null, .null, .int 0, .int 0, .int 0]))] sz) [(h0, .inr (4, [.int x1, .int (G v2 1), .int (G v2 2), .int (G v2 3), rO ad 4 (some v2), rO ad 4 none, .ref q1, .ref q3, .ref (ad (4, v2)), .int 0, .int 0, .int 0])), (q1, .inr (3, [.ref q2, .int 0])), (q2, .inl (cA 0, 12, .inl (fun _ => 0))), (q3, .inr (3, [.ref q4, .int 0])), (q4, .inl (cA 0, 32, .inl (fun _ => 0)))] := hD
  refine lv_aload_n hx hb dX5_init_24 rfl (lv_at hl 0 rfl) ?_
  refine lv_iload_n hx hb dX5_init_25 rfl (lv_at hl 3 rfl) ?_
  refine va_putF (D := D) (ci := 4) (v := .int x3) (ty := .int) (C := RX5) (T := TX5) (N := 12) hx hb hC.2.2.2.2 (tU inX5) tyX5 tyX5_ok nmX5 hC.2.2.2.1 hKX.1 hP hD hS 0 rfl rfl 9 (by decide) (tA hC.2.2.2.2 a_690) (fun _ h9 => h9) rfl hnm rfl (by decide +kernel) rfl rfl (Nat.le_of_ble_eq_true rfl) dX5_init_26 (fun H locs hP hD hS => ?_)
  have hP : va_P D vwCl [(h0, .inr (4, [.int x1, .int (G v2 1), .int (G v2 2), .int (G v2 3), rO ad 4 (some v2), rO ad 4 none, .ref q1, .ref q3, .ref (ad (4, v2)), .int x3, .int 0, .int 0])), (q1, .inr (3, [.ref q2, .int 0])), (q2, .inl (cA 0, 12, .inl (fun _ => 0))), (q3, .inr (3, [.ref q4, .int 0])), (q4, .inl (cA 0, 32, .inl (fun _ => 0)))] H := hP
  have hD : va_D (va_A [(h0, .inr (4, [.int 0, .int 0, .int 0, .int 0, .null, .null, .null, .null, .null, .int 0, .int 0, .int 0]))] sz) [(h0, .inr (4, [.int x1, .int (G v2 1), .int (G v2 2), .int (G v2 3), rO ad 4 (some v2), rO ad 4 none, .ref q1, .ref q3, .ref (ad (4, v2)), .int x3, .int 0, .int 0])), (q1, .inr (3, [.ref q2, .int 0])), (q2, .inl (cA 0, 12, .inl (fun _ => 0))), (q3, .inr (3, [.ref q4, .int 0])), (q4, .inl (cA 0, 32, .inl (fun _ => 0)))] := hD
  refine lv_aload_n hx hb dX5_init_29 rfl (lv_at hl 0 rfl) ?_
  refine lv_iload hx hb dX5_init_30 (lv_at hl 4 rfl) ?_
  refine va_putF (D := D) (ci := 4) (v := .int x4) (ty := .int) (C := RX5) (T := TX5) (N := 12) hx hb hC.2.2.2.2 (tU inX5) tyX5 tyX5_ok nmX5 hC.2.2.2.1 hKX.1 hP hD hS 0 rfl rfl 10 (by decide) (tA hC.2.2.2.2 a_691) (fun _ h9 => h9) rfl hnm rfl (by decide +kernel) rfl rfl (Nat.le_of_ble_eq_true rfl) dX5_init_32 (fun H locs hP hD hS => ?_)
  have hP : va_P D vwCl [(h0, .inr (4, [.int x1, .int (G v2 1), .int (G v2 2), .int (G v2 3), rO ad 4 (some v2), rO ad 4 none, .ref q1, .ref q3, .ref (ad (4, v2)), .int x3, .int x4, .int 0])), (q1, .inr (3, [.ref q2, .int 0])), (q2, .inl (cA 0, 12, .inl (fun _ => 0))), (q3, .inr (3, [.ref q4, .int 0])), (q4, .inl (cA 0, 32, .inl (fun _ => 0)))] H := hP
  have hD : va_D (va_A [(h0, .inr (4, [.int 0, .int 0, .int 0, .int 0, .null, .null, .null, .null, .null, .int 0, .int 0, .int 0]))] sz) [(h0, .inr (4, [.int x1, .int (G v2 1), .int (G v2 2), .int (G v2 3), rO ad 4 (some v2), rO ad 4 none, .ref q1, .ref q3, .ref (ad (4, v2)), .int x3, .int x4, .int 0])), (q1, .inr (3, [.ref q2, .int 0])), (q2, .inl (cA 0, 12, .inl (fun _ => 0))), (q3, .inr (3, [.ref q4, .int 0])), (q4, .inl (cA 0, 32, .inl (fun _ => 0)))] := hD
  refine lv_aload_n hx hb dX5_init_35 rfl (lv_at hl 0 rfl) ?_
  refine lv_iload hx hb dX5_init_36 (lv_at hl 5 rfl) ?_
  refine va_putF (D := D) (ci := 4) (v := .int x5) (ty := .boolean) (C := RX5) (T := TX5) (N := 12) hx hb hC.2.2.2.2 (tU inX5) tyX5 tyX5_ok nmX5 hC.2.2.2.1 hKX.1 hP hD hS 0 rfl rfl 11 (by decide) (tA hC.2.2.2.2 a_692) (fun _ h9 => h9) rfl hnm rfl (by decide +kernel) (nz01 hz) (by rcases hz with rfl | rfl <;> decide) (Nat.le_of_ble_eq_true rfl) dX5_init_38 (fun H locs hP hD hS => ?_)
  have hP : va_P D vwCl [(h0, .inr (4, [.int x1, .int (G v2 1), .int (G v2 2), .int (G v2 3), rO ad 4 (some v2), rO ad 4 none, .ref q1, .ref q3, .ref (ad (4, v2)), .int x3, .int x4, .int x5])), (q1, .inr (3, [.ref q2, .int 0])), (q2, .inl (cA 0, 12, .inl (fun _ => 0))), (q3, .inr (3, [.ref q4, .int 0])), (q4, .inl (cA 0, 32, .inl (fun _ => 0)))] H := hP
  have hD : va_D (va_A [(h0, .inr (4, [.int 0, .int 0, .int 0, .int 0, .null, .null, .null, .null, .null, .int 0, .int 0, .int 0]))] sz) [(h0, .inr (4, [.int x1, .int (G v2 1), .int (G v2 2), .int (G v2 3), rO ad 4 (some v2), rO ad 4 none, .ref q1, .ref q3, .ref (ad (4, v2)), .int x3, .int x4, .int x5])), (q1, .inr (3, [.ref q2, .int 0])), (q2, .inl (cA 0, 12, .inl (fun _ => 0))), (q3, .inr (3, [.ref q4, .int 0])), (q4, .inl (cA 0, 32, .inl (fun _ => 0)))] := hD
  refine W.widen (k := 4) (n := 48) (Nat.le_of_ble_eq_true rfl) (Nat.le_of_ble_eq_true rfl) ?_
  exact Ct_rv hx hb hr hlk ⟨q1, q2, q3, q4, hP, hD⟩ hS dX5_init_41
theorem qi_X5 : VWi yX5_init cX5_init 6 5 := ⟨a_682, a_31, a_681, rfl, by decide +kernel, Nat.le_of_ble_eq_true rfl⟩

set_option maxRecDepth 100000 in
set_option maxHeartbeats 4000000 in
theorem c_X7_init {l : Launch} {D : va_G} {cA : Nat → ClassId} {A0 : Nat → Prop} {ad : Cd → Nat} {L : List Cd} {G : Gt} {S : St} {nt nv h0 sz : Nat} (hG : WF L G nt nv) (hfr0 : ∀ c, c ∈ L → ad c ≠ h0 ∧ ad c < sz) {x1 x3 : Int32} {t2 : Nat} (ht2 : t2 < nt) : Ct l D cA (va_A [(h0, .inr (6, [.int 0, .int 0, .int 0, .int 0, .null, .null, .null, .null, .null]))] sz) yX7_init cX7_init 4 none 3 4 48 [.ref h0, .int x1, .ref (ad (2, t2)), .int x3] (fun H => H.size = sz ∧ va_P D vwCl [(h0, .inr (6, [.int 0, .int 0, .int 0, .int 0, .null, .null, .null, .null, .null]))] H ∧ DX D cA A0 ad L G S H) none (fun H => ∃ q1 : Nat, ∃ q2 : Nat, ∃ q3 : Nat, ∃ q4 : Nat, va_P D vwCl [(h0, .inr (6, [.int x1, .int (G (20 + t2) 0), .int (G (20 + t2) 1), .int x3, rO ad 4 none, rO ad 4 none, .ref q1, .ref q3, .ref (ad (2, t2))])), (q1, .inr (3, [.ref q2, .int 0])), (q2, .inl (cA 0, 12, .inl (fun _ => 0))), (q3, .inr (3, [.ref q4, .int 0])), (q4, .inl (cA 0, 32, .inl (fun _ => 0)))] H ∧ va_D (va_A [(h0, .inr (6, [.int 0, .int 0, .int 0, .int 0, .null, .null, .null, .null, .null]))] sz) [(h0, .inr (6, [.int x1, .int (G (20 + t2) 0), .int (G (20 + t2) 1), .int x3, rO ad 4 none, rO ad 4 none, .ref q1, .ref q3, .ref (ad (2, t2))])), (q1, .inr (3, [.ref q2, .int 0])), (q2, .inl (cA 0, 12, .inl (fun _ => 0))), (q3, .inr (3, [.ref q4, .int 0])), (q4, .inl (cA 0, 32, .inl (fun _ => 0)))]) := by
  refine Ct_of (by decide +kernel) (Nat.le_of_ble_eq_true rfl) ?_
  intro p e s m args below meth c ls hC hr hlk hnm hX hKX hl
  obtain ⟨hsz, hP, hX0⟩ := hX
  have hx := hC.1
  have hb := hC.2.1
  have hS : va_S (va_A [(h0, .inr (6, [.int 0, .int 0, .int 0, .int 0, .null, .null, .null, .null, .null]))] sz) s.heap s.heap [] := va_S.rf
  have hA : ∀ q, s.heap.size ≤ q → (va_A [(h0, .inr (6, [.int 0, .int 0, .int 0, .int 0, .null, .null, .null, .null, .null]))] sz) q := fun q h => Or.inr (by rw [← hsz]; exact h)
  have hD : va_D (va_A [(h0, .inr (6, [.int 0, .int 0, .int 0, .int 0, .null, .null, .null, .null, .null]))] sz) [(h0, .inr (6, [.int 0, .int 0, .int 0, .int 0, .null, .null, .null, .null, .null]))] := va_D1
  have hfr : ∀ c, c ∈ L → ¬ (va_A [(h0, .inr (6, [.int 0, .int 0, .int 0, .int 0, .null, .null, .null, .null, .null]))] sz) (ad c) := fun c hc => va_nA (hfr0 c hc)
  have hl : lv_has ls 4 [(0, .ref h0), (1, .int x1), (2, .ref (ad (2, t2))), (3, .int x3)] := hl
  refine lv_aload_n hx hb dX7_init_0 rfl (lv_at hl 0 rfl) ?_
  refine lv_iload_n hx hb dX7_init_1 rfl (lv_at hl 1 rfl) ?_
  refine lv_aload_n hx hb dX7_init_2 rfl (lv_at hl 2 rfl) ?_
  have hX := DXk hX0 hfr hS
  refine dget (cd := (2, t2)) (ci := 5) (C := RX6) (T := TX6) (N := 5) (v := .int (G (20 + t2) 0)) hx hb hC hKX.1 hX (hG.T ht2) rfl rfl inX6 0 (by decide) a_908 (Or.inl rfl) rfl dX7_init_3 ?_
  refine lv_aload_n hx hb dX7_init_6 rfl (lv_at hl 2 rfl) ?_
  have hX := DXk hX0 hfr hS
  refine dget (cd := (2, t2)) (ci := 5) (C := RX6) (T := TX6) (N := 5) (v := .int (G (20 + t2) 1)) hx hb hC hKX.1 hX (hG.T ht2) rfl rfl inX6 1 (by decide) a_912 (Or.inl rfl) rfl dX7_init_7 ?_
  refine lv_iload_n hx hb dX7_init_10 rfl (lv_at hl 3 rfl) ?_
  refine lv_null hx hb dX7_init_11 ?_
  refine lv_null hx hb dX7_init_12 ?_
  have hPc := hP.sub (ws' := [(h0, .inr (6, [.int 0, .int 0, .int 0, .int 0, .null, .null, .null, .null, .null]))]) [0] rfl
  have hFc := va_free (wc := [(h0, .inr (6, [.int 0, .int 0, .int 0, .int 0, .null, .null, .null, .null, .null]))]) hD hS hA [0] rfl
  refine Ct_I (As := [.int x1, .int (G (20 + t2) 0), .int (G (20 + t2) 1), .int x3, .null, .null]) (rest := []) hC (c_X9_init (ad := ad) (ys := [.null]) (o5 := none) (o6 := none) vb_6) qi_X9 a_875 (Nat.le_of_ble_eq_true rfl) ⟨rfl, hPc⟩ hKX rfl hl.1 (Nat.le_of_ble_eq_true rfl) dX7_init_13 ⟨(Nat.le_of_ble_eq_true rfl), (Nat.le_of_ble_eq_true rfl)⟩ hS hFc (fun H1 locs hQ hz1 hk1 hS => ?_)
  obtain ⟨q1, q2, q3, q4, hP1, hD1⟩ := hQ
  obtain ⟨hP, hD⟩ := va_join (wr := []) (w1 := [(h0, .inr (6, [.int x1, .int (G (20 + t2) 0), .int (G (20 + t2) 1), .int x3, rO ad 4 none, rO ad 4 none, .ref q1, .ref q3, .null])), (q1, .inr (3, [.ref q2, .int 0])), (q2, .inl (cA 0, 12, .inl (fun _ => 0))), (q3, .inr (3, [.ref q4, .int 0])), (q4, .inl (cA 0, 32, .inl (fun _ => 0)))]) hP hD [0] [] rfl rfl (by decide) (by decide) hk1 hFc hP1 hD1
  generalize H1 = H at hP hS ⊢
  have hP : va_P D vwCl [(h0, .inr (6, [.int x1, .int (G (20 + t2) 0), .int (G (20 + t2) 1), .int x3, rO ad 4 none, rO ad 4 none, .ref q1, .ref q3, .null])), (q1, .inr (3, [.ref q2, .int 0])), (q2, .inl (cA 0, 12, .inl (fun _ => 0))), (q3, .inr (3, [.ref q4, .int 0])), (q4, .inl (cA 0, 32, .inl (fun _ => 0)))] H := hP
  have hD : va_D (va_A [(h0, .inr (6, [.int 0, .int 0, .int 0, .int 0, .null, .null, .null, .null, .null]))] sz) [(h0, .inr (6, [.int x1, .int (G (20 + t2) 0), .int (G (20 + t2) 1), .int x3, rO ad 4 none, rO ad 4 none, .ref q1, .ref q3, .null])), (q1, .inr (3, [.ref q2, .int 0])), (q2, .inl (cA 0, 12, .inl (fun _ => 0))), (q3, .inr (3, [.ref q4, .int 0])), (q4, .inl (cA 0, 32, .inl (fun _ => 0)))] := hD
  refine lv_aload_n hx hb dX7_init_16 rfl (lv_at hl 0 rfl) ?_
  refine lv_aload_n hx hb dX7_init_17 rfl (lv_at hl 2 rfl) ?_
  refine va_putF (D := D) (ci := 6) (v := .ref (ad (2, t2))) (ty := (.object "Lensbench$Table")) (C := RX7) (T := TX7) (N := 9) hx hb hC.2.2.2.2 (tU inX7) tyX7 tyX7_ok nmX7 hC.2.2.2.1 hKX.1 hP hD hS 0 rfl rfl 8 (by decide) (tA hC.2.2.2.2 a_876) (fun _ h9 => h9) rfl hnm rfl (by decide +kernel) rfl rfl (Nat.le_of_ble_eq_true rfl) dX7_init_18 (fun H locs hP hD hS => ?_)
  have hP : va_P D vwCl [(h0, .inr (6, [.int x1, .int (G (20 + t2) 0), .int (G (20 + t2) 1), .int x3, rO ad 4 none, rO ad 4 none, .ref q1, .ref q3, .ref (ad (2, t2))])), (q1, .inr (3, [.ref q2, .int 0])), (q2, .inl (cA 0, 12, .inl (fun _ => 0))), (q3, .inr (3, [.ref q4, .int 0])), (q4, .inl (cA 0, 32, .inl (fun _ => 0)))] H := hP
  have hD : va_D (va_A [(h0, .inr (6, [.int 0, .int 0, .int 0, .int 0, .null, .null, .null, .null, .null]))] sz) [(h0, .inr (6, [.int x1, .int (G (20 + t2) 0), .int (G (20 + t2) 1), .int x3, rO ad 4 none, rO ad 4 none, .ref q1, .ref q3, .ref (ad (2, t2))])), (q1, .inr (3, [.ref q2, .int 0])), (q2, .inl (cA 0, 12, .inl (fun _ => 0))), (q3, .inr (3, [.ref q4, .int 0])), (q4, .inl (cA 0, 32, .inl (fun _ => 0)))] := hD
  refine W.widen (k := 4) (n := 48) (Nat.le_of_ble_eq_true rfl) (Nat.le_of_ble_eq_true rfl) ?_
  exact Ct_rv hx hb hr hlk ⟨q1, q2, q3, q4, hP, hD⟩ hS dX7_init_21
theorem qi_X7 : VWi yX7_init cX7_init 4 3 := ⟨a_874, a_34, a_873, rfl, by decide +kernel, Nat.le_of_ble_eq_true rfl⟩
