theorem q_l_number : VWs yL_number cL_number 1 (some .int) 1 := ⟨a_580, a_15, a_579, by decide +kernel⟩
set_option maxRecDepth 100000 in
set_option maxHeartbeats 4000000 in
theorem c_l_number {l : Launch} {D : va_G} {cA : Nat → ClassId} {A : Nat → Prop} {ad : Nat → Nat} {K : List Nat} (hKK : ∀ c ∈ La, c ∈ K) {x1 : Int32} {M : Lt} {r : Int32} (hf : l_number x1 = some r) : Ct l D cA A yL_number cL_number 1 (some .int) 0 0 0 [.int x1] (LX D cA A K ad M) (some (.int r)) (LX D cA A K ad M) := by
  refine Ct_of (by decide +kernel) (Nat.le_of_ble_eq_true rfl) ?_
  intro p e s m args below meth c ls hC hr hlk hnm hX hKX hl
  have hx := hC.1
  have hb := hC.2.1
  have hS : va_S A s.heap s.heap [] := va_S.rf
  have hl : lv_has ls 1 [(0, .int x1)] := hl
  unfold l_number at hf
  refine lv_iload_n hx hb dL_number_0 rfl (lv_at hl 0 rfl) ?_
  refine lv_iconst (v := 3) hx hb dL_number_1 (by decide) ?_
  have h3 : ¬ (3 : Int32) = 0 := by decide
  refine lv_irem hx hb dL_number_2 h3 ?_
  refine lv_bipush (v := 10) hx hb dL_number_3 (by decide) ?_
  refine lv_iload_n hx hb dL_number_5 rfl (lv_at hl 0 rfl) ?_
  refine lv_iconst (v := 3) hx hb dL_number_6 (by decide) ?_
  have h4 : ¬ (3 : Int32) = 0 := by decide
  refine lv_idiv hx hb dL_number_7 h4 ?_
  refine lv_iconst (v := 3) hx hb dL_number_8 (by decide) ?_
  have h5 : ¬ (3 : Int32) = 0 := by decide
  refine lv_irem hx hb dL_number_9 h5 ?_
  refine lv_imul hx hb dL_number_10 ?_
  refine lv_iadd hx hb dL_number_11 ?_
  refine lv_bipush (v := 100) hx hb dL_number_12 (by decide) ?_
  refine lv_iload_n hx hb dL_number_14 rfl (lv_at hl 0 rfl) ?_
  refine lv_bipush (v := 9) hx hb dL_number_15 (by decide) ?_
  have h6 : ¬ (9 : Int32) = 0 := by decide
  refine lv_idiv hx hb dL_number_17 h6 ?_
  refine lv_imul hx hb dL_number_18 ?_
  refine lv_iadd hx hb dL_number_19 ?_
  cases hf
  exact Ct_ri hx hb hr hlk hX hS dL_number_20

theorem q_l_digit : VWs yL_digit cL_digit 2 (some .int) 2 := ⟨a_592, a_15, a_591, by decide +kernel⟩
set_option maxRecDepth 100000 in
set_option maxHeartbeats 4000000 in
theorem c_l_digit {l : Launch} {D : va_G} {cA : Nat → ClassId} {A : Nat → Prop} {ad : Nat → Nat} {K : List Nat} (hKK : ∀ c ∈ La, c ∈ K) {x1 : Int32} {x2 : Int32} {M : Lt} {r : Int32} (hf : l_digit x1 x2 = some r) : Ct l D cA A yL_digit cL_digit 2 (some .int) 0 0 0 [.int x1, .int x2] (LX D cA A K ad M) (some (.int r)) (LX D cA A K ad M) := by
  refine Ct_of (by decide +kernel) (Nat.le_of_ble_eq_true rfl) ?_
  intro p e s m args below meth c ls hC hr hlk hnm hX hKX hl
  have hx := hC.1
  have hb := hC.2.1
  have hS : va_S A s.heap s.heap [] := va_S.rf
  have hl : lv_has ls 2 [(0, .int x1), (1, .int x2)] := hl
  unfold l_digit at hf
  refine lv_iload_n hx hb dL_digit_0 rfl (lv_at hl 1 rfl) ?_
  refine lv_if_ne (tgt := 10) hx hb dL_digit_1 (by decide) (fun c4 => ?_) (fun c4 => ?_)
  · have hf := it_f c4 hf
    refine lv_iload_n hx hb dL_digit_10 rfl (lv_at hl 1 rfl) ?_
    refine lv_iconst (v := 1) hx hb dL_digit_11 (by decide) ?_
    refine lv_icmp_ne (tgt := 23) hx hb dL_digit_12 (by decide) (fun c5 => ?_) (fun c5 => ?_)
    · have hf := it_f c5 hf
      refine lv_iload_n hx hb dL_digit_23 rfl (lv_at hl 0 rfl) ?_
      refine lv_bipush (v := 9) hx hb dL_digit_24 (by decide) ?_
      have h6 : ¬ (9 : Int32) = 0 := by decide
      refine lv_idiv hx hb dL_digit_26 h6 ?_
      cases hf
      exact Ct_ri hx hb hr hlk hX hS dL_digit_27
    · have hf := it_t c5 hf
      refine lv_iload_n hx hb dL_digit_15 rfl (lv_at hl 0 rfl) ?_
      refine lv_iconst (v := 3) hx hb dL_digit_16 (by decide) ?_
      have h7 : ¬ (3 : Int32) = 0 := by decide
      refine lv_idiv hx hb dL_digit_17 h7 ?_
      refine lv_iconst (v := 3) hx hb dL_digit_18 (by decide) ?_
      have h8 : ¬ (3 : Int32) = 0 := by decide
      refine lv_irem hx hb dL_digit_19 h8 ?_
      refine lv_goto (tgt := 27) hx hb dL_digit_20 (by decide) ?_
      cases hf
      exact Ct_ri hx hb hr hlk hX hS dL_digit_27
  · have hf := it_t c4 hf
    refine lv_iload_n hx hb dL_digit_4 rfl (lv_at hl 0 rfl) ?_
    refine lv_iconst (v := 3) hx hb dL_digit_5 (by decide) ?_
    have h9 : ¬ (3 : Int32) = 0 := by decide
    refine lv_irem hx hb dL_digit_6 h9 ?_
    refine lv_goto (tgt := 27) hx hb dL_digit_7 (by decide) ?_
    cases hf
    exact Ct_ri hx hb hr hlk hX hS dL_digit_27

theorem q_l_unit : VWs yL_unit cL_unit 1 (some .int) 1 := ⟨a_604, a_15, a_603, by decide +kernel⟩
set_option maxRecDepth 100000 in
set_option maxHeartbeats 4000000 in
theorem c_l_unit {l : Launch} {D : va_G} {cA : Nat → ClassId} {A : Nat → Prop} {ad : Nat → Nat} {K : List Nat} (hKK : ∀ c ∈ La, c ∈ K) {x1 : Int32} {M : Lt} {r : Int32} (hf : l_unit x1 = some r) : Ct l D cA A yL_unit cL_unit 1 (some .int) 0 0 0 [.int x1] (LX D cA A K ad M) (some (.int r)) (LX D cA A K ad M) := by
  refine Ct_of (by decide +kernel) (Nat.le_of_ble_eq_true rfl) ?_
  intro p e s m args below meth c ls hC hr hlk hnm hX hKX hl
  have hx := hC.1
  have hb := hC.2.1
  have hS : va_S A s.heap s.heap [] := va_S.rf
  have hl : lv_has ls 1 [(0, .int x1)] := hl
  unfold l_unit at hf
  refine lv_iload_n hx hb dL_unit_0 rfl (lv_at hl 0 rfl) ?_
  refine lv_if_ne (tgt := 8) hx hb dL_unit_1 (by decide) (fun c3 => ?_) (fun c3 => ?_)
  · have hf := it_f c3 hf
    refine lv_iload_n hx hb dL_unit_8 rfl (lv_at hl 0 rfl) ?_
    refine lv_iconst (v := 1) hx hb dL_unit_9 (by decide) ?_
    refine lv_icmp_ne (tgt := 17) hx hb dL_unit_10 (by decide) (fun c4 => ?_) (fun c4 => ?_)
    · have hf := it_f c4 hf
      refine lv_bipush (v := 9) hx hb dL_unit_17 (by decide) ?_
      cases hf
      exact Ct_ri hx hb hr hlk hX hS dL_unit_19
    · have hf := it_t c4 hf
      refine lv_iconst (v := 3) hx hb dL_unit_13 (by decide) ?_
      refine lv_goto (tgt := 19) hx hb dL_unit_14 (by decide) ?_
      cases hf
      exact Ct_ri hx hb hr hlk hX hS dL_unit_19
  · have hf := it_t c3 hf
    refine lv_iconst (v := 1) hx hb dL_unit_4 (by decide) ?_
    refine lv_goto (tgt := 19) hx hb dL_unit_5 (by decide) ?_
    cases hf
    exact Ct_ri hx hb hr hlk hX hS dL_unit_19

theorem q_l_part : VWs yL_part cL_part 4 (some .int) 2 := ⟨a_601, a_15, a_600, by decide +kernel⟩
set_option maxRecDepth 100000 in
set_option maxHeartbeats 4000000 in
theorem c_l_part {l : Launch} {D : va_G} {cA : Nat → ClassId} {A : Nat → Prop} {ad : Nat → Nat} {K : List Nat} (hKK : ∀ c ∈ La, c ∈ K) {x1 : Int32} {x2 : Int32} {M : Lt} {r : Int32} (hf : l_part x1 x2 = some r) : Ct l D cA A yL_part cL_part 4 (some .int) 1 0 0 [.int x1, .int x2] (LX D cA A K ad M) (some (.int r)) (LX D cA A K ad M) := by
  refine Ct_of (by decide +kernel) (Nat.le_of_ble_eq_true rfl) ?_
  intro p e s m args below meth c ls hC hr hlk hnm hX hKX hl
  have hx := hC.1
  have hb := hC.2.1
  have hS : va_S A s.heap s.heap [] := va_S.rf
  have hl : lv_has ls 4 [(0, .int x1), (1, .int x2)] := hl
  unfold l_part at hf
  refine lv_iconst (v := 0) hx hb dL_part_0 (by decide) ?_
  refine lv_istore_n (lv' := [(2, .int 0), (0, .int x1), (1, .int x2)]) hx hb dL_part_1 rfl hl (by decide) rfl (fun ls hl => ?_)
  refine lv_iconst (v := 0) hx hb dL_part_2 (by decide) ?_
  refine lv_istore_n (lv' := [(3, .int 0), (2, .int 0), (0, .int x1), (1, .int x2)]) hx hb dL_part_3 rfl hl (by decide) rfl (fun ls hl => ?_)
  obtain ⟨g6, g60, g6s, hf⟩ := lp2_e hf
  have Lg6 : ∀ (n : Nat) (x4 : Int32) (x5 : Int32) (H : Heap) (locs : List Loc) (ls : Array Slot), LX D cA A K ad M H → va_S A s.heap H locs → lv_has ls 4 [(0, .int x1), (1, .int x2), (2, .int x4), (3, .int x5)] → g6 n x4 x5 = some r → W p l e (RM 1 0 0) s m args below meth c H locs 0 0 (MQ below (CtQ A (some (.int r)) (LX D cA A K ad M)) args s 0 0 A) (F0 m 4 ls []) := by
    intro n
    induction n with
    | zero => intro x4 x5 H locs ls hX hS hl hf; rw [g60] at hf; cases hf
    | succ n ihg6 =>
      intro x4 x5 H locs ls hX hS hl hf
      rw [g6s] at hf
      refine lv_iload_n hx hb dL_part_4 rfl (lv_at hl 3 rfl) ?_
      refine lv_iconst (v := 3) hx hb dL_part_5 (by decide) ?_
      refine lv_icmp_ge (tgt := 41) hx hb dL_part_6 (by decide) (fun c7 => ?_) (fun c7 => ?_)
      · have hf := it_t c7 hf
        refine lv_iload_n hx hb dL_part_41 rfl (lv_at hl 2 rfl) ?_
        cases hf
        exact Ct_ri hx hb hr hlk hX hS dL_part_42
      · have hf := it_f c7 hf
        refine lv_iload_n hx hb dL_part_9 rfl (lv_at hl 2 rfl) ?_
        refine lv_iload_n hx hb dL_part_10 rfl (lv_at hl 1 rfl) ?_
        refine lv_iload_n hx hb dL_part_11 rfl (lv_at hl 3 rfl) ?_
        refine lv_ishr hx hb dL_part_12 ?_
        refine lv_iconst (v := 1) hx hb dL_part_13 (by decide) ?_
        refine lv_iand hx hb dL_part_14 ?_
        refine lv_iconst (v := 1) hx hb dL_part_15 (by decide) ?_
        obtain ⟨k9, hk9, hf⟩ := jn1_e hf
        have Jk9 : ∀ (x8 : Int32) (H : Heap) (locs : List Loc) (ls : Array Slot), LX D cA A K ad M H → va_S A s.heap H locs → lv_has ls 4 [(0, .int x1), (1, .int x2), (3, .int x5)] → k9 x8 = some r → W p l e (RM 1 0 0) s m args below meth c H locs 0 0 (MQ below (CtQ A (some (.int r)) (LX D cA A K ad M)) args s 0 0 A) (F0 m 33 ls [.int x8, .int x4]) := by
          intro x8 H locs ls hX hS hl hf
          rw [hk9] at hf
          refine lv_iadd hx hb dL_part_33 ?_
          refine lv_istore_n (lv' := [(2, .int (x4 + x8)), (0, .int x1), (1, .int x2), (3, .int x5)]) hx hb dL_part_34 rfl hl (by decide) rfl (fun ls hl => ?_)
          refine lv_iinc (v := (x5 + 1)) (lv' := [(3, .int (x5 + 1)), (2, .int (x4 + x8)), (0, .int x1), (1, .int x2)]) hx hb dL_part_35 hl (k := 3) rfl rfl (by decide) rfl (fun ls hl => ?_)
          refine lv_goto (tgt := 4) hx hb dL_part_38 (by decide) ?_
          exact ihg6 _ _ _ _ _ hX hS (lv_sub hl [2, 3, 1, 0] rfl) hf
        refine lv_icmp_ne (tgt := 32) hx hb dL_part_16 (by decide) (fun c10 => ?_) (fun c10 => ?_)
        · have hf := it_f c10 hf
          refine lv_iconst (v := 0) hx hb dL_part_32 (by decide) ?_
          exact Jk9 _ _ _ _ hX hS (lv_sub hl [0, 1, 3] rfl) hf
        · have hf := it_t c10 hf
          refine lv_iload_n hx hb dL_part_19 rfl (lv_at hl 0 rfl) ?_
          refine lv_iload_n hx hb dL_part_20 rfl (lv_at hl 3 rfl) ?_
          obtain ⟨z11, hz11, hf⟩ := cb_e hf
          refine lSi (As := [.int x1, .int x5]) (rest := [.int x4]) hC (c_l_digit hKK hz11) q_l_digit a_590 (Nat.le_of_ble_eq_true rfl) hX hKX rfl hl.1 (Nat.le_of_ble_eq_true rfl) dL_part_21 ⟨Nat.le_of_ble_eq_true rfl, Nat.le_of_ble_eq_true rfl⟩ hS (fun H locs hX hS => ?_)
          refine lv_iload_n hx hb dL_part_24 rfl (lv_at hl 3 rfl) ?_
          obtain ⟨z12, hz12, hf⟩ := cb_e hf
          refine lSi (As := [.int x5]) (rest := [.int z11, .int x4]) hC (c_l_unit hKK hz12) q_l_unit a_602 (Nat.le_of_ble_eq_true rfl) hX hKX rfl hl.1 (Nat.le_of_ble_eq_true rfl) dL_part_25 ⟨Nat.le_of_ble_eq_true rfl, Nat.le_of_ble_eq_true rfl⟩ hS (fun H locs hX hS => ?_)
          refine lv_imul hx hb dL_part_28 ?_
          refine lv_goto (tgt := 33) hx hb dL_part_29 (by decide) ?_
          exact Jk9 _ _ _ _ hX hS (lv_sub hl [0, 1, 3] rfl) hf
  exact Lg6 FU _ _ _ _ _ hX hS (lv_sub hl [2, 3, 1, 0] rfl) hf

theorem q_l_parts : VWs yL_parts cL_parts 4 (some .int) 2 := ⟨a_598, a_15, a_597, by decide +kernel⟩
set_option maxRecDepth 100000 in
set_option maxHeartbeats 4000000 in
theorem c_l_parts {l : Launch} {D : va_G} {cA : Nat → ClassId} {A : Nat → Prop} {ad : Nat → Nat} {K : List Nat} (hKK : ∀ c ∈ La, c ∈ K) {x1 : Int32} {x2 : Int32} {M : Lt} {r : Int32} (hf : l_parts x1 x2 = some r) : Ct l D cA A yL_parts cL_parts 4 (some .int) 2 0 0 [.int x1, .int x2] (LX D cA A K ad M) (some (.int r)) (LX D cA A K ad M) := by
  refine Ct_of (by decide +kernel) (Nat.le_of_ble_eq_true rfl) ?_
  intro p e s m args below meth c ls hC hr hlk hnm hX hKX hl
  have hx := hC.1
  have hb := hC.2.1
  have hS : va_S A s.heap s.heap [] := va_S.rf
  have hl : lv_has ls 4 [(0, .int x1), (1, .int x2)] := hl
  unfold l_parts at hf
  refine lv_iconst (v := 0) hx hb dL_parts_0 (by decide) ?_
  refine lv_istore_n (lv' := [(2, .int 0), (0, .int x1), (1, .int x2)]) hx hb dL_parts_1 rfl hl (by decide) rfl (fun ls hl => ?_)
  refine lv_iconst (v := 0) hx hb dL_parts_2 (by decide) ?_
  refine lv_istore_n (lv' := [(3, .int 0), (2, .int 0), (0, .int x1), (1, .int x2)]) hx hb dL_parts_3 rfl hl (by decide) rfl (fun ls hl => ?_)
  obtain ⟨g6, g60, g6s, hf⟩ := lp2_e hf
  have Lg6 : ∀ (n : Nat) (x4 : Int32) (x5 : Int32) (H : Heap) (locs : List Loc) (ls : Array Slot), LX D cA A K ad M H → va_S A s.heap H locs → lv_has ls 4 [(0, .int x1), (1, .int x2), (2, .int x4), (3, .int x5)] → g6 n x4 x5 = some r → W p l e (RM 2 0 0) s m args below meth c H locs 0 0 (MQ below (CtQ A (some (.int r)) (LX D cA A K ad M)) args s 0 0 A) (F0 m 4 ls []) := by
    intro n
    induction n with
    | zero => intro x4 x5 H locs ls hX hS hl hf; rw [g60] at hf; cases hf
    | succ n ihg6 =>
      intro x4 x5 H locs ls hX hS hl hf
      rw [g6s] at hf
      refine lv_iload_n hx hb dL_parts_4 rfl (lv_at hl 3 rfl) ?_
      refine lv_bipush (v := 27) hx hb dL_parts_5 (by decide) ?_
      refine lv_icmp_ge (tgt := 30) hx hb dL_parts_7 (by decide) (fun c7 => ?_) (fun c7 => ?_)
      · have hf := it_t c7 hf
        refine lv_iload_n hx hb dL_parts_30 rfl (lv_at hl 2 rfl) ?_
        cases hf
        exact Ct_ri hx hb hr hlk hX hS dL_parts_31
      · have hf := it_f c7 hf
        refine lv_iload_n hx hb dL_parts_10 rfl (lv_at hl 2 rfl) ?_
        refine lv_iload_n hx hb dL_parts_11 rfl (lv_at hl 0 rfl) ?_
        refine lv_iload_n hx hb dL_parts_12 rfl (lv_at hl 3 rfl) ?_
        refine lv_ishr hx hb dL_parts_13 ?_
        refine lv_iconst (v := 1) hx hb dL_parts_14 (by decide) ?_
        refine lv_iand hx hb dL_parts_15 ?_
        refine lv_iload_n hx hb dL_parts_16 rfl (lv_at hl 3 rfl) ?_
        refine lv_iload_n hx hb dL_parts_17 rfl (lv_at hl 1 rfl) ?_
        obtain ⟨z8, hz8, hf⟩ := cb_e hf
        refine lSi (As := [.int x5, .int x2]) (rest := [.int ((x1 >>> (x5 &&& 31)) &&& 1), .int x4]) hC (c_l_part hKK hz8) q_l_part a_599 (Nat.le_of_ble_eq_true rfl) hX hKX rfl hl.1 (Nat.le_of_ble_eq_true rfl) dL_parts_18 ⟨Nat.le_of_ble_eq_true rfl, Nat.le_of_ble_eq_true rfl⟩ hS (fun H locs hX hS => ?_)
        refine lv_ishl hx hb dL_parts_21 ?_
        refine lv_ior hx hb dL_parts_22 ?_
        refine lv_topi (fun x9 ex9 => ?_)
        have hf := lt_at ex9 hf
        refine lv_istore_n (lv' := [(2, .int x9), (0, .int x1), (1, .int x2), (3, .int x5)]) hx hb dL_parts_23 rfl hl (by decide) rfl (fun ls hl => ?_)
        refine lv_iinc (v := (x5 + 1)) (lv' := [(3, .int (x5 + 1)), (2, .int x9), (0, .int x1), (1, .int x2)]) hx hb dL_parts_24 hl (k := 3) rfl rfl (by decide) rfl (fun ls hl => ?_)
        refine lv_goto (tgt := 4) hx hb dL_parts_27 (by decide) ?_
        exact ihg6 _ _ _ _ _ hX hS (lv_sub hl [2, 3, 1, 0] rfl) hf
  exact Lg6 FU _ _ _ _ _ hX hS (lv_sub hl [2, 3, 1, 0] rfl) hf

theorem q_l_columnsOf : VWs yL_columnsOf cL_columnsOf 2 (some .int) 2 := ⟨a_595, a_15, a_594, by decide +kernel⟩
set_option maxRecDepth 100000 in
set_option maxHeartbeats 4000000 in
theorem c_l_columnsOf {l : Launch} {D : va_G} {cA : Nat → ClassId} {A : Nat → Prop} {ad : Nat → Nat} {K : List Nat} (hKK : ∀ c ∈ La, c ∈ K) {x2 : Int32} {M : Lt} {r : Int32} (hf : l_columnsOf x2 M = some r) : Ct l D cA A yL_columnsOf cL_columnsOf 2 (some .int) 0 0 0 [.ref (ad 1), .int x2] (LX D cA A K ad M) (some (.int r)) (LX D cA A K ad M) := by
  refine Ct_of (by decide +kernel) (Nat.le_of_ble_eq_true rfl) ?_
  intro p e s m args below meth c ls hC hr hlk hnm hX hKX hl
  have hx := hC.1
  have hb := hC.2.1
  have hS : va_S A s.heap s.heap [] := va_S.rf
  have hl : lv_has ls 2 [(0, .ref (ad 1)), (1, .int x2)] := hl
  unfold l_columnsOf at hf
  refine lv_aload_n hx hb dL_columnsOf_0 rfl (lv_at hl 0 rfl) ?_
  refine lv_iload_n hx hb dL_columnsOf_1 rfl (lv_at hl 1 rfl) ?_
  obtain ⟨h5, j4, ej4, hf⟩ := rd_e hf
  refine lald hx hb hKX.1 hX (hKK 1 (by decide)) h5 ej4 dL_columnsOf_2 ?_
  refine lv_bipush (v := 15) hx hb dL_columnsOf_3 (by decide) ?_
  refine lv_ishr hx hb dL_columnsOf_5 ?_
  refine lv_bipush (v := 7) hx hb dL_columnsOf_6 (by decide) ?_
  refine lv_iand hx hb dL_columnsOf_8 ?_
  cases hf
  exact Ct_ri hx hb hr hlk hX hS dL_columnsOf_9

theorem q_l_keyOf : VWs yL_keyOf cL_keyOf 2 (some .int) 2 := ⟨a_610, a_15, a_609, by decide +kernel⟩
set_option maxRecDepth 100000 in
set_option maxHeartbeats 4000000 in
theorem c_l_keyOf {l : Launch} {D : va_G} {cA : Nat → ClassId} {A : Nat → Prop} {ad : Nat → Nat} {K : List Nat} (hKK : ∀ c ∈ La, c ∈ K) {x2 : Int32} {M : Lt} {r : Int32} (hf : l_keyOf x2 M = some r) : Ct l D cA A yL_keyOf cL_keyOf 2 (some .int) 0 0 0 [.ref (ad 1), .int x2] (LX D cA A K ad M) (some (.int r)) (LX D cA A K ad M) := by
  refine Ct_of (by decide +kernel) (Nat.le_of_ble_eq_true rfl) ?_
  intro p e s m args below meth c ls hC hr hlk hnm hX hKX hl
  have hx := hC.1
  have hb := hC.2.1
  have hS : va_S A s.heap s.heap [] := va_S.rf
  have hl : lv_has ls 2 [(0, .ref (ad 1)), (1, .int x2)] := hl
  unfold l_keyOf at hf
  refine lv_aload_n hx hb dL_keyOf_0 rfl (lv_at hl 0 rfl) ?_
  refine lv_iload_n hx hb dL_keyOf_1 rfl (lv_at hl 1 rfl) ?_
  obtain ⟨h5, j4, ej4, hf⟩ := rd_e hf
  refine lald hx hb hKX.1 hX (hKK 1 (by decide)) h5 ej4 dL_keyOf_2 ?_
  refine lv_bipush (v := 18) hx hb dL_keyOf_3 (by decide) ?_
  refine lv_ishr hx hb dL_keyOf_5 ?_
  refine lv_bipush (v := 7) hx hb dL_keyOf_6 (by decide) ?_
  refine lv_iand hx hb dL_keyOf_8 ?_
  cases hf
  exact Ct_ri hx hb hr hlk hX hS dL_keyOf_9

theorem q_l_selected : VWs yL_selected cL_selected 6 (some .int) 3 := ⟨a_589, a_15, a_588, by decide +kernel⟩
set_option maxRecDepth 100000 in
set_option maxHeartbeats 4000000 in
theorem c_l_selected {l : Launch} {D : va_G} {cA : Nat → ClassId} {A : Nat → Prop} {ad : Nat → Nat} {K : List Nat} (hKK : ∀ c ∈ La, c ∈ K) {x1 : Int32} {x2 : Int32} {x3 : Int32} {M : Lt} {r : Int32} (hf : l_selected x1 x2 x3 = some r) : Ct l D cA A yL_selected cL_selected 6 (some .int) 1 0 0 [.int x1, .int x2, .int x3] (LX D cA A K ad M) (some (.int r)) (LX D cA A K ad M) := by
  refine Ct_of (by decide +kernel) (Nat.le_of_ble_eq_true rfl) ?_
  intro p e s m args below meth c ls hC hr hlk hnm hX hKX hl
  have hx := hC.1
  have hb := hC.2.1
  have hS : va_S A s.heap s.heap [] := va_S.rf
  have hl : lv_has ls 6 [(0, .int x1), (1, .int x2), (2, .int x3)] := hl
  unfold l_selected at hf
  refine lv_iconst (v := 0) hx hb dL_selected_0 (by decide) ?_
  refine lv_istore_n (lv' := [(3, .int 0), (0, .int x1), (1, .int x2), (2, .int x3)]) hx hb dL_selected_1 rfl hl (by decide) rfl (fun ls hl => ?_)
  refine lv_iconst (v := 0) hx hb dL_selected_2 (by decide) ?_
  refine lv_istore (lv' := [(4, .int 0), (3, .int 0), (0, .int x1), (1, .int x2), (2, .int x3)]) hx hb dL_selected_3 hl (by decide) rfl (fun ls hl => ?_)
  obtain ⟨g7, g70, g7s, hf⟩ := lp2_e hf
  have Lg7 : ∀ (n : Nat) (x5 : Int32) (x6 : Int32) (H : Heap) (locs : List Loc) (ls : Array Slot), LX D cA A K ad M H → va_S A s.heap H locs → lv_has ls 6 [(0, .int x1), (1, .int x2), (2, .int x3), (3, .int x5), (4, .int x6)] → g7 n x5 x6 = some r → W p l e (RM 1 0 0) s m args below meth c H locs 0 0 (MQ below (CtQ A (some (.int r)) (LX D cA A K ad M)) args s 0 0 A) (F0 m 5 ls []) := by
    intro n
    induction n with
    | zero => intro x5 x6 H locs ls hX hS hl hf; rw [g70] at hf; cases hf
    | succ n ihg7 =>
      intro x5 x6 H locs ls hX hS hl hf
      rw [g7s] at hf
      refine lv_iload hx hb dL_selected_5 (lv_at hl 4 rfl) ?_
      refine lv_bipush (v := 27) hx hb dL_selected_7 (by decide) ?_
      refine lv_icmp_ge (tgt := 83) hx hb dL_selected_9 (by decide) (fun c8 => ?_) (fun c8 => ?_)
      · have hf := it_t c8 hf
        refine lv_iload_n hx hb dL_selected_83 rfl (lv_at hl 3 rfl) ?_
        cases hf
        exact Ct_ri hx hb hr hlk hX hS dL_selected_84
      · have hf := it_f c8 hf
        refine lv_iload hx hb dL_selected_12 (lv_at hl 4 rfl) ?_
        refine lv_iload_n hx hb dL_selected_14 rfl (lv_at hl 0 rfl) ?_
        refine lv_bipush (v := 10) hx hb dL_selected_15 (by decide) ?_
        refine lv_ishr hx hb dL_selected_17 ?_
        refine lv_iconst (v := 3) hx hb dL_selected_18 (by decide) ?_
        refine lv_iand hx hb dL_selected_19 ?_
        obtain ⟨z9, hz9, hf⟩ := cb_e hf
        refine lSi (As := [.int x6, .int ((x1 >>> ((10 : Int32) &&& 31)) &&& 3)]) (rest := []) hC (c_l_digit hKK hz9) q_l_digit a_590 (Nat.le_of_ble_eq_true rfl) hX hKX rfl hl.1 (Nat.le_of_ble_eq_true rfl) dL_selected_20 ⟨Nat.le_of_ble_eq_true rfl, Nat.le_of_ble_eq_true rfl⟩ hS (fun H locs hX hS => ?_)
        refine lv_iload_n hx hb dL_selected_23 rfl (lv_at hl 0 rfl) ?_
        refine lv_bipush (v := 12) hx hb dL_selected_24 (by decide) ?_
        refine lv_ishr hx hb dL_selected_26 ?_
        refine lv_iconst (v := 3) hx hb dL_selected_27 (by decide) ?_
        refine lv_iand hx hb dL_selected_28 ?_
        obtain ⟨k11, hk11, hf⟩ := jn1_e hf
        have Jk11 : ∀ (x10 : Int32) (H : Heap) (locs : List Loc) (ls : Array Slot), LX D cA A K ad M H → va_S A s.heap H locs → lv_has ls 6 [(0, .int x1), (1, .int x2), (2, .int x3), (3, .int x5), (4, .int x6)] → k11 x10 = some r → W p l e (RM 1 0 0) s m args below meth c H locs 0 0 (MQ below (CtQ A (some (.int r)) (LX D cA A K ad M)) args s 0 0 A) (F0 m 37 ls [.int x10]) := by
          intro x10 H locs ls hX hS hl hf
          rw [hk11] at hf
          refine lv_iload_n hx hb dL_selected_37 rfl (lv_at hl 0 rfl) ?_
          refine lv_bipush (v := 14) hx hb dL_selected_38 (by decide) ?_
          refine lv_ishr hx hb dL_selected_40 ?_
          refine lv_iconst (v := 1) hx hb dL_selected_41 (by decide) ?_
          refine lv_iand hx hb dL_selected_42 ?_
          refine lv_iconst (v := 1) hx hb dL_selected_43 (by decide) ?_
          obtain ⟨k13, hk13, hf⟩ := jn1_e hf
          have Jk13 : ∀ (x12 : Int32) (H : Heap) (locs : List Loc) (ls : Array Slot), LX D cA A K ad M H → va_S A s.heap H locs → lv_has ls 6 [(0, .int x1), (1, .int x2), (2, .int x3), (3, .int x5), (4, .int x6)] → k13 x12 = some r → W p l e (RM 1 0 0) s m args below meth c H locs 0 0 (MQ below (CtQ A (some (.int r)) (LX D cA A K ad M)) args s 0 0 A) (F0 m 52 ls [.int x12, .int x10]) := by
            intro x12 H locs ls hX hS hl hf
            rw [hk13] at hf
            obtain ⟨k15, hk15, hf⟩ := jn1_e hf
            have Jk15 : ∀ (x14 : Int32) (H : Heap) (locs : List Loc) (ls : Array Slot), LX D cA A K ad M H → va_S A s.heap H locs → lv_has ls 6 [(0, .int x1), (1, .int x2), (2, .int x3), (3, .int x5), (4, .int x6)] → k15 x14 = some r → W p l e (RM 1 0 0) s m args below meth c H locs 0 0 (MQ below (CtQ A (some (.int r)) (LX D cA A K ad M)) args s 0 0 A) (F0 m 60 ls [.int x14]) := by
              intro x14 H locs ls hX hS hl hf
              rw [hk15] at hf
              refine lv_istore (lv' := [(5, .int x14), (0, .int x1), (1, .int x2), (2, .int x3), (3, .int x5), (4, .int x6)]) hx hb dL_selected_60 hl (by decide) rfl (fun ls hl => ?_)
              refine lv_iload hx hb dL_selected_62 (lv_at hl 0 rfl) ?_
              refine lv_iload_n hx hb dL_selected_64 rfl (lv_at hl 3 rfl) ?_
              refine lv_icmp_ne (tgt := 77) hx hb dL_selected_65 (by decide) (fun c16 => ?_) (fun c16 => ?_)
              · have hf := it_f c16 hf
                refine lv_iinc (v := (x6 + 1)) (lv' := [(4, .int (x6 + 1)), (5, .int x14), (0, .int x1), (1, .int x2), (2, .int x3), (3, .int x5)]) hx hb dL_selected_77 hl (k := 5) rfl rfl (by decide) rfl (fun ls hl => ?_)
                refine lv_goto (tgt := 5) hx hb dL_selected_80 (by decide) ?_
                exact ihg7 _ _ _ _ _ hX hS (lv_sub hl [2, 3, 4, 5, 0] rfl) hf
              · have hf := it_t c16 hf
                refine lv_iload_n hx hb dL_selected_68 rfl (lv_at hl 4 rfl) ?_
                refine lv_iload_n hx hb dL_selected_69 rfl (lv_at hl 2 rfl) ?_
                refine lv_iconst (v := 1) hx hb dL_selected_70 (by decide) ?_
                refine lv_iload hx hb dL_selected_71 (lv_at hl 5 rfl) ?_
                refine lv_ishl hx hb dL_selected_73 ?_
                refine lv_iand hx hb dL_selected_74 ?_
                refine lv_ior hx hb dL_selected_75 ?_
                refine lv_topi (fun x17 ex17 => ?_)
                have hf := lt_at ex17 hf
                refine lv_istore_n (lv' := [(3, .int x17), (5, .int x14), (0, .int x1), (1, .int x2), (2, .int x3), (4, .int x6)]) hx hb dL_selected_76 rfl hl (by decide) rfl (fun ls hl => ?_)
                refine lv_iinc (v := (x6 + 1)) (lv' := [(4, .int (x6 + 1)), (3, .int x17), (5, .int x14), (0, .int x1), (1, .int x2), (2, .int x3)]) hx hb dL_selected_77 hl (k := 5) rfl rfl (by decide) rfl (fun ls hl => ?_)
                refine lv_goto (tgt := 5) hx hb dL_selected_80 (by decide) ?_
                exact ihg7 _ _ _ _ _ hX hS (lv_sub hl [3, 4, 5, 1, 0] rfl) hf
            refine lv_icmp_ne (tgt := 59) hx hb dL_selected_52 (by decide) (fun c18 => ?_) (fun c18 => ?_)
            · have hf := it_f c18 hf
              refine lv_iconst (v := 0) hx hb dL_selected_59 (by decide) ?_
              exact Jk15 _ _ _ _ hX hS (lv_sub hl [0, 1, 2, 3, 4] rfl) hf
            · have hf := it_t c18 hf
              refine lv_iconst (v := 1) hx hb dL_selected_55 (by decide) ?_
              refine lv_goto (tgt := 60) hx hb dL_selected_56 (by decide) ?_
              exact Jk15 _ _ _ _ hX hS (lv_sub hl [0, 1, 2, 3, 4] rfl) hf
          refine lv_icmp_ne (tgt := 51) hx hb dL_selected_44 (by decide) (fun c19 => ?_) (fun c19 => ?_)
          · have hf := it_f c19 hf
            refine lv_iconst (v := 0) hx hb dL_selected_51 (by decide) ?_
            exact Jk13 _ _ _ _ hX hS (lv_sub hl [0, 1, 2, 3, 4] rfl) hf
          · have hf := it_t c19 hf
            refine lv_iconst (v := 1) hx hb dL_selected_47 (by decide) ?_
            refine lv_goto (tgt := 52) hx hb dL_selected_48 (by decide) ?_
            exact Jk13 _ _ _ _ hX hS (lv_sub hl [0, 1, 2, 3, 4] rfl) hf
        refine lv_icmp_ne (tgt := 36) hx hb dL_selected_29 (by decide) (fun c20 => ?_) (fun c20 => ?_)
        · have hf := it_f c20 hf
          refine lv_iconst (v := 0) hx hb dL_selected_36 (by decide) ?_
          exact Jk11 _ _ _ _ hX hS (lv_sub hl [0, 1, 2, 3, 4] rfl) hf
        · have hf := it_t c20 hf
          refine lv_iconst (v := 1) hx hb dL_selected_32 (by decide) ?_
          refine lv_goto (tgt := 37) hx hb dL_selected_33 (by decide) ?_
          exact Jk11 _ _ _ _ hX hS (lv_sub hl [0, 1, 2, 3, 4] rfl) hf
  exact Lg7 FU _ _ _ _ _ hX hS (lv_sub hl [2, 3, 4, 1, 0] rfl) hf

theorem q_l_like : VWs yL_like cL_like 7 (some .int) 4 := ⟨a_616, a_15, a_615, by decide +kernel⟩
set_option maxRecDepth 100000 in
set_option maxHeartbeats 4000000 in
theorem c_l_like {l : Launch} {D : va_G} {cA : Nat → ClassId} {A : Nat → Prop} {ad : Nat → Nat} {K : List Nat} (hKK : ∀ c ∈ La, c ∈ K) {x1 : Int32} {x2 : Int32} {x3 : Int32} {x4 : Int32} {M : Lt} {r : Int32} (hf : l_like x1 x2 x3 x4 = some r) : Ct l D cA A yL_like cL_like 7 (some .int) 3 0 0 [.int x1, .int x2, .int x3, .int x4] (LX D cA A K ad M) (some (.int r)) (LX D cA A K ad M) := by
  refine Ct_of (by decide +kernel) (Nat.le_of_ble_eq_true rfl) ?_
  intro p e s m args below meth c ls hC hr hlk hnm hX hKX hl
  have hx := hC.1
  have hb := hC.2.1
  have hS : va_S A s.heap s.heap [] := va_S.rf
  have hl : lv_has ls 7 [(0, .int x1), (1, .int x2), (2, .int x3), (3, .int x4)] := hl
  unfold l_like at hf
  refine lv_iload_n hx hb dL_like_0 rfl (lv_at hl 1 rfl) ?_
  refine lv_iload_n hx hb dL_like_1 rfl (lv_at hl 2 rfl) ?_
  obtain ⟨z6, hz6, hf⟩ := cb_e hf
  refine lSi (As := [.int x2, .int x3]) (rest := []) hC (c_l_parts hKK hz6) q_l_parts a_596 (Nat.le_of_ble_eq_true rfl) hX hKX rfl hl.1 (Nat.le_of_ble_eq_true rfl) dL_like_2 ⟨Nat.le_of_ble_eq_true rfl, Nat.le_of_ble_eq_true rfl⟩ hS (fun H locs hX hS => ?_)
  refine lv_istore (lv' := [(4, .int z6), (0, .int x1), (1, .int x2), (2, .int x3), (3, .int x4)]) hx hb dL_like_5 hl (by decide) rfl (fun ls hl => ?_)
  refine lv_iconst (v := 0) hx hb dL_like_7 (by decide) ?_
  refine lv_istore (lv' := [(5, .int 0), (4, .int z6), (0, .int x1), (1, .int x2), (2, .int x3), (3, .int x4)]) hx hb dL_like_8 hl (by decide) rfl (fun ls hl => ?_)
  refine lv_iconst (v := 0) hx hb dL_like_10 (by decide) ?_
  refine lv_istore (lv' := [(6, .int 0), (5, .int 0), (4, .int z6), (0, .int x1), (1, .int x2), (2, .int x3), (3, .int x4)]) hx hb dL_like_11 hl (by decide) rfl (fun ls hl => ?_)
  obtain ⟨g9, g90, g9s, hf⟩ := lp2_e hf
  have Lg9 : ∀ (n : Nat) (x7 : Int32) (x8 : Int32) (H : Heap) (locs : List Loc) (ls : Array Slot), LX D cA A K ad M H → va_S A s.heap H locs → lv_has ls 7 [(0, .int x1), (2, .int x3), (3, .int x4), (4, .int z6), (5, .int x7), (6, .int x8)] → g9 n x7 x8 = some r → W p l e (RM 3 0 0) s m args below meth c H locs 0 0 (MQ below (CtQ A (some (.int r)) (LX D cA A K ad M)) args s 0 0 A) (F0 m 13 ls []) := by
    intro n
    induction n with
    | zero => intro x7 x8 H locs ls hX hS hl hf; rw [g90] at hf; cases hf
    | succ n ihg9 =>
      intro x7 x8 H locs ls hX hS hl hf
      rw [g9s] at hf
      refine lv_iload hx hb dL_like_13 (lv_at hl 5 rfl) ?_
      refine lv_bipush (v := 27) hx hb dL_like_15 (by decide) ?_
      refine lv_icmp_ge (tgt := 61) hx hb dL_like_17 (by decide) (fun c10 => ?_) (fun c10 => ?_)
      · have hf := it_t c10 hf
        refine lv_iload hx hb dL_like_61 (lv_at hl 4 rfl) ?_
        cases hf
        exact Ct_ri hx hb hr hlk hX hS dL_like_63
      · have hf := it_f c10 hf
        refine lv_iload hx hb dL_like_20 (lv_at hl 3 rfl) ?_
        refine lv_iload hx hb dL_like_22 (lv_at hl 5 rfl) ?_
        refine lv_iload_n hx hb dL_like_24 rfl (lv_at hl 1 rfl) ?_
        obtain ⟨z11, hz11, hf⟩ := cb_e hf
        refine lSi (As := [.int x8, .int x3]) (rest := [.int z6]) hC (c_l_part hKK hz11) q_l_part a_599 (Nat.le_of_ble_eq_true rfl) hX hKX rfl hl.1 (Nat.le_of_ble_eq_true rfl) dL_like_25 ⟨Nat.le_of_ble_eq_true rfl, Nat.le_of_ble_eq_true rfl⟩ hS (fun H locs hX hS => ?_)
        refine lv_ishr hx hb dL_like_28 ?_
        refine lv_iconst (v := 1) hx hb dL_like_29 (by decide) ?_
        refine lv_iand hx hb dL_like_30 ?_
        refine lv_iconst (v := 1) hx hb dL_like_31 (by decide) ?_
        obtain ⟨k13, hk13, hf⟩ := jn1_e hf
        have Jk13 : ∀ (x12 : Int32) (H : Heap) (locs : List Loc) (ls : Array Slot), LX D cA A K ad M H → va_S A s.heap H locs → lv_has ls 7 [(0, .int x1), (2, .int x3), (3, .int x4), (4, .int z6), (5, .int x7), (6, .int x8)] → k13 x12 = some r → W p l e (RM 3 0 0) s m args below meth c H locs 0 0 (MQ below (CtQ A (some (.int r)) (LX D cA A K ad M)) args s 0 0 A) (F0 m 40 ls [.int x12]) := by
          intro x12 H locs ls hX hS hl hf
          rw [hk13] at hf
          refine lv_iload_n hx hb dL_like_40 rfl (lv_at hl 2 rfl) ?_
          refine lv_icmp_ne (tgt := 55) hx hb dL_like_41 (by decide) (fun c14 => ?_) (fun c14 => ?_)
          · have hf := it_f c14 hf
            refine lv_iinc (v := (x8 + 1)) (lv' := [(6, .int (x8 + 1)), (0, .int x1), (2, .int x3), (3, .int x4), (4, .int z6), (5, .int x7)]) hx hb dL_like_55 hl (k := 5) rfl rfl (by decide) rfl (fun ls hl => ?_)
            refine lv_goto (tgt := 13) hx hb dL_like_58 (by decide) ?_
            exact ihg9 _ _ _ _ _ hX hS (lv_sub hl [1, 2, 3, 4, 5, 0] rfl) hf
          · have hf := it_t c14 hf
            refine lv_iload hx hb dL_like_44 (lv_at hl 4 rfl) ?_
            refine lv_iload_n hx hb dL_like_46 rfl (lv_at hl 0 rfl) ?_
            refine lv_iconst (v := 1) hx hb dL_like_47 (by decide) ?_
            refine lv_iload hx hb dL_like_48 (lv_at hl 5 rfl) ?_
            refine lv_ishl hx hb dL_like_50 ?_
            refine lv_iand hx hb dL_like_51 ?_
            refine lv_ior hx hb dL_like_52 ?_
            refine lv_topi (fun x15 ex15 => ?_)
            have hf := lt_at ex15 hf
            refine lv_istore (lv' := [(5, .int x15), (0, .int x1), (2, .int x3), (3, .int x4), (4, .int z6), (6, .int x8)]) hx hb dL_like_53 hl (by decide) rfl (fun ls hl => ?_)
            refine lv_iinc (v := (x8 + 1)) (lv' := [(6, .int (x8 + 1)), (5, .int x15), (0, .int x1), (2, .int x3), (3, .int x4), (4, .int z6)]) hx hb dL_like_55 hl (k := 5) rfl rfl (by decide) rfl (fun ls hl => ?_)
            refine lv_goto (tgt := 13) hx hb dL_like_58 (by decide) ?_
            exact ihg9 _ _ _ _ _ hX hS (lv_sub hl [2, 3, 4, 5, 1, 0] rfl) hf
        refine lv_icmp_ne (tgt := 39) hx hb dL_like_32 (by decide) (fun c16 => ?_) (fun c16 => ?_)
        · have hf := it_f c16 hf
          refine lv_iconst (v := 0) hx hb dL_like_39 (by decide) ?_
          exact Jk13 _ _ _ _ hX hS (lv_sub hl [0, 1, 2, 3, 4, 5] rfl) hf
        · have hf := it_t c16 hf
          refine lv_iconst (v := 1) hx hb dL_like_35 (by decide) ?_
          refine lv_goto (tgt := 40) hx hb dL_like_36 (by decide) ?_
          exact Jk13 _ _ _ _ hX hS (lv_sub hl [0, 1, 2, 3, 4, 5] rfl) hf
  exact Lg9 FU _ _ _ _ _ hX hS (lv_sub hl [3, 5, 6, 2, 1, 0] rfl) hf

theorem q_l_lay : VWs yL_lay cL_lay 10 none 4 := ⟨a_586, a_15, a_585, by decide +kernel⟩
set_option maxRecDepth 100000 in
set_option maxHeartbeats 4000000 in
theorem c_l_lay {l : Launch} {D : va_G} {cA : Nat → ClassId} {A : Nat → Prop} {ad : Nat → Nat} {K : List Nat} (hKK : ∀ c ∈ La, c ∈ K)  {M : Lt} {M' : Lt} (hf : l_lay M = some M') : Ct l D cA A yL_lay cL_lay 10 none 3 0 0 [.ref (ad 0), .ref (ad 1), .ref (ad 2), .ref (ad 6)] (LX D cA A K ad M) none (LX D cA A K ad M') := by
  refine Ct_of (by decide +kernel) (Nat.le_of_ble_eq_true rfl) ?_
  intro p e s m args below meth c ls hC hr hlk hnm hX hKX hl
  have hx := hC.1
  have hb := hC.2.1
  have hS : va_S A s.heap s.heap [] := va_S.rf
  have hl : lv_has ls 10 [(0, .ref (ad 0)), (1, .ref (ad 1)), (2, .ref (ad 2)), (3, .ref (ad 6))] := hl
  unfold l_lay at hf
  refine lv_iconst (v := 0) hx hb dL_lay_0 (by decide) ?_
  refine lv_istore (lv' := [(4, .int 0), (0, .ref (ad 0)), (1, .ref (ad 1)), (2, .ref (ad 2)), (3, .ref (ad 6))]) hx hb dL_lay_1 hl (by decide) rfl (fun ls hl => ?_)
  obtain ⟨g8, g80, g8s, hf⟩ := lp2_e hf
  have Lg8 : ∀ (n : Nat) (x6 : Int32) (S7 : Lt) (H : Heap) (locs : List Loc) (ls : Array Slot), LX D cA A K ad S7 H → va_S A s.heap H locs → lv_has ls 10 [(0, .ref (ad 0)), (1, .ref (ad 1)), (2, .ref (ad 2)), (3, .ref (ad 6)), (4, .int x6)] → g8 n x6 S7 = some M' → W p l e (RM 3 0 0) s m args below meth c H locs 0 0 (MQ below (CtQ A none (LX D cA A K ad M')) args s 0 0 A) (F0 m 3 ls []) := by
    intro n
    induction n with
    | zero => intro x6 S7 H locs ls hX hS hl hf; rw [g80] at hf; cases hf
    | succ n ihg8 =>
      intro x6 S7 H locs ls hX hS hl hf
      rw [g8s] at hf
      refine lv_iload hx hb dL_lay_3 (lv_at hl 4 rfl) ?_
      refine lv_aload_n hx hb dL_lay_5 rfl (lv_at hl 3 rfl) ?_
      refine lv_iconst (v := 1) hx hb dL_lay_6 (by decide) ?_
      obtain ⟨h10, j9, ej9, hf⟩ := rd_e hf
      refine lald hx hb hKX.1 hX (hKK 6 (by decide)) h10 ej9 dL_lay_7 ?_
      refine lv_icmp_ge (tgt := 221) hx hb dL_lay_8 (by decide) (fun c11 => ?_) (fun c11 => ?_)
      · have hf := it_t c11 hf
        cases hf
        exact Ct_rv hx hb hr hlk hX hS dL_lay_221
      · have hf := it_f c11 hf
        refine lv_aload_n hx hb dL_lay_11 rfl (lv_at hl 1 rfl) ?_
        refine lv_iload hx hb dL_lay_12 (lv_at hl 4 rfl) ?_
        obtain ⟨h13, j12, ej12, hf⟩ := rd_e hf
        refine lald hx hb hKX.1 hX (hKK 1 (by decide)) h13 ej12 dL_lay_14 ?_
        refine lv_iconst (v := 3) hx hb dL_lay_15 (by decide) ?_
        refine lv_iand hx hb dL_lay_16 ?_
        refine lv_istore (lv' := [(5, .int ((S7 1 j12) &&& 3)), (0, .ref (ad 0)), (1, .ref (ad 1)), (2, .ref (ad 2)), (3, .ref (ad 6)), (4, .int x6)]) hx hb dL_lay_17 hl (by decide) rfl (fun ls hl => ?_)
        refine lv_aload_n hx hb dL_lay_19 rfl (lv_at hl 2 rfl) ?_
        refine lv_iload hx hb dL_lay_20 (lv_at hl 5 rfl) ?_
        obtain ⟨h15, j14, ej14, hf⟩ := rd_e hf
        refine lald hx hb hKX.1 hX (hKK 1 (by decide)) h15 ej14 dL_lay_22 ?_
        refine lv_iconst (v := 2) hx hb dL_lay_23 (by decide) ?_
        refine lv_ishr hx hb dL_lay_24 ?_
        refine lv_bipush (v := 15) hx hb dL_lay_25 (by decide) ?_
        refine lv_iand hx hb dL_lay_27 ?_
        refine lv_topi (fun x16 ex16 => ?_)
        have hf := lt_at ex16 hf
        refine lv_istore (lv' := [(6, .int x16), (5, .int ((S7 1 j12) &&& 3)), (0, .ref (ad 0)), (1, .ref (ad 1)), (2, .ref (ad 2)), (3, .ref (ad 6)), (4, .int x6)]) hx hb dL_lay_28 hl (by decide) rfl (fun ls hl => ?_)
        refine lv_aload_n hx hb dL_lay_30 rfl (lv_at hl 3 rfl) ?_
        refine lv_iload hx hb dL_lay_31 (lv_at hl 6 rfl) ?_
        obtain ⟨h18, j17, ej17, hf⟩ := rd_e hf
        refine lald hx hb hKX.1 hX (hKK 1 (by decide)) h18 ej17 dL_lay_33 ?_
        refine lv_bipush (v := 6) hx hb dL_lay_34 (by decide) ?_
        refine lv_ishr hx hb dL_lay_36 ?_
        refine lv_bipush (v := 15) hx hb dL_lay_37 (by decide) ?_
        refine lv_iand hx hb dL_lay_39 ?_
        refine lv_topi (fun x19 ex19 => ?_)
        have hf := lt_at ex19 hf
        refine lv_istore (lv' := [(7, .int x19), (6, .int x16), (5, .int ((S7 1 j12) &&& 3)), (0, .ref (ad 0)), (1, .ref (ad 1)), (2, .ref (ad 2)), (3, .ref (ad 6)), (4, .int x6)]) hx hb dL_lay_40 hl (by decide) rfl (fun ls hl => ?_)
        refine lv_iload hx hb dL_lay_42 (lv_at hl 2 rfl) ?_
        obtain ⟨k21, hk21, hf⟩ := jn1_e hf
        have Jk21 : ∀ (S20 : Lt) (H : Heap) (locs : List Loc) (ls : Array Slot), LX D cA A K ad S20 H → va_S A s.heap H locs → lv_has ls 10 [(0, .ref (ad 0)), (1, .ref (ad 1)), (2, .ref (ad 2)), (3, .ref (ad 6)), (4, .int x6), (5, .int ((S7 1 j12) &&& 3)), (6, .int x16), (7, .int x19)] → k21 S20 = some M' → W p l e (RM 3 0 0) s m args below meth c H locs 0 0 (MQ below (CtQ A none (LX D cA A K ad M')) args s 0 0 A) (F0 m 57 ls []) := by
          intro S20 H locs ls hX hS hl hf
          rw [hk21] at hf
          refine lv_iload hx hb dL_lay_57 (lv_at hl 5 rfl) ?_
          refine lv_iconst (v := 1) hx hb dL_lay_59 (by decide) ?_
          obtain ⟨k23, hk23, hf⟩ := jn1_e hf
          have Jk23 : ∀ (S22 : Lt) (H : Heap) (locs : List Loc) (ls : Array Slot), LX D cA A K ad S22 H → va_S A s.heap H locs → lv_has ls 10 [(0, .ref (ad 0)), (1, .ref (ad 1)), (2, .ref (ad 2)), (3, .ref (ad 6)), (4, .int x6), (5, .int ((S7 1 j12) &&& 3)), (6, .int x16), (7, .int x19)] → k23 S22 = some M' → W p l e (RM 3 0 0) s m args below meth c H locs 0 0 (MQ below (CtQ A none (LX D cA A K ad M')) args s 0 0 A) (F0 m 79 ls []) := by
            intro S22 H locs ls hX hS hl hf
            rw [hk23] at hf
            refine lv_iload hx hb dL_lay_79 (lv_at hl 5 rfl) ?_
            refine lv_iconst (v := 2) hx hb dL_lay_81 (by decide) ?_
            obtain ⟨k25, hk25, hf⟩ := jn1_e hf
            have Jk25 : ∀ (S24 : Lt) (H : Heap) (locs : List Loc) (ls : Array Slot), LX D cA A K ad S24 H → va_S A s.heap H locs → lv_has ls 10 [(0, .ref (ad 0)), (1, .ref (ad 1)), (2, .ref (ad 2)), (3, .ref (ad 6)), (4, .int x6), (5, .int ((S7 1 j12) &&& 3)), (6, .int x16), (7, .int x19)] → k25 S24 = some M' → W p l e (RM 3 0 0) s m args below meth c H locs 0 0 (MQ below (CtQ A none (LX D cA A K ad M')) args s 0 0 A) (F0 m 102 ls []) := by
              intro S24 H locs ls hX hS hl hf
              rw [hk25] at hf
              refine lv_iload hx hb dL_lay_102 (lv_at hl 5 rfl) ?_
              refine lv_iconst (v := 3) hx hb dL_lay_104 (by decide) ?_
              refine lv_icmp_ge (tgt := 111) hx hb dL_lay_105 (by decide) (fun c26 => ?_) (fun c26 => ?_)
              · have hf := it_t c26 hf
                refine lv_aload_n hx hb dL_lay_111 rfl (lv_at hl 2 rfl) ?_
                refine lv_iload hx hb dL_lay_112 (lv_at hl 4 rfl) ?_
                refine lv_iconst (v := 0) hx hb dL_lay_114 (by decide) ?_
                obtain ⟨h28, j27, ej27, hf⟩ := rd_e hf
                refine lasv hx hb hKX.1 hX hS (hKK 2 (by decide)) h28 ej27 dL_lay_115 (fun H locs hX hS => ?_)
                obtain ⟨S29, eS29, hf⟩ := lt_e hf
                rw [← eS29] at hX
                refine lv_iconst (v := 0) hx hb dL_lay_116 (by decide) ?_
                refine lv_istore (lv' := [(8, .int 0), (0, .ref (ad 0)), (1, .ref (ad 1)), (2, .ref (ad 2)), (3, .ref (ad 6)), (4, .int x6), (5, .int ((S7 1 j12) &&& 3)), (6, .int x16), (7, .int x19)]) hx hb dL_lay_117 hl (by decide) rfl (fun ls hl => ?_)
                obtain ⟨g32, g320, g32s, hf⟩ := lp2_e hf
                have Lg32 : ∀ (n : Nat) (x30 : Int32) (S31 : Lt) (H : Heap) (locs : List Loc) (ls : Array Slot), LX D cA A K ad S31 H → va_S A s.heap H locs → lv_has ls 10 [(0, .ref (ad 0)), (1, .ref (ad 1)), (2, .ref (ad 2)), (3, .ref (ad 6)), (4, .int x6), (6, .int x16), (7, .int x19), (8, .int x30)] → g32 n x30 S31 = some M' → W p l e (RM 3 0 0) s m args below meth c H locs 0 0 (MQ below (CtQ A none (LX D cA A K ad M')) args s 0 0 A) (F0 m 119 ls []) := by
                  intro n
                  induction n with
                  | zero => intro x30 S31 H locs ls hX hS hl hf; rw [g320] at hf; cases hf
                  | succ n ihg32 =>
                    intro x30 S31 H locs ls hX hS hl hf
                    rw [g32s] at hf
                    refine lv_iload hx hb dL_lay_119 (lv_at hl 7 rfl) ?_
                    refine lv_bipush (v := 27) hx hb dL_lay_121 (by decide) ?_
                    refine lv_icmp_ge (tgt := 215) hx hb dL_lay_123 (by decide) (fun c33 => ?_) (fun c33 => ?_)
                    · have hf := it_t c33 hf
                      refine lv_iinc (v := (x6 + 1)) (lv' := [(4, .int (x6 + 1)), (0, .ref (ad 0)), (1, .ref (ad 1)), (2, .ref (ad 2)), (3, .ref (ad 6)), (6, .int x16), (7, .int x19), (8, .int x30)]) hx hb dL_lay_215 hl (k := 4) rfl rfl (by decide) rfl (fun ls hl => ?_)
                      refine lv_goto (tgt := 3) hx hb dL_lay_218 (by decide) ?_
                      exact ihg8 _ _ _ _ _ hX hS (lv_sub hl [1, 2, 3, 4, 0] rfl) hf
                    · have hf := it_f c33 hf
                      refine lv_iload hx hb dL_lay_126 (lv_at hl 7 rfl) ?_
                      refine lv_aload_n hx hb dL_lay_128 rfl (lv_at hl 1 rfl) ?_
                      refine lv_iload hx hb dL_lay_129 (lv_at hl 4 rfl) ?_
                      obtain ⟨z34, hz34, hf⟩ := cb_e hf
                      refine lSi (As := [.ref (ad 1), .int x6]) (rest := [.int x30]) hC (c_l_columnsOf hKK hz34) q_l_columnsOf a_593 (Nat.le_of_ble_eq_true rfl) hX hKX rfl hl.1 (Nat.le_of_ble_eq_true rfl) dL_lay_131 ⟨Nat.le_of_ble_eq_true rfl, Nat.le_of_ble_eq_true rfl⟩ hS (fun H locs hX hS => ?_)
                      obtain ⟨z35, hz35, hf⟩ := cb_e hf
                      refine lSi (As := [.int x30, .int z34]) (rest := []) hC (c_l_part hKK hz35) q_l_part a_599 (Nat.le_of_ble_eq_true rfl) hX hKX rfl hl.1 (Nat.le_of_ble_eq_true rfl) dL_lay_134 ⟨Nat.le_of_ble_eq_true rfl, Nat.le_of_ble_eq_true rfl⟩ hS (fun H locs hX hS => ?_)
                      refine lv_iload hx hb dL_lay_137 (lv_at hl 7 rfl) ?_
                      obtain ⟨k37, hk37, hf⟩ := jn1_e hf
                      have Jk37 : ∀ (x36 : Int32) (H : Heap) (locs : List Loc) (ls : Array Slot), LX D cA A K ad S31 H → va_S A s.heap H locs → lv_has ls 10 [(0, .ref (ad 0)), (1, .ref (ad 1)), (2, .ref (ad 2)), (3, .ref (ad 6)), (4, .int x6), (6, .int x16), (7, .int x19), (8, .int x30)] → k37 x36 = some M' → W p l e (RM 3 0 0) s m args below meth c H locs 0 0 (MQ below (CtQ A none (LX D cA A K ad M')) args s 0 0 A) (F0 m 191 ls [.int x36]) := by
                        intro x36 H locs ls hX hS hl hf
                        rw [hk37] at hf
                        refine lv_istore (lv' := [(9, .int x36), (0, .ref (ad 0)), (1, .ref (ad 1)), (2, .ref (ad 2)), (3, .ref (ad 6)), (4, .int x6), (6, .int x16), (7, .int x19), (8, .int x30)]) hx hb dL_lay_191 hl (by decide) rfl (fun ls hl => ?_)
                        refine lv_iload hx hb dL_lay_193 (lv_at hl 0 rfl) ?_
                        refine lv_if_eq (tgt := 209) hx hb dL_lay_195 (by decide) (fun c38 => ?_) (fun c38 => ?_)
                        · have hf := it_t c38 hf
                          refine lv_iinc (v := (x30 + 1)) (lv' := [(8, .int (x30 + 1)), (9, .int x36), (0, .ref (ad 0)), (1, .ref (ad 1)), (2, .ref (ad 2)), (3, .ref (ad 6)), (4, .int x6), (6, .int x16), (7, .int x19)]) hx hb dL_lay_209 hl (k := 8) rfl rfl (by decide) rfl (fun ls hl => ?_)
                          refine lv_goto (tgt := 119) hx hb dL_lay_212 (by decide) ?_
                          exact ihg32 _ _ _ _ _ hX hS (lv_sub hl [2, 3, 4, 5, 6, 7, 8, 0] rfl) hf
                        · have hf := it_f c38 hf
                          refine lv_aload_n hx hb dL_lay_198 rfl (lv_at hl 3 rfl) ?_
                          refine lv_iload hx hb dL_lay_199 (lv_at hl 5 rfl) ?_
                          refine lv_dup2_11 hx hb dL_lay_201 rfl rfl ?_
                          obtain ⟨h40, j39, ej39, hf⟩ := rd_e hf
                          refine lald hx hb hKX.1 hX (hKK 2 (by decide)) h40 ej39 dL_lay_202 ?_
                          refine lv_iconst (v := 1) hx hb dL_lay_203 (by decide) ?_
                          refine lv_iload hx hb dL_lay_204 (lv_at hl 8 rfl) ?_
                          refine lv_ishl hx hb dL_lay_206 ?_
                          refine lv_ior hx hb dL_lay_207 ?_
                          obtain ⟨h42, j41, ej41, hf⟩ := rd_e hf
                          refine lasv hx hb hKX.1 hX hS (hKK 2 (by decide)) h42 ej41 dL_lay_208 (fun H locs hX hS => ?_)
                          obtain ⟨S43, eS43, hf⟩ := lt_e hf
                          rw [← eS43] at hX
                          refine lv_iinc (v := (x30 + 1)) (lv' := [(8, .int (x30 + 1)), (9, .int x36), (0, .ref (ad 0)), (1, .ref (ad 1)), (2, .ref (ad 2)), (3, .ref (ad 6)), (4, .int x6), (6, .int x16), (7, .int x19)]) hx hb dL_lay_209 hl (k := 8) rfl rfl (by decide) rfl (fun ls hl => ?_)
                          refine lv_goto (tgt := 119) hx hb dL_lay_212 (by decide) ?_
                          exact ihg32 _ _ _ _ _ hX hS (lv_sub hl [2, 3, 4, 5, 6, 7, 8, 0] rfl) hf
                      refine lv_icmp_ne (tgt := 190) hx hb dL_lay_139 (by decide) (fun c44 => ?_) (fun c44 => ?_)
                      · have hf := it_f c44 hf
                        refine lv_iconst (v := 0) hx hb dL_lay_190 (by decide) ?_
                        exact Jk37 _ _ _ _ hX hS (lv_sub hl [0, 1, 2, 3, 4, 5, 6, 7] rfl) hf
                      · have hf := it_t c44 hf
                        refine lv_aload_n hx hb dL_lay_142 rfl (lv_at hl 2 rfl) ?_
                        refine lv_iload hx hb dL_lay_143 (lv_at hl 5 rfl) ?_
                        obtain ⟨h46, j45, ej45, hf⟩ := rd_e hf
                        refine lald hx hb hKX.1 hX (hKK 2 (by decide)) h46 ej45 dL_lay_145 ?_
                        refine lv_iload hx hb dL_lay_146 (lv_at hl 7 rfl) ?_
                        refine lv_aload_n hx hb dL_lay_148 rfl (lv_at hl 1 rfl) ?_
                        refine lv_iload hx hb dL_lay_149 (lv_at hl 5 rfl) ?_
                        obtain ⟨z47, hz47, hf⟩ := cb_e hf
                        refine lSi (As := [.ref (ad 1), .int x16]) (rest := [.int x30, .int (S31 2 j45)]) hC (c_l_columnsOf hKK hz47) q_l_columnsOf a_593 (Nat.le_of_ble_eq_true rfl) hX hKX rfl hl.1 (Nat.le_of_ble_eq_true rfl) dL_lay_151 ⟨Nat.le_of_ble_eq_true rfl, Nat.le_of_ble_eq_true rfl⟩ hS (fun H locs hX hS => ?_)
                        obtain ⟨z48, hz48, hf⟩ := cb_e hf
                        refine lSi (As := [.int x30, .int z47]) (rest := [.int (S31 2 j45)]) hC (c_l_part hKK hz48) q_l_part a_599 (Nat.le_of_ble_eq_true rfl) hX hKX rfl hl.1 (Nat.le_of_ble_eq_true rfl) dL_lay_154 ⟨Nat.le_of_ble_eq_true rfl, Nat.le_of_ble_eq_true rfl⟩ hS (fun H locs hX hS => ?_)
                        refine lv_ishr hx hb dL_lay_157 ?_
                        refine lv_iconst (v := 1) hx hb dL_lay_158 (by decide) ?_
                        refine lv_iand hx hb dL_lay_159 ?_
                        refine lv_iconst (v := 1) hx hb dL_lay_160 (by decide) ?_
                        refine lv_icmp_ne (tgt := 190) hx hb dL_lay_161 (by decide) (fun c49 => ?_) (fun c49 => ?_)
                        · have hf := it_f c49 hf
                          refine lv_iconst (v := 0) hx hb dL_lay_190 (by decide) ?_
                          exact Jk37 _ _ _ _ hX hS (lv_sub hl [0, 1, 2, 3, 4, 5, 6, 7] rfl) hf
                        · have hf := it_t c49 hf
                          refine lv_aload_n hx hb dL_lay_164 rfl (lv_at hl 2 rfl) ?_
                          refine lv_iload hx hb dL_lay_165 (lv_at hl 6 rfl) ?_
                          obtain ⟨h51, j50, ej50, hf⟩ := rd_e hf
                          refine lald hx hb hKX.1 hX (hKK 2 (by decide)) h51 ej50 dL_lay_167 ?_
                          refine lv_iload hx hb dL_lay_168 (lv_at hl 7 rfl) ?_
                          refine lv_aload_n hx hb dL_lay_170 rfl (lv_at hl 1 rfl) ?_
                          refine lv_iload hx hb dL_lay_171 (lv_at hl 6 rfl) ?_
                          obtain ⟨z52, hz52, hf⟩ := cb_e hf
                          refine lSi (As := [.ref (ad 1), .int x19]) (rest := [.int x30, .int (S31 2 j50)]) hC (c_l_columnsOf hKK hz52) q_l_columnsOf a_593 (Nat.le_of_ble_eq_true rfl) hX hKX rfl hl.1 (Nat.le_of_ble_eq_true rfl) dL_lay_173 ⟨Nat.le_of_ble_eq_true rfl, Nat.le_of_ble_eq_true rfl⟩ hS (fun H locs hX hS => ?_)
                          obtain ⟨z53, hz53, hf⟩ := cb_e hf
                          refine lSi (As := [.int x30, .int z52]) (rest := [.int (S31 2 j50)]) hC (c_l_part hKK hz53) q_l_part a_599 (Nat.le_of_ble_eq_true rfl) hX hKX rfl hl.1 (Nat.le_of_ble_eq_true rfl) dL_lay_176 ⟨Nat.le_of_ble_eq_true rfl, Nat.le_of_ble_eq_true rfl⟩ hS (fun H locs hX hS => ?_)
                          refine lv_ishr hx hb dL_lay_179 ?_
                          refine lv_iconst (v := 1) hx hb dL_lay_180 (by decide) ?_
                          refine lv_iand hx hb dL_lay_181 ?_
                          refine lv_iconst (v := 1) hx hb dL_lay_182 (by decide) ?_
                          refine lv_icmp_ne (tgt := 190) hx hb dL_lay_183 (by decide) (fun c54 => ?_) (fun c54 => ?_)
                          · have hf := it_f c54 hf
                            refine lv_iconst (v := 0) hx hb dL_lay_190 (by decide) ?_
                            exact Jk37 _ _ _ _ hX hS (lv_sub hl [0, 1, 2, 3, 4, 5, 6, 7] rfl) hf
                          · have hf := it_t c54 hf
                            refine lv_iconst (v := 1) hx hb dL_lay_186 (by decide) ?_
                            refine lv_goto (tgt := 191) hx hb dL_lay_187 (by decide) ?_
                            exact Jk37 _ _ _ _ hX hS (lv_sub hl [0, 1, 2, 3, 4, 5, 6, 7] rfl) hf
                exact Lg32 FU _ _ _ _ _ hX hS (lv_sub hl [1, 2, 3, 4, 5, 7, 8, 0] rfl) hf
              · have hf := it_f c26 hf
                refine lv_goto (tgt := 215) hx hb dL_lay_108 (by decide) ?_
                refine lv_iinc (v := (x6 + 1)) (lv' := [(4, .int (x6 + 1)), (0, .ref (ad 0)), (1, .ref (ad 1)), (2, .ref (ad 2)), (3, .ref (ad 6)), (5, .int ((S7 1 j12) &&& 3)), (6, .int x16), (7, .int x19)]) hx hb dL_lay_215 hl (k := 4) rfl rfl (by decide) rfl (fun ls hl => ?_)
                refine lv_goto (tgt := 3) hx hb dL_lay_218 (by decide) ?_
                exact ihg8 _ _ _ _ _ hX hS (lv_sub hl [1, 2, 3, 4, 0] rfl) hf
            refine lv_icmp_ne (tgt := 102) hx hb dL_lay_82 (by decide) (fun c55 => ?_) (fun c55 => ?_)
            · have hf := it_f c55 hf
              exact Jk25 _ _ _ _ hX hS (lv_sub hl [0, 1, 2, 3, 4, 5, 6, 7] rfl) hf
            · have hf := it_t c55 hf
              refine lv_aload_n hx hb dL_lay_85 rfl (lv_at hl 2 rfl) ?_
              refine lv_iload hx hb dL_lay_86 (lv_at hl 4 rfl) ?_
              refine lv_aload_n hx hb dL_lay_88 rfl (lv_at hl 2 rfl) ?_
              refine lv_iload hx hb dL_lay_89 (lv_at hl 6 rfl) ?_
              obtain ⟨h57, j56, ej56, hf⟩ := rd_e hf
              refine lald hx hb hKX.1 hX (hKK 2 (by decide)) h57 ej56 dL_lay_91 ?_
              refine lv_aload_n hx hb dL_lay_92 rfl (lv_at hl 1 rfl) ?_
              refine lv_iload hx hb dL_lay_93 (lv_at hl 4 rfl) ?_
              obtain ⟨z58, hz58, hf⟩ := cb_e hf
              refine lSi (As := [.ref (ad 1), .int x6]) (rest := [.int (S22 2 j56), .int x6, .ref (ad 2)]) hC (c_l_columnsOf hKK hz58) q_l_columnsOf a_593 (Nat.le_of_ble_eq_true rfl) hX hKX rfl hl.1 (Nat.le_of_ble_eq_true rfl) dL_lay_95 ⟨Nat.le_of_ble_eq_true rfl, Nat.le_of_ble_eq_true rfl⟩ hS (fun H locs hX hS => ?_)
              obtain ⟨z59, hz59, hf⟩ := cb_e hf
              refine lSi (As := [.int (S22 2 j56), .int z58]) (rest := [.int x6, .ref (ad 2)]) hC (c_l_parts hKK hz59) q_l_parts a_596 (Nat.le_of_ble_eq_true rfl) hX hKX rfl hl.1 (Nat.le_of_ble_eq_true rfl) dL_lay_98 ⟨Nat.le_of_ble_eq_true rfl, Nat.le_of_ble_eq_true rfl⟩ hS (fun H locs hX hS => ?_)
              obtain ⟨h61, j60, ej60, hf⟩ := rd_e hf
              refine lasv hx hb hKX.1 hX hS (hKK 2 (by decide)) h61 ej60 dL_lay_101 (fun H locs hX hS => ?_)
              obtain ⟨S62, eS62, hf⟩ := lt_e hf
              rw [← eS62] at hX
              exact Jk25 _ _ _ _ hX hS (lv_sub hl [0, 1, 2, 3, 4, 5, 6, 7] rfl) hf
          refine lv_icmp_ne (tgt := 79) hx hb dL_lay_60 (by decide) (fun c63 => ?_) (fun c63 => ?_)
          · have hf := it_f c63 hf
            exact Jk23 _ _ _ _ hX hS (lv_sub hl [0, 1, 2, 3, 4, 5, 6, 7] rfl) hf
          · have hf := it_t c63 hf
            refine lv_aload_n hx hb dL_lay_63 rfl (lv_at hl 2 rfl) ?_
            refine lv_iload hx hb dL_lay_64 (lv_at hl 4 rfl) ?_
            refine lv_aload_n hx hb dL_lay_66 rfl (lv_at hl 1 rfl) ?_
            refine lv_iload hx hb dL_lay_67 (lv_at hl 4 rfl) ?_
            obtain ⟨h65, j64, ej64, hf⟩ := rd_e hf
            refine lald hx hb hKX.1 hX (hKK 1 (by decide)) h65 ej64 dL_lay_69 ?_
            refine lv_aload_n hx hb dL_lay_70 rfl (lv_at hl 2 rfl) ?_
            refine lv_iload hx hb dL_lay_71 (lv_at hl 6 rfl) ?_
            obtain ⟨h67, j66, ej66, hf⟩ := rd_e hf
            refine lald hx hb hKX.1 hX (hKK 2 (by decide)) h67 ej66 dL_lay_73 ?_
            refine lv_iconst (v := 1) hx hb dL_lay_74 (by decide) ?_
            obtain ⟨z68, hz68, hf⟩ := cb_e hf
            refine lSi (As := [.int (S20 1 j64), .int (S20 2 j66), .int 1]) (rest := [.int x6, .ref (ad 2)]) hC (c_l_selected hKK hz68) q_l_selected a_587 (Nat.le_of_ble_eq_true rfl) hX hKX rfl hl.1 (Nat.le_of_ble_eq_true rfl) dL_lay_75 ⟨Nat.le_of_ble_eq_true rfl, Nat.le_of_ble_eq_true rfl⟩ hS (fun H locs hX hS => ?_)
            obtain ⟨h70, j69, ej69, hf⟩ := rd_e hf
            refine lasv hx hb hKX.1 hX hS (hKK 2 (by decide)) h70 ej69 dL_lay_78 (fun H locs hX hS => ?_)
            obtain ⟨S71, eS71, hf⟩ := lt_e hf
            rw [← eS71] at hX
            exact Jk23 _ _ _ _ hX hS (lv_sub hl [0, 1, 2, 3, 4, 5, 6, 7] rfl) hf
        refine lv_if_ne (tgt := 57) hx hb dL_lay_44 (by decide) (fun c72 => ?_) (fun c72 => ?_)
        · have hf := it_f c72 hf
          exact Jk21 _ _ _ _ hX hS (lv_sub hl [3, 4, 5, 6, 7, 2, 1, 0] rfl) hf
        · have hf := it_t c72 hf
          refine lv_aload_n hx hb dL_lay_47 rfl (lv_at hl 5 rfl) ?_
          refine lv_iload hx hb dL_lay_48 (lv_at hl 7 rfl) ?_
          refine lv_aload_n hx hb dL_lay_50 rfl (lv_at hl 3 rfl) ?_
          refine lv_iconst (v := 3) hx hb dL_lay_51 (by decide) ?_
          refine lv_iload hx hb dL_lay_52 (lv_at hl 1 rfl) ?_
          refine lv_iadd hx hb dL_lay_54 ?_
          obtain ⟨h74, j73, ej73, hf⟩ := rd_e hf
          refine lald hx hb hKX.1 hX (hKK 0 (by decide)) h74 ej73 dL_lay_55 ?_
          obtain ⟨h76, j75, ej75, hf⟩ := rd_e hf
          refine lasv hx hb hKX.1 hX hS (hKK 2 (by decide)) h76 ej75 dL_lay_56 (fun H locs hX hS => ?_)
          obtain ⟨S77, eS77, hf⟩ := lt_e hf
          rw [← eS77] at hX
          exact Jk21 _ _ _ _ hX hS (lv_sub hl [3, 4, 5, 6, 7, 2, 1, 0] rfl) hf
  exact Lg8 FU _ _ _ _ _ hX hS (lv_sub hl [1, 2, 3, 4, 0] rfl) hf

theorem q_l_twins : VWs yL_twins cL_twins 8 (some .boolean) 6 := ⟨a_613, a_15, a_612, by decide +kernel⟩
set_option maxRecDepth 100000 in
set_option maxHeartbeats 4000000 in
theorem c_l_twins {l : Launch} {D : va_G} {cA : Nat → ClassId} {A : Nat → Prop} {ad : Nat → Nat} {K : List Nat} (hKK : ∀ c ∈ La, c ∈ K) {x2 : Int32} {x3 : Int32} {x4 : Int32} {x5 : Int32} {x6 : Int32} {M : Lt} {r : Int32} {M' : Lt} (hf : l_twins x2 x3 x4 x5 x6 M = some (r, M')) : Ct l D cA A yL_twins cL_twins 8 (some .boolean) 2 0 0 [.ref (ad 6), .int x2, .int x3, .int x4, .int x5, .int x6] (LX D cA A K ad M) (some (.int r)) (LX D cA A K ad M') := by
  refine Ct_of (by decide +kernel) (Nat.le_of_ble_eq_true rfl) ?_
  intro p e s m args below meth c ls hC hr hlk hnm hX hKX hl
  have hx := hC.1
  have hb := hC.2.1
  have hS : va_S A s.heap s.heap [] := va_S.rf
  have hl : lv_has ls 8 [(0, .ref (ad 6)), (1, .int x2), (2, .int x3), (3, .int x4), (4, .int x5), (5, .int x6)] := hl
  unfold l_twins at hf
  refine lv_iconst (v := 0) hx hb dL_twins_0 (by decide) ?_
  refine lv_istore (lv' := [(6, .int 0), (0, .ref (ad 6)), (1, .int x2), (2, .int x3), (3, .int x4), (4, .int x5), (5, .int x6)]) hx hb dL_twins_1 hl (by decide) rfl (fun ls hl => ?_)
  obtain ⟨g9, g90, g9s, hf⟩ := lp1_e hf
  have Lg9 : ∀ (n : Nat) (x8 : Int32) (H : Heap) (locs : List Loc) (ls : Array Slot), LX D cA A K ad M H → va_S A s.heap H locs → lv_has ls 8 [(0, .ref (ad 6)), (1, .int x2), (2, .int x3), (3, .int x4), (4, .int x5), (5, .int x6), (6, .int x8)] → g9 n x8 = some (r, M') → W p l e (RM 2 0 0) s m args below meth c H locs 0 0 (MQ below (CtQ A (some (.int r)) (LX D cA A K ad M')) args s 0 0 A) (F0 m 3 ls []) := by
    intro n
    induction n with
    | zero => intro x8 H locs ls hX hS hl hf; rw [g90] at hf; cases hf
    | succ n ihg9 =>
      intro x8 H locs ls hX hS hl hf
      rw [g9s] at hf
      refine lv_iload hx hb dL_twins_3 (lv_at hl 6 rfl) ?_
      refine lv_bipush (v := 27) hx hb dL_twins_5 (by decide) ?_
      refine lv_icmp_ge (tgt := 126) hx hb dL_twins_7 (by decide) (fun c10 => ?_) (fun c10 => ?_)
      · have hf := it_t c10 hf
        refine lv_iconst (v := 0) hx hb dL_twins_126 (by decide) ?_
        cases hf
        exact Ct_rz hx hb hr hlk nz0 hX hS dL_twins_127
      · have hf := it_f c10 hf
        refine lv_iload_n hx hb dL_twins_10 rfl (lv_at hl 3 rfl) ?_
        refine lv_iload hx hb dL_twins_11 (lv_at hl 6 rfl) ?_
        refine lv_ishr hx hb dL_twins_13 ?_
        refine lv_iconst (v := 1) hx hb dL_twins_14 (by decide) ?_
        refine lv_iand hx hb dL_twins_15 ?_
        refine lv_if_ne (tgt := 22) hx hb dL_twins_16 (by decide) (fun c11 => ?_) (fun c11 => ?_)
        · have hf := it_f c11 hf
          refine lv_iload hx hb dL_twins_22 (lv_at hl 6 rfl) ?_
          refine lv_iconst (v := 1) hx hb dL_twins_24 (by decide) ?_
          refine lv_iadd hx hb dL_twins_25 ?_
          refine lv_istore (lv' := [(7, .int (x8 + 1)), (0, .ref (ad 6)), (1, .int x2), (2, .int x3), (3, .int x4), (4, .int x5), (5, .int x6), (6, .int x8)]) hx hb dL_twins_26 hl (by decide) rfl (fun ls hl => ?_)
          obtain ⟨g13, g130, g13s, hf⟩ := lp1_e hf
          have Lg13 : ∀ (n : Nat) (x12 : Int32) (H : Heap) (locs : List Loc) (ls : Array Slot), LX D cA A K ad M H → va_S A s.heap H locs → lv_has ls 8 [(0, .ref (ad 6)), (1, .int x2), (2, .int x3), (3, .int x4), (4, .int x5), (5, .int x6), (6, .int x8), (7, .int x12)] → g13 n x12 = some (r, M') → W p l e (RM 2 0 0) s m args below meth c H locs 0 0 (MQ below (CtQ A (some (.int r)) (LX D cA A K ad M')) args s 0 0 A) (F0 m 28 ls []) := by
            intro n
            induction n with
            | zero => intro x12 H locs ls hX hS hl hf; rw [g130] at hf; cases hf
            | succ n ihg13 =>
              intro x12 H locs ls hX hS hl hf
              rw [g13s] at hf
              refine lv_iload hx hb dL_twins_28 (lv_at hl 7 rfl) ?_
              refine lv_bipush (v := 27) hx hb dL_twins_30 (by decide) ?_
              refine lv_icmp_ge (tgt := 120) hx hb dL_twins_32 (by decide) (fun c14 => ?_) (fun c14 => ?_)
              · have hf := it_t c14 hf
                refine lv_iinc (v := (x8 + 1)) (lv' := [(6, .int (x8 + 1)), (0, .ref (ad 6)), (1, .int x2), (2, .int x3), (3, .int x4), (4, .int x5), (5, .int x6), (7, .int x12)]) hx hb dL_twins_120 hl (k := 6) rfl rfl (by decide) rfl (fun ls hl => ?_)
                refine lv_goto (tgt := 3) hx hb dL_twins_123 (by decide) ?_
                exact ihg9 _ _ _ _ hX hS (lv_sub hl [1, 2, 3, 4, 5, 6, 0] rfl) hf
              · have hf := it_f c14 hf
                refine lv_iload_n hx hb dL_twins_35 rfl (lv_at hl 3 rfl) ?_
                refine lv_iload hx hb dL_twins_36 (lv_at hl 7 rfl) ?_
                refine lv_ishr hx hb dL_twins_38 ?_
                refine lv_iconst (v := 1) hx hb dL_twins_39 (by decide) ?_
                refine lv_iand hx hb dL_twins_40 ?_
                refine lv_if_eq (tgt := 114) hx hb dL_twins_41 (by decide) (fun c15 => ?_) (fun c15 => ?_)
                · have hf := it_t c15 hf
                  refine lv_iinc (v := (x12 + 1)) (lv' := [(7, .int (x12 + 1)), (0, .ref (ad 6)), (1, .int x2), (2, .int x3), (3, .int x4), (4, .int x5), (5, .int x6), (6, .int x8)]) hx hb dL_twins_114 hl (k := 7) rfl rfl (by decide) rfl (fun ls hl => ?_)
                  refine lv_goto (tgt := 28) hx hb dL_twins_117 (by decide) ?_
                  exact ihg13 _ _ _ _ hX hS (lv_sub hl [1, 2, 3, 4, 5, 6, 7, 0] rfl) hf
                · have hf := it_f c15 hf
                  refine lv_iload hx hb dL_twins_44 (lv_at hl 6 rfl) ?_
                  refine lv_iload hx hb dL_twins_46 (lv_at hl 4 rfl) ?_
                  obtain ⟨z16, hz16, hf⟩ := cb_e hf
                  refine lSi (As := [.int x8, .int x5]) (rest := []) hC (c_l_part hKK hz16) q_l_part a_599 (Nat.le_of_ble_eq_true rfl) hX hKX rfl hl.1 (Nat.le_of_ble_eq_true rfl) dL_twins_48 ⟨Nat.le_of_ble_eq_true rfl, Nat.le_of_ble_eq_true rfl⟩ hS (fun H locs hX hS => ?_)
                  refine lv_iload hx hb dL_twins_51 (lv_at hl 7 rfl) ?_
                  refine lv_iload hx hb dL_twins_53 (lv_at hl 4 rfl) ?_
                  obtain ⟨z17, hz17, hf⟩ := cb_e hf
                  refine lSi (As := [.int x12, .int x5]) (rest := [.int z16]) hC (c_l_part hKK hz17) q_l_part a_599 (Nat.le_of_ble_eq_true rfl) hX hKX rfl hl.1 (Nat.le_of_ble_eq_true rfl) dL_twins_55 ⟨Nat.le_of_ble_eq_true rfl, Nat.le_of_ble_eq_true rfl⟩ hS (fun H locs hX hS => ?_)
                  refine lv_icmp_ne (tgt := 114) hx hb dL_twins_58 (by decide) (fun c18 => ?_) (fun c18 => ?_)
                  · have hf := it_f c18 hf
                    refine lv_iinc (v := (x12 + 1)) (lv' := [(7, .int (x12 + 1)), (0, .ref (ad 6)), (1, .int x2), (2, .int x3), (3, .int x4), (4, .int x5), (5, .int x6), (6, .int x8)]) hx hb dL_twins_114 hl (k := 7) rfl rfl (by decide) rfl (fun ls hl => ?_)
                    refine lv_goto (tgt := 28) hx hb dL_twins_117 (by decide) ?_
                    exact ihg13 _ _ _ _ hX hS (lv_sub hl [1, 2, 3, 4, 5, 6, 7, 0] rfl) hf
                  · have hf := it_t c18 hf
                    refine lv_iload hx hb dL_twins_61 (lv_at hl 6 rfl) ?_
                    refine lv_iload hx hb dL_twins_63 (lv_at hl 5 rfl) ?_
                    obtain ⟨z19, hz19, hf⟩ := cb_e hf
                    refine lSi (As := [.int x8, .int x6]) (rest := []) hC (c_l_part hKK hz19) q_l_part a_599 (Nat.le_of_ble_eq_true rfl) hX hKX rfl hl.1 (Nat.le_of_ble_eq_true rfl) dL_twins_65 ⟨Nat.le_of_ble_eq_true rfl, Nat.le_of_ble_eq_true rfl⟩ hS (fun H locs hX hS => ?_)
                    refine lv_iload hx hb dL_twins_68 (lv_at hl 7 rfl) ?_
                    refine lv_iload hx hb dL_twins_70 (lv_at hl 5 rfl) ?_
                    obtain ⟨z20, hz20, hf⟩ := cb_e hf
                    refine lSi (As := [.int x12, .int x6]) (rest := [.int z19]) hC (c_l_part hKK hz20) q_l_part a_599 (Nat.le_of_ble_eq_true rfl) hX hKX rfl hl.1 (Nat.le_of_ble_eq_true rfl) dL_twins_72 ⟨Nat.le_of_ble_eq_true rfl, Nat.le_of_ble_eq_true rfl⟩ hS (fun H locs hX hS => ?_)
                    refine lv_icmp_ne (tgt := 81) hx hb dL_twins_75 (by decide) (fun c21 => ?_) (fun c21 => ?_)
                    · have hf := it_f c21 hf
                      refine lv_aload_n hx hb dL_twins_81 rfl (lv_at hl 0 rfl) ?_
                      refine lv_iconst (v := 4) hx hb dL_twins_82 (by decide) ?_
                      refine lv_bipush (v := 10) hx hb dL_twins_83 (by decide) ?_
                      refine lv_iload_n hx hb dL_twins_85 rfl (lv_at hl 1 rfl) ?_
                      refine lv_imul hx hb dL_twins_86 ?_
                      refine lv_iload_n hx hb dL_twins_87 rfl (lv_at hl 2 rfl) ?_
                      refine lv_iadd hx hb dL_twins_88 ?_
                      obtain ⟨h23, j22, ej22, hf⟩ := rd_e hf
                      refine lasv hx hb hKX.1 hX hS (hKK 6 (by decide)) h23 ej22 dL_twins_89 (fun H locs hX hS => ?_)
                      obtain ⟨S24, eS24, hf⟩ := lt_e hf
                      rw [← eS24] at hX
                      refine lv_aload_n hx hb dL_twins_90 rfl (lv_at hl 0 rfl) ?_
                      refine lv_iconst (v := 5) hx hb dL_twins_91 (by decide) ?_
                      refine lv_iload hx hb dL_twins_92 (lv_at hl 6 rfl) ?_
                      obtain ⟨z25, hz25, hf⟩ := cb_e hf
                      refine lSi (As := [.int x8]) (rest := [.int 5, .ref (ad 6)]) hC (c_l_number hKK hz25) q_l_number a_578 (Nat.le_of_ble_eq_true rfl) hX hKX rfl hl.1 (Nat.le_of_ble_eq_true rfl) dL_twins_94 ⟨Nat.le_of_ble_eq_true rfl, Nat.le_of_ble_eq_true rfl⟩ hS (fun H locs hX hS => ?_)
                      refine lv_iconst (v := 1) hx hb dL_twins_97 (by decide) ?_
                      refine lv_iadd hx hb dL_twins_98 ?_
                      refine lv_sipush (v := 1000) hx hb dL_twins_99 (by decide) ?_
                      refine lv_iload hx hb dL_twins_102 (lv_at hl 7 rfl) ?_
                      obtain ⟨z26, hz26, hf⟩ := cb_e hf
                      refine lSi (As := [.int x12]) (rest := [.int 1000, .int (z25 + 1), .int 5, .ref (ad 6)]) hC (c_l_number hKK hz26) q_l_number a_578 (Nat.le_of_ble_eq_true rfl) hX hKX rfl hl.1 (Nat.le_of_ble_eq_true rfl) dL_twins_104 ⟨Nat.le_of_ble_eq_true rfl, Nat.le_of_ble_eq_true rfl⟩ hS (fun H locs hX hS => ?_)
                      refine lv_iconst (v := 1) hx hb dL_twins_107 (by decide) ?_
                      refine lv_iadd hx hb dL_twins_108 ?_
                      refine lv_imul hx hb dL_twins_109 ?_
                      refine lv_iadd hx hb dL_twins_110 ?_
                      obtain ⟨h28, j27, ej27, hf⟩ := rd_e hf
                      refine lasv hx hb hKX.1 hX hS (hKK 6 (by decide)) h28 ej27 dL_twins_111 (fun H locs hX hS => ?_)
                      obtain ⟨S29, eS29, hf⟩ := lt_e hf
                      rw [← eS29] at hX
                      refine lv_iconst (v := 1) hx hb dL_twins_112 (by decide) ?_
                      cases hf
                      exact Ct_rz hx hb hr hlk nz1 hX hS dL_twins_113
                    · have hf := it_t c21 hf
                      refine lv_goto (tgt := 114) hx hb dL_twins_78 (by decide) ?_
                      refine lv_iinc (v := (x12 + 1)) (lv' := [(7, .int (x12 + 1)), (0, .ref (ad 6)), (1, .int x2), (2, .int x3), (3, .int x4), (4, .int x5), (5, .int x6), (6, .int x8)]) hx hb dL_twins_114 hl (k := 7) rfl rfl (by decide) rfl (fun ls hl => ?_)
                      refine lv_goto (tgt := 28) hx hb dL_twins_117 (by decide) ?_
                      exact ihg13 _ _ _ _ hX hS (lv_sub hl [1, 2, 3, 4, 5, 6, 7, 0] rfl) hf
          exact Lg13 FU _ _ _ _ hX hS (lv_sub hl [1, 2, 3, 4, 5, 6, 7, 0] rfl) hf
        · have hf := it_t c11 hf
          refine lv_goto (tgt := 120) hx hb dL_twins_19 (by decide) ?_
          refine lv_iinc (v := (x8 + 1)) (lv' := [(6, .int (x8 + 1)), (0, .ref (ad 6)), (1, .int x2), (2, .int x3), (3, .int x4), (4, .int x5), (5, .int x6)]) hx hb dL_twins_120 hl (k := 6) rfl rfl (by decide) rfl (fun ls hl => ?_)
          refine lv_goto (tgt := 3) hx hb dL_twins_123 (by decide) ?_
          exact ihg9 _ _ _ _ hX hS (lv_sub hl [1, 2, 3, 4, 5, 6, 0] rfl) hf
  exact Lg9 FU _ _ _ _ hX hS (lv_sub hl [1, 2, 3, 4, 5, 6, 0] rfl) hf

theorem q_l_hinders : VWs yL_hinders cL_hinders 9 (some .boolean) 4 := ⟨a_607, a_15, a_606, by decide +kernel⟩
set_option maxRecDepth 100000 in
set_option maxHeartbeats 4000000 in
theorem c_l_hinders {l : Launch} {D : va_G} {cA : Nat → ClassId} {A : Nat → Prop} {ad : Nat → Nat} {K : List Nat} (hKK : ∀ c ∈ La, c ∈ K) {x3 : Int32} {x4 : Int32} {M : Lt} {r : Int32} {M' : Lt} (hf : l_hinders x3 x4 M = some (r, M')) : Ct l D cA A yL_hinders cL_hinders 9 (some .boolean) 3 0 0 [.ref (ad 1), .ref (ad 6), .int x3, .int x4] (LX D cA A K ad M) (some (.int r)) (LX D cA A K ad M') := by
  refine Ct_of (by decide +kernel) (Nat.le_of_ble_eq_true rfl) ?_
  intro p e s m args below meth c ls hC hr hlk hnm hX hKX hl
  have hx := hC.1
  have hb := hC.2.1
  have hS : va_S A s.heap s.heap [] := va_S.rf
  have hl : lv_has ls 9 [(0, .ref (ad 1)), (1, .ref (ad 6)), (2, .int x3), (3, .int x4)] := hl
  unfold l_hinders at hf
  refine lv_aload_n hx hb dL_hinders_0 rfl (lv_at hl 0 rfl) ?_
  refine lv_iload_n hx hb dL_hinders_1 rfl (lv_at hl 2 rfl) ?_
  obtain ⟨h7, j6, ej6, hf⟩ := rd_e hf
  refine lald hx hb hKX.1 hX (hKK 1 (by decide)) h7 ej6 dL_hinders_2 ?_
  refine lv_iconst (v := 3) hx hb dL_hinders_3 (by decide) ?_
  refine lv_iand hx hb dL_hinders_4 ?_
  refine lv_istore (lv' := [(4, .int ((M 1 j6) &&& 3)), (0, .ref (ad 1)), (1, .ref (ad 6)), (2, .int x3), (3, .int x4)]) hx hb dL_hinders_5 hl (by decide) rfl (fun ls hl => ?_)
  refine lv_aload_n hx hb dL_hinders_7 rfl (lv_at hl 2 rfl) ?_
  refine lv_iload_n hx hb dL_hinders_8 rfl (lv_at hl 3 rfl) ?_
  refine lv_iconst (v := 1) hx hb dL_hinders_9 (by decide) ?_
  refine lv_iload_n hx hb dL_hinders_10 rfl (lv_at hl 4 rfl) ?_
  refine lv_aload_n hx hb dL_hinders_11 rfl (lv_at hl 1 rfl) ?_
  refine lv_iload_n hx hb dL_hinders_12 rfl (lv_at hl 3 rfl) ?_
  obtain ⟨z8, hz8, hf⟩ := cb_e hf
  refine lSi (As := [.ref (ad 1), .int x3]) (rest := [.int x4, .int 1, .int x3, .ref (ad 6)]) hC (c_l_keyOf hKK hz8) q_l_keyOf a_608 (Nat.le_of_ble_eq_true rfl) hX hKX rfl hl.1 (Nat.le_of_ble_eq_true rfl) dL_hinders_13 ⟨Nat.le_of_ble_eq_true rfl, Nat.le_of_ble_eq_true rfl⟩ hS (fun H locs hX hS => ?_)
  refine lv_bipush (v := 7) hx hb dL_hinders_16 (by decide) ?_
  obtain ⟨z9, S10, hz9, hf⟩ := cb2_e hf
  refine lSi (As := [.ref (ad 6), .int x3, .int 1, .int x4, .int z8, .int 7]) (rest := []) hC (c_l_twins hKK hz9) q_l_twins a_611 (Nat.le_of_ble_eq_true rfl) hX hKX rfl hl.1 (Nat.le_of_ble_eq_true rfl) dL_hinders_18 ⟨Nat.le_of_ble_eq_true rfl, Nat.le_of_ble_eq_true rfl⟩ hS (fun H locs hX hS => ?_)
  refine lv_if_eq (tgt := 26) hx hb dL_hinders_21 (by decide) (fun c11 => ?_) (fun c11 => ?_)
  · have hf := it_t c11 hf
    refine lv_iload hx hb dL_hinders_26 (lv_at hl 0 rfl) ?_
    refine lv_iconst (v := 1) hx hb dL_hinders_28 (by decide) ?_
    refine lv_icmp_ne (tgt := 43) hx hb dL_hinders_29 (by decide) (fun c12 => ?_) (fun c12 => ?_)
    · have hf := it_f c12 hf
      refine lv_iconst (v := 0) hx hb dL_hinders_43 (by decide) ?_
      refine lv_istore (lv' := [(5, .int 0), (4, .int ((M 1 j6) &&& 3)), (0, .ref (ad 1)), (1, .ref (ad 6)), (2, .int x3), (3, .int x4)]) hx hb dL_hinders_44 hl (by decide) rfl (fun ls hl => ?_)
      refine lv_iconst (v := 0) hx hb dL_hinders_46 (by decide) ?_
      refine lv_istore (lv' := [(6, .int 0), (5, .int 0), (4, .int ((M 1 j6) &&& 3)), (0, .ref (ad 1)), (1, .ref (ad 6)), (2, .int x3), (3, .int x4)]) hx hb dL_hinders_47 hl (by decide) rfl (fun ls hl => ?_)
      obtain ⟨g14, g140, g14s, hf⟩ := lp1_e hf
      have Lg14 : ∀ (n : Nat) (x13 : Int32) (H : Heap) (locs : List Loc) (ls : Array Slot), LX D cA A K ad S10 H → va_S A s.heap H locs → lv_has ls 9 [(0, .ref (ad 1)), (1, .ref (ad 6)), (2, .int x3), (3, .int x4), (4, .int ((M 1 j6) &&& 3)), (5, .int 0), (6, .int x13)] → g14 n x13 = some (r, M') → W p l e (RM 3 0 0) s m args below meth c H locs 0 0 (MQ below (CtQ A (some (.int r)) (LX D cA A K ad M')) args s 0 0 A) (F0 m 49 ls []) := by
        intro n
        induction n with
        | zero => intro x13 H locs ls hX hS hl hf; rw [g140] at hf; cases hf
        | succ n ihg14 =>
          intro x13 H locs ls hX hS hl hf
          rw [g14s] at hf
          refine lv_iload hx hb dL_hinders_49 (lv_at hl 6 rfl) ?_
          refine lv_bipush (v := 27) hx hb dL_hinders_51 (by decide) ?_
          refine lv_icmp_ge (tgt := 96) hx hb dL_hinders_53 (by decide) (fun c15 => ?_) (fun c15 => ?_)
          · have hf := it_t c15 hf
            refine lv_aload_n hx hb dL_hinders_96 rfl (lv_at hl 0 rfl) ?_
            refine lv_iload_n hx hb dL_hinders_97 rfl (lv_at hl 2 rfl) ?_
            obtain ⟨h17, j16, ej16, hf⟩ := rd_e hf
            refine lald hx hb hKX.1 hX (hKK 1 (by decide)) h17 ej16 dL_hinders_98 ?_
            refine lv_bipush (v := 6) hx hb dL_hinders_99 (by decide) ?_
            refine lv_ishr hx hb dL_hinders_101 ?_
            refine lv_bipush (v := 15) hx hb dL_hinders_102 (by decide) ?_
            refine lv_iand hx hb dL_hinders_104 ?_
            refine lv_topi (fun x18 ex18 => ?_)
            have hf := lt_at ex18 hf
            refine lv_istore (lv' := [(6, .int x18), (0, .ref (ad 1)), (1, .ref (ad 6)), (2, .int x3), (3, .int x4), (4, .int ((M 1 j6) &&& 3)), (5, .int 0)]) hx hb dL_hinders_105 hl (by decide) rfl (fun ls hl => ?_)
            refine lv_iload hx hb dL_hinders_107 (lv_at hl 5 rfl) ?_
            refine lv_iconst (v := 3) hx hb dL_hinders_109 (by decide) ?_
            obtain ⟨k20, hk20, hf⟩ := jn1_e hf
            have Jk20 : ∀ (S19 : Lt) (H : Heap) (locs : List Loc) (ls : Array Slot), LX D cA A K ad S19 H → va_S A s.heap H locs → lv_has ls 9 [(1, .ref (ad 6)), (2, .int x3), (3, .int x4), (4, .int ((M 1 j6) &&& 3))] → k20 S19 = some (r, M') → W p l e (RM 3 0 0) s m args below meth c H locs 0 0 (MQ below (CtQ A (some (.int r)) (LX D cA A K ad M')) args s 0 0 A) (F0 m 137 ls []) := by
              intro S19 H locs ls hX hS hl hf
              rw [hk20] at hf
              refine lv_iconst (v := 0) hx hb dL_hinders_137 (by decide) ?_
              refine lv_istore (lv' := [(7, .int 0), (1, .ref (ad 6)), (2, .int x3), (3, .int x4), (4, .int ((M 1 j6) &&& 3))]) hx hb dL_hinders_138 hl (by decide) rfl (fun ls hl => ?_)
              refine lv_iconst (v := 0) hx hb dL_hinders_140 (by decide) ?_
              refine lv_istore (lv' := [(8, .int 0), (7, .int 0), (1, .ref (ad 6)), (2, .int x3), (3, .int x4), (4, .int ((M 1 j6) &&& 3))]) hx hb dL_hinders_141 hl (by decide) rfl (fun ls hl => ?_)
              obtain ⟨g23, g230, g23s, hf⟩ := lp2_e hf
              have Lg23 : ∀ (n : Nat) (x21 : Int32) (x22 : Int32) (H : Heap) (locs : List Loc) (ls : Array Slot), LX D cA A K ad S19 H → va_S A s.heap H locs → lv_has ls 9 [(1, .ref (ad 6)), (2, .int x3), (3, .int x4), (4, .int ((M 1 j6) &&& 3)), (7, .int x21), (8, .int x22)] → g23 n x21 x22 = some (r, M') → W p l e (RM 3 0 0) s m args below meth c H locs 0 0 (MQ below (CtQ A (some (.int r)) (LX D cA A K ad M')) args s 0 0 A) (F0 m 143 ls []) := by
                intro n
                induction n with
                | zero => intro x21 x22 H locs ls hX hS hl hf; rw [g230] at hf; cases hf
                | succ n ihg23 =>
                  intro x21 x22 H locs ls hX hS hl hf
                  rw [g23s] at hf
                  refine lv_iload hx hb dL_hinders_143 (lv_at hl 5 rfl) ?_
                  refine lv_bipush (v := 27) hx hb dL_hinders_145 (by decide) ?_
                  refine lv_icmp_ge (tgt := 167) hx hb dL_hinders_147 (by decide) (fun c24 => ?_) (fun c24 => ?_)
                  · have hf := it_t c24 hf
                    refine lv_iload hx hb dL_hinders_167 (lv_at hl 3 rfl) ?_
                    obtain ⟨k26, hk26, hf⟩ := jn1_e hf
                    have Jk26 : ∀ (S25 : Lt) (H : Heap) (locs : List Loc) (ls : Array Slot), LX D cA A K ad S25 H → va_S A s.heap H locs → lv_has ls 9 [(1, .ref (ad 6))] → k26 S25 = some (r, M') → W p l e (RM 3 0 0) s m args below meth c H locs 0 0 (MQ below (CtQ A (some (.int r)) (LX D cA A K ad M')) args s 0 0 A) (F0 m 188 ls []) := by
                      intro S25 H locs ls hX hS hl hf
                      rw [hk26] at hf
                      refine lv_aload_n hx hb dL_hinders_188 rfl (lv_at hl 0 rfl) ?_
                      refine lv_iconst (v := 4) hx hb dL_hinders_189 (by decide) ?_
                      obtain ⟨h28, j27, ej27, hf⟩ := rd_e hf
                      refine lald hx hb hKX.1 hX (hKK 6 (by decide)) h28 ej27 dL_hinders_190 ?_
                      refine lv_if_le (tgt := 198) hx hb dL_hinders_191 (by decide) (fun c29 => ?_) (fun c29 => ?_)
                      · have hf := it_t c29 hf
                        refine lv_iconst (v := 0) hx hb dL_hinders_198 (by decide) ?_
                        cases hf
                        exact Ct_rz hx hb hr hlk nz0 hX hS dL_hinders_199
                      · have hf := it_f c29 hf
                        refine lv_iconst (v := 1) hx hb dL_hinders_194 (by decide) ?_
                        refine lv_goto (tgt := 199) hx hb dL_hinders_195 (by decide) ?_
                        cases hf
                        exact Ct_rz hx hb hr hlk nz1 hX hS dL_hinders_199
                    refine lv_if_ne (tgt := 188) hx hb dL_hinders_169 (by decide) (fun c30 => ?_) (fun c30 => ?_)
                    · have hf := it_f c30 hf
                      exact Jk26 _ _ _ _ hX hS (lv_sub hl [0] rfl) hf
                    · have hf := it_t c30 hf
                      refine lv_iload hx hb dL_hinders_172 (lv_at hl 4 rfl) ?_
                      refine lv_bipush (v := 12) hx hb dL_hinders_174 (by decide) ?_
                      refine lv_icmp_le (tgt := 188) hx hb dL_hinders_176 (by decide) (fun c31 => ?_) (fun c31 => ?_)
                      · have hf := it_t c31 hf
                        exact Jk26 _ _ _ _ hX hS (lv_sub hl [0] rfl) hf
                      · have hf := it_f c31 hf
                        refine lv_aload_n hx hb dL_hinders_179 rfl (lv_at hl 0 rfl) ?_
                        refine lv_iconst (v := 4) hx hb dL_hinders_180 (by decide) ?_
                        refine lv_bipush (v := 10) hx hb dL_hinders_181 (by decide) ?_
                        refine lv_iload_n hx hb dL_hinders_183 rfl (lv_at hl 1 rfl) ?_
                        refine lv_imul hx hb dL_hinders_184 ?_
                        refine lv_iconst (v := 4) hx hb dL_hinders_185 (by decide) ?_
                        refine lv_iadd hx hb dL_hinders_186 ?_
                        obtain ⟨h33, j32, ej32, hf⟩ := rd_e hf
                        refine lasv hx hb hKX.1 hX hS (hKK 6 (by decide)) h33 ej32 dL_hinders_187 (fun H locs hX hS => ?_)
                        obtain ⟨S34, eS34, hf⟩ := lt_e hf
                        rw [← eS34] at hX
                        exact Jk26 _ _ _ _ hX hS (lv_sub hl [0] rfl) hf
                  · have hf := it_f c24 hf
                    refine lv_iload hx hb dL_hinders_150 (lv_at hl 4 rfl) ?_
                    refine lv_iload_n hx hb dL_hinders_152 rfl (lv_at hl 2 rfl) ?_
                    refine lv_iload hx hb dL_hinders_153 (lv_at hl 5 rfl) ?_
                    refine lv_ishr hx hb dL_hinders_155 ?_
                    refine lv_iconst (v := 1) hx hb dL_hinders_156 (by decide) ?_
                    refine lv_iand hx hb dL_hinders_157 ?_
                    refine lv_iadd hx hb dL_hinders_158 ?_
                    refine lv_istore (lv' := [(7, .int (x21 + ((x4 >>> (x22 &&& 31)) &&& 1))), (1, .ref (ad 6)), (2, .int x3), (3, .int x4), (4, .int ((M 1 j6) &&& 3)), (8, .int x22)]) hx hb dL_hinders_159 hl (by decide) rfl (fun ls hl => ?_)
                    refine lv_iinc (v := (x22 + 1)) (lv' := [(8, .int (x22 + 1)), (7, .int (x21 + ((x4 >>> (x22 &&& 31)) &&& 1))), (1, .ref (ad 6)), (2, .int x3), (3, .int x4), (4, .int ((M 1 j6) &&& 3))]) hx hb dL_hinders_161 hl (k := 5) rfl rfl (by decide) rfl (fun ls hl => ?_)
                    refine lv_goto (tgt := 143) hx hb dL_hinders_164 (by decide) ?_
                    exact ihg23 _ _ _ _ _ hX hS (lv_sub hl [2, 3, 4, 5, 1, 0] rfl) hf
              exact Lg23 FU _ _ _ _ _ hX hS (lv_sub hl [2, 3, 4, 5, 1, 0] rfl) hf
            refine lv_icmp_ne (tgt := 137) hx hb dL_hinders_110 (by decide) (fun c35 => ?_) (fun c35 => ?_)
            · have hf := it_f c35 hf
              exact Jk20 _ _ _ _ hX hS (lv_sub hl [2, 3, 4, 5] rfl) hf
            · have hf := it_t c35 hf
              refine lv_aload_n hx hb dL_hinders_113 rfl (lv_at hl 2 rfl) ?_
              refine lv_iload_n hx hb dL_hinders_114 rfl (lv_at hl 3 rfl) ?_
              refine lv_iconst (v := 3) hx hb dL_hinders_115 (by decide) ?_
              refine lv_iload_n hx hb dL_hinders_116 rfl (lv_at hl 4 rfl) ?_
              refine lv_aload_n hx hb dL_hinders_117 rfl (lv_at hl 1 rfl) ?_
              refine lv_iload hx hb dL_hinders_118 (lv_at hl 0 rfl) ?_
              obtain ⟨z36, hz36, hf⟩ := cb_e hf
              refine lSi (As := [.ref (ad 1), .int x18]) (rest := [.int x4, .int 3, .int x3, .ref (ad 6)]) hC (c_l_keyOf hKK hz36) q_l_keyOf a_608 (Nat.le_of_ble_eq_true rfl) hX hKX rfl hl.1 (Nat.le_of_ble_eq_true rfl) dL_hinders_120 ⟨Nat.le_of_ble_eq_true rfl, Nat.le_of_ble_eq_true rfl⟩ hS (fun H locs hX hS => ?_)
              refine lv_aload_n hx hb dL_hinders_123 rfl (lv_at hl 1 rfl) ?_
              refine lv_iload hx hb dL_hinders_124 (lv_at hl 0 rfl) ?_
              obtain ⟨z37, hz37, hf⟩ := cb_e hf
              refine lSi (As := [.ref (ad 1), .int x18]) (rest := [.int z36, .int x4, .int 3, .int x3, .ref (ad 6)]) hC (c_l_columnsOf hKK hz37) q_l_columnsOf a_593 (Nat.le_of_ble_eq_true rfl) hX hKX rfl hl.1 (Nat.le_of_ble_eq_true rfl) dL_hinders_126 ⟨Nat.le_of_ble_eq_true rfl, Nat.le_of_ble_eq_true rfl⟩ hS (fun H locs hX hS => ?_)
              obtain ⟨z38, S39, hz38, hf⟩ := cb2_e hf
              refine lSi (As := [.ref (ad 6), .int x3, .int 3, .int x4, .int z36, .int z37]) (rest := []) hC (c_l_twins hKK hz38) q_l_twins a_611 (Nat.le_of_ble_eq_true rfl) hX hKX rfl hl.1 (Nat.le_of_ble_eq_true rfl) dL_hinders_129 ⟨Nat.le_of_ble_eq_true rfl, Nat.le_of_ble_eq_true rfl⟩ hS (fun H locs hX hS => ?_)
              refine lv_if_eq (tgt := 137) hx hb dL_hinders_132 (by decide) (fun c40 => ?_) (fun c40 => ?_)
              · have hf := it_t c40 hf
                exact Jk20 _ _ _ _ hX hS (lv_sub hl [2, 3, 4, 5] rfl) hf
              · have hf := it_f c40 hf
                refine lv_iconst (v := 1) hx hb dL_hinders_135 (by decide) ?_
                cases hf
                exact Ct_rz hx hb hr hlk nz1 hX hS dL_hinders_136
          · have hf := it_f c15 hf
            refine lv_iload hx hb dL_hinders_56 (lv_at hl 5 rfl) ?_
            refine lv_iload hx hb dL_hinders_58 (lv_at hl 6 rfl) ?_
            refine lv_ishr hx hb dL_hinders_60 ?_
            refine lv_iconst (v := 1) hx hb dL_hinders_61 (by decide) ?_
            refine lv_iand hx hb dL_hinders_62 ?_
            refine lv_if_ne (tgt := 69) hx hb dL_hinders_63 (by decide) (fun c41 => ?_) (fun c41 => ?_)
            · have hf := it_f c41 hf
              refine lv_aload_n hx hb dL_hinders_69 rfl (lv_at hl 1 rfl) ?_
              refine lv_iconst (v := 4) hx hb dL_hinders_70 (by decide) ?_
              refine lv_bipush (v := 10) hx hb dL_hinders_71 (by decide) ?_
              refine lv_iload_n hx hb dL_hinders_73 rfl (lv_at hl 2 rfl) ?_
              refine lv_imul hx hb dL_hinders_74 ?_
              refine lv_iconst (v := 2) hx hb dL_hinders_75 (by decide) ?_
              refine lv_iadd hx hb dL_hinders_76 ?_
              obtain ⟨h43, j42, ej42, hf⟩ := rd_e hf
              refine lasv hx hb hKX.1 hX hS (hKK 6 (by decide)) h43 ej42 dL_hinders_77 (fun H locs hX hS => ?_)
              obtain ⟨S44, eS44, hf⟩ := lt_e hf
              rw [← eS44] at hX
              refine lv_aload_n hx hb dL_hinders_78 rfl (lv_at hl 1 rfl) ?_
              refine lv_iconst (v := 5) hx hb dL_hinders_79 (by decide) ?_
              refine lv_iload hx hb dL_hinders_80 (lv_at hl 6 rfl) ?_
              obtain ⟨z45, hz45, hf⟩ := cb_e hf
              refine lSi (As := [.int x13]) (rest := [.int 5, .ref (ad 6)]) hC (c_l_number hKK hz45) q_l_number a_578 (Nat.le_of_ble_eq_true rfl) hX hKX rfl hl.1 (Nat.le_of_ble_eq_true rfl) dL_hinders_82 ⟨Nat.le_of_ble_eq_true rfl, Nat.le_of_ble_eq_true rfl⟩ hS (fun H locs hX hS => ?_)
              refine lv_iconst (v := 1) hx hb dL_hinders_85 (by decide) ?_
              refine lv_iadd hx hb dL_hinders_86 ?_
              obtain ⟨h47, j46, ej46, hf⟩ := rd_e hf
              refine lasv hx hb hKX.1 hX hS (hKK 6 (by decide)) h47 ej46 dL_hinders_87 (fun H locs hX hS => ?_)
              obtain ⟨S48, eS48, hf⟩ := lt_e hf
              rw [← eS48] at hX
              refine lv_iconst (v := 1) hx hb dL_hinders_88 (by decide) ?_
              cases hf
              exact Ct_rz hx hb hr hlk nz1 hX hS dL_hinders_89
            · have hf := it_t c41 hf
              refine lv_goto (tgt := 90) hx hb dL_hinders_66 (by decide) ?_
              refine lv_iinc (v := (x13 + 1)) (lv' := [(6, .int (x13 + 1)), (0, .ref (ad 1)), (1, .ref (ad 6)), (2, .int x3), (3, .int x4), (4, .int ((M 1 j6) &&& 3)), (5, .int 0)]) hx hb dL_hinders_90 hl (k := 6) rfl rfl (by decide) rfl (fun ls hl => ?_)
              refine lv_goto (tgt := 49) hx hb dL_hinders_93 (by decide) ?_
              exact ihg14 _ _ _ _ hX hS (lv_sub hl [1, 2, 3, 4, 5, 6, 0] rfl) hf
      exact Lg14 FU _ _ _ _ hX hS (lv_sub hl [3, 4, 5, 6, 2, 1, 0] rfl) hf
    · have hf := it_t c12 hf
      refine lv_aload_n hx hb dL_hinders_32 rfl (lv_at hl 1 rfl) ?_
      refine lv_iload_n hx hb dL_hinders_33 rfl (lv_at hl 3 rfl) ?_
      obtain ⟨h50, j49, ej49, hf⟩ := rd_e hf
      refine lald hx hb hKX.1 hX (hKK 1 (by decide)) h50 ej49 dL_hinders_34 ?_
      refine lv_iload_n hx hb dL_hinders_35 rfl (lv_at hl 4 rfl) ?_
      refine lv_iconst (v := 0) hx hb dL_hinders_36 (by decide) ?_
      obtain ⟨z51, hz51, hf⟩ := cb_e hf
      refine lSi (As := [.int (S10 1 j49), .int x4, .int 0]) (rest := []) hC (c_l_selected hKK hz51) q_l_selected a_587 (Nat.le_of_ble_eq_true rfl) hX hKX rfl hl.1 (Nat.le_of_ble_eq_true rfl) dL_hinders_37 ⟨Nat.le_of_ble_eq_true rfl, Nat.le_of_ble_eq_true rfl⟩ hS (fun H locs hX hS => ?_)
      refine lv_goto (tgt := 44) hx hb dL_hinders_40 (by decide) ?_
      refine lv_istore (lv' := [(5, .int z51), (4, .int ((M 1 j6) &&& 3)), (0, .ref (ad 1)), (1, .ref (ad 6)), (2, .int x3), (3, .int x4)]) hx hb dL_hinders_44 hl (by decide) rfl (fun ls hl => ?_)
      refine lv_iconst (v := 0) hx hb dL_hinders_46 (by decide) ?_
      refine lv_istore (lv' := [(6, .int 0), (5, .int z51), (4, .int ((M 1 j6) &&& 3)), (0, .ref (ad 1)), (1, .ref (ad 6)), (2, .int x3), (3, .int x4)]) hx hb dL_hinders_47 hl (by decide) rfl (fun ls hl => ?_)
      obtain ⟨g53, g530, g53s, hf⟩ := lp1_e hf
      have Lg53 : ∀ (n : Nat) (x52 : Int32) (H : Heap) (locs : List Loc) (ls : Array Slot), LX D cA A K ad S10 H → va_S A s.heap H locs → lv_has ls 9 [(0, .ref (ad 1)), (1, .ref (ad 6)), (2, .int x3), (3, .int x4), (4, .int ((M 1 j6) &&& 3)), (5, .int z51), (6, .int x52)] → g53 n x52 = some (r, M') → W p l e (RM 3 0 0) s m args below meth c H locs 0 0 (MQ below (CtQ A (some (.int r)) (LX D cA A K ad M')) args s 0 0 A) (F0 m 49 ls []) := by
        intro n
        induction n with
        | zero => intro x52 H locs ls hX hS hl hf; rw [g530] at hf; cases hf
        | succ n ihg53 =>
          intro x52 H locs ls hX hS hl hf
          rw [g53s] at hf
          refine lv_iload hx hb dL_hinders_49 (lv_at hl 6 rfl) ?_
          refine lv_bipush (v := 27) hx hb dL_hinders_51 (by decide) ?_
          refine lv_icmp_ge (tgt := 96) hx hb dL_hinders_53 (by decide) (fun c54 => ?_) (fun c54 => ?_)
          · have hf := it_t c54 hf
            refine lv_aload_n hx hb dL_hinders_96 rfl (lv_at hl 0 rfl) ?_
            refine lv_iload_n hx hb dL_hinders_97 rfl (lv_at hl 2 rfl) ?_
            obtain ⟨h56, j55, ej55, hf⟩ := rd_e hf
            refine lald hx hb hKX.1 hX (hKK 1 (by decide)) h56 ej55 dL_hinders_98 ?_
            refine lv_bipush (v := 6) hx hb dL_hinders_99 (by decide) ?_
            refine lv_ishr hx hb dL_hinders_101 ?_
            refine lv_bipush (v := 15) hx hb dL_hinders_102 (by decide) ?_
            refine lv_iand hx hb dL_hinders_104 ?_
            refine lv_topi (fun x57 ex57 => ?_)
            have hf := lt_at ex57 hf
            refine lv_istore (lv' := [(6, .int x57), (0, .ref (ad 1)), (1, .ref (ad 6)), (2, .int x3), (3, .int x4), (4, .int ((M 1 j6) &&& 3)), (5, .int z51)]) hx hb dL_hinders_105 hl (by decide) rfl (fun ls hl => ?_)
            refine lv_iload hx hb dL_hinders_107 (lv_at hl 5 rfl) ?_
            refine lv_iconst (v := 3) hx hb dL_hinders_109 (by decide) ?_
            obtain ⟨k59, hk59, hf⟩ := jn1_e hf
            have Jk59 : ∀ (S58 : Lt) (H : Heap) (locs : List Loc) (ls : Array Slot), LX D cA A K ad S58 H → va_S A s.heap H locs → lv_has ls 9 [(1, .ref (ad 6)), (2, .int x3), (3, .int x4), (4, .int ((M 1 j6) &&& 3))] → k59 S58 = some (r, M') → W p l e (RM 3 0 0) s m args below meth c H locs 0 0 (MQ below (CtQ A (some (.int r)) (LX D cA A K ad M')) args s 0 0 A) (F0 m 137 ls []) := by
              intro S58 H locs ls hX hS hl hf
              rw [hk59] at hf
              refine lv_iconst (v := 0) hx hb dL_hinders_137 (by decide) ?_
              refine lv_istore (lv' := [(7, .int 0), (1, .ref (ad 6)), (2, .int x3), (3, .int x4), (4, .int ((M 1 j6) &&& 3))]) hx hb dL_hinders_138 hl (by decide) rfl (fun ls hl => ?_)
              refine lv_iconst (v := 0) hx hb dL_hinders_140 (by decide) ?_
              refine lv_istore (lv' := [(8, .int 0), (7, .int 0), (1, .ref (ad 6)), (2, .int x3), (3, .int x4), (4, .int ((M 1 j6) &&& 3))]) hx hb dL_hinders_141 hl (by decide) rfl (fun ls hl => ?_)
              obtain ⟨g62, g620, g62s, hf⟩ := lp2_e hf
              have Lg62 : ∀ (n : Nat) (x60 : Int32) (x61 : Int32) (H : Heap) (locs : List Loc) (ls : Array Slot), LX D cA A K ad S58 H → va_S A s.heap H locs → lv_has ls 9 [(1, .ref (ad 6)), (2, .int x3), (3, .int x4), (4, .int ((M 1 j6) &&& 3)), (7, .int x60), (8, .int x61)] → g62 n x60 x61 = some (r, M') → W p l e (RM 3 0 0) s m args below meth c H locs 0 0 (MQ below (CtQ A (some (.int r)) (LX D cA A K ad M')) args s 0 0 A) (F0 m 143 ls []) := by
                intro n
                induction n with
                | zero => intro x60 x61 H locs ls hX hS hl hf; rw [g620] at hf; cases hf
                | succ n ihg62 =>
                  intro x60 x61 H locs ls hX hS hl hf
                  rw [g62s] at hf
                  refine lv_iload hx hb dL_hinders_143 (lv_at hl 5 rfl) ?_
                  refine lv_bipush (v := 27) hx hb dL_hinders_145 (by decide) ?_
                  refine lv_icmp_ge (tgt := 167) hx hb dL_hinders_147 (by decide) (fun c63 => ?_) (fun c63 => ?_)
                  · have hf := it_t c63 hf
                    refine lv_iload hx hb dL_hinders_167 (lv_at hl 3 rfl) ?_
                    obtain ⟨k65, hk65, hf⟩ := jn1_e hf
                    have Jk65 : ∀ (S64 : Lt) (H : Heap) (locs : List Loc) (ls : Array Slot), LX D cA A K ad S64 H → va_S A s.heap H locs → lv_has ls 9 [(1, .ref (ad 6))] → k65 S64 = some (r, M') → W p l e (RM 3 0 0) s m args below meth c H locs 0 0 (MQ below (CtQ A (some (.int r)) (LX D cA A K ad M')) args s 0 0 A) (F0 m 188 ls []) := by
                      intro S64 H locs ls hX hS hl hf
                      rw [hk65] at hf
                      refine lv_aload_n hx hb dL_hinders_188 rfl (lv_at hl 0 rfl) ?_
                      refine lv_iconst (v := 4) hx hb dL_hinders_189 (by decide) ?_
                      obtain ⟨h67, j66, ej66, hf⟩ := rd_e hf
                      refine lald hx hb hKX.1 hX (hKK 6 (by decide)) h67 ej66 dL_hinders_190 ?_
                      refine lv_if_le (tgt := 198) hx hb dL_hinders_191 (by decide) (fun c68 => ?_) (fun c68 => ?_)
                      · have hf := it_t c68 hf
                        refine lv_iconst (v := 0) hx hb dL_hinders_198 (by decide) ?_
                        cases hf
                        exact Ct_rz hx hb hr hlk nz0 hX hS dL_hinders_199
                      · have hf := it_f c68 hf
                        refine lv_iconst (v := 1) hx hb dL_hinders_194 (by decide) ?_
                        refine lv_goto (tgt := 199) hx hb dL_hinders_195 (by decide) ?_
                        cases hf
                        exact Ct_rz hx hb hr hlk nz1 hX hS dL_hinders_199
                    refine lv_if_ne (tgt := 188) hx hb dL_hinders_169 (by decide) (fun c69 => ?_) (fun c69 => ?_)
                    · have hf := it_f c69 hf
                      exact Jk65 _ _ _ _ hX hS (lv_sub hl [0] rfl) hf
                    · have hf := it_t c69 hf
                      refine lv_iload hx hb dL_hinders_172 (lv_at hl 4 rfl) ?_
                      refine lv_bipush (v := 12) hx hb dL_hinders_174 (by decide) ?_
                      refine lv_icmp_le (tgt := 188) hx hb dL_hinders_176 (by decide) (fun c70 => ?_) (fun c70 => ?_)
                      · have hf := it_t c70 hf
                        exact Jk65 _ _ _ _ hX hS (lv_sub hl [0] rfl) hf
                      · have hf := it_f c70 hf
                        refine lv_aload_n hx hb dL_hinders_179 rfl (lv_at hl 0 rfl) ?_
                        refine lv_iconst (v := 4) hx hb dL_hinders_180 (by decide) ?_
                        refine lv_bipush (v := 10) hx hb dL_hinders_181 (by decide) ?_
                        refine lv_iload_n hx hb dL_hinders_183 rfl (lv_at hl 1 rfl) ?_
                        refine lv_imul hx hb dL_hinders_184 ?_
                        refine lv_iconst (v := 4) hx hb dL_hinders_185 (by decide) ?_
                        refine lv_iadd hx hb dL_hinders_186 ?_
                        obtain ⟨h72, j71, ej71, hf⟩ := rd_e hf
                        refine lasv hx hb hKX.1 hX hS (hKK 6 (by decide)) h72 ej71 dL_hinders_187 (fun H locs hX hS => ?_)
                        obtain ⟨S73, eS73, hf⟩ := lt_e hf
                        rw [← eS73] at hX
                        exact Jk65 _ _ _ _ hX hS (lv_sub hl [0] rfl) hf
                  · have hf := it_f c63 hf
                    refine lv_iload hx hb dL_hinders_150 (lv_at hl 4 rfl) ?_
                    refine lv_iload_n hx hb dL_hinders_152 rfl (lv_at hl 2 rfl) ?_
                    refine lv_iload hx hb dL_hinders_153 (lv_at hl 5 rfl) ?_
                    refine lv_ishr hx hb dL_hinders_155 ?_
                    refine lv_iconst (v := 1) hx hb dL_hinders_156 (by decide) ?_
                    refine lv_iand hx hb dL_hinders_157 ?_
                    refine lv_iadd hx hb dL_hinders_158 ?_
                    refine lv_istore (lv' := [(7, .int (x60 + ((x4 >>> (x61 &&& 31)) &&& 1))), (1, .ref (ad 6)), (2, .int x3), (3, .int x4), (4, .int ((M 1 j6) &&& 3)), (8, .int x61)]) hx hb dL_hinders_159 hl (by decide) rfl (fun ls hl => ?_)
                    refine lv_iinc (v := (x61 + 1)) (lv' := [(8, .int (x61 + 1)), (7, .int (x60 + ((x4 >>> (x61 &&& 31)) &&& 1))), (1, .ref (ad 6)), (2, .int x3), (3, .int x4), (4, .int ((M 1 j6) &&& 3))]) hx hb dL_hinders_161 hl (k := 5) rfl rfl (by decide) rfl (fun ls hl => ?_)
                    refine lv_goto (tgt := 143) hx hb dL_hinders_164 (by decide) ?_
                    exact ihg62 _ _ _ _ _ hX hS (lv_sub hl [2, 3, 4, 5, 1, 0] rfl) hf
              exact Lg62 FU _ _ _ _ _ hX hS (lv_sub hl [2, 3, 4, 5, 1, 0] rfl) hf
            refine lv_icmp_ne (tgt := 137) hx hb dL_hinders_110 (by decide) (fun c74 => ?_) (fun c74 => ?_)
            · have hf := it_f c74 hf
              exact Jk59 _ _ _ _ hX hS (lv_sub hl [2, 3, 4, 5] rfl) hf
            · have hf := it_t c74 hf
              refine lv_aload_n hx hb dL_hinders_113 rfl (lv_at hl 2 rfl) ?_
              refine lv_iload_n hx hb dL_hinders_114 rfl (lv_at hl 3 rfl) ?_
              refine lv_iconst (v := 3) hx hb dL_hinders_115 (by decide) ?_
              refine lv_iload_n hx hb dL_hinders_116 rfl (lv_at hl 4 rfl) ?_
              refine lv_aload_n hx hb dL_hinders_117 rfl (lv_at hl 1 rfl) ?_
              refine lv_iload hx hb dL_hinders_118 (lv_at hl 0 rfl) ?_
              obtain ⟨z75, hz75, hf⟩ := cb_e hf
              refine lSi (As := [.ref (ad 1), .int x57]) (rest := [.int x4, .int 3, .int x3, .ref (ad 6)]) hC (c_l_keyOf hKK hz75) q_l_keyOf a_608 (Nat.le_of_ble_eq_true rfl) hX hKX rfl hl.1 (Nat.le_of_ble_eq_true rfl) dL_hinders_120 ⟨Nat.le_of_ble_eq_true rfl, Nat.le_of_ble_eq_true rfl⟩ hS (fun H locs hX hS => ?_)
              refine lv_aload_n hx hb dL_hinders_123 rfl (lv_at hl 1 rfl) ?_
              refine lv_iload hx hb dL_hinders_124 (lv_at hl 0 rfl) ?_
              obtain ⟨z76, hz76, hf⟩ := cb_e hf
              refine lSi (As := [.ref (ad 1), .int x57]) (rest := [.int z75, .int x4, .int 3, .int x3, .ref (ad 6)]) hC (c_l_columnsOf hKK hz76) q_l_columnsOf a_593 (Nat.le_of_ble_eq_true rfl) hX hKX rfl hl.1 (Nat.le_of_ble_eq_true rfl) dL_hinders_126 ⟨Nat.le_of_ble_eq_true rfl, Nat.le_of_ble_eq_true rfl⟩ hS (fun H locs hX hS => ?_)
              obtain ⟨z77, S78, hz77, hf⟩ := cb2_e hf
              refine lSi (As := [.ref (ad 6), .int x3, .int 3, .int x4, .int z75, .int z76]) (rest := []) hC (c_l_twins hKK hz77) q_l_twins a_611 (Nat.le_of_ble_eq_true rfl) hX hKX rfl hl.1 (Nat.le_of_ble_eq_true rfl) dL_hinders_129 ⟨Nat.le_of_ble_eq_true rfl, Nat.le_of_ble_eq_true rfl⟩ hS (fun H locs hX hS => ?_)
              refine lv_if_eq (tgt := 137) hx hb dL_hinders_132 (by decide) (fun c79 => ?_) (fun c79 => ?_)
              · have hf := it_t c79 hf
                exact Jk59 _ _ _ _ hX hS (lv_sub hl [2, 3, 4, 5] rfl) hf
              · have hf := it_f c79 hf
                refine lv_iconst (v := 1) hx hb dL_hinders_135 (by decide) ?_
                cases hf
                exact Ct_rz hx hb hr hlk nz1 hX hS dL_hinders_136
          · have hf := it_f c54 hf
            refine lv_iload hx hb dL_hinders_56 (lv_at hl 5 rfl) ?_
            refine lv_iload hx hb dL_hinders_58 (lv_at hl 6 rfl) ?_
            refine lv_ishr hx hb dL_hinders_60 ?_
            refine lv_iconst (v := 1) hx hb dL_hinders_61 (by decide) ?_
            refine lv_iand hx hb dL_hinders_62 ?_
            refine lv_if_ne (tgt := 69) hx hb dL_hinders_63 (by decide) (fun c80 => ?_) (fun c80 => ?_)
            · have hf := it_f c80 hf
              refine lv_aload_n hx hb dL_hinders_69 rfl (lv_at hl 1 rfl) ?_
              refine lv_iconst (v := 4) hx hb dL_hinders_70 (by decide) ?_
              refine lv_bipush (v := 10) hx hb dL_hinders_71 (by decide) ?_
              refine lv_iload_n hx hb dL_hinders_73 rfl (lv_at hl 2 rfl) ?_
              refine lv_imul hx hb dL_hinders_74 ?_
              refine lv_iconst (v := 2) hx hb dL_hinders_75 (by decide) ?_
              refine lv_iadd hx hb dL_hinders_76 ?_
              obtain ⟨h82, j81, ej81, hf⟩ := rd_e hf
              refine lasv hx hb hKX.1 hX hS (hKK 6 (by decide)) h82 ej81 dL_hinders_77 (fun H locs hX hS => ?_)
              obtain ⟨S83, eS83, hf⟩ := lt_e hf
              rw [← eS83] at hX
              refine lv_aload_n hx hb dL_hinders_78 rfl (lv_at hl 1 rfl) ?_
              refine lv_iconst (v := 5) hx hb dL_hinders_79 (by decide) ?_
              refine lv_iload hx hb dL_hinders_80 (lv_at hl 6 rfl) ?_
              obtain ⟨z84, hz84, hf⟩ := cb_e hf
              refine lSi (As := [.int x52]) (rest := [.int 5, .ref (ad 6)]) hC (c_l_number hKK hz84) q_l_number a_578 (Nat.le_of_ble_eq_true rfl) hX hKX rfl hl.1 (Nat.le_of_ble_eq_true rfl) dL_hinders_82 ⟨Nat.le_of_ble_eq_true rfl, Nat.le_of_ble_eq_true rfl⟩ hS (fun H locs hX hS => ?_)
              refine lv_iconst (v := 1) hx hb dL_hinders_85 (by decide) ?_
              refine lv_iadd hx hb dL_hinders_86 ?_
              obtain ⟨h86, j85, ej85, hf⟩ := rd_e hf
              refine lasv hx hb hKX.1 hX hS (hKK 6 (by decide)) h86 ej85 dL_hinders_87 (fun H locs hX hS => ?_)
              obtain ⟨S87, eS87, hf⟩ := lt_e hf
              rw [← eS87] at hX
              refine lv_iconst (v := 1) hx hb dL_hinders_88 (by decide) ?_
              cases hf
              exact Ct_rz hx hb hr hlk nz1 hX hS dL_hinders_89
            · have hf := it_t c80 hf
              refine lv_goto (tgt := 90) hx hb dL_hinders_66 (by decide) ?_
              refine lv_iinc (v := (x52 + 1)) (lv' := [(6, .int (x52 + 1)), (0, .ref (ad 1)), (1, .ref (ad 6)), (2, .int x3), (3, .int x4), (4, .int ((M 1 j6) &&& 3)), (5, .int z51)]) hx hb dL_hinders_90 hl (k := 6) rfl rfl (by decide) rfl (fun ls hl => ?_)
              refine lv_goto (tgt := 49) hx hb dL_hinders_93 (by decide) ?_
              exact ihg53 _ _ _ _ hX hS (lv_sub hl [1, 2, 3, 4, 5, 6, 0] rfl) hf
      exact Lg53 FU _ _ _ _ hX hS (lv_sub hl [3, 4, 5, 6, 2, 1, 0] rfl) hf
  · have hf := it_f c11 hf
    refine lv_iconst (v := 1) hx hb dL_hinders_24 (by decide) ?_
    cases hf
    exact Ct_rz hx hb hr hlk nz1 hX hS dL_hinders_25

theorem q_l_put : VWs yL_put cL_put 16 none 6 := ⟨a_583, a_15, a_582, by decide +kernel⟩
set_option maxRecDepth 100000 in
set_option maxHeartbeats 4000000 in
theorem c_l_put {l : Launch} {D : va_G} {cA : Nat → ClassId} {A : Nat → Prop} {ad0 : Nat → Nat} (_ : ∀ c ∈ La, c ∈ La)  {M : Lt} {M' : Lt} (hf : l_put M = some M') : Ct l D cA A yL_put cL_put 16 none 4 1 20 [.ref (ad0 0), .ref (ad0 1), .ref (ad0 2), .ref (ad0 3), .ref (ad0 4), .ref (ad0 6)] (fun H => LX D cA A La ad0 M H ∧ ∀ q : Nat, H.size ≤ q → A q) none (LX D cA A La ad0 M') := by
  refine Ct_of (by decide +kernel) (Nat.le_of_ble_eq_true rfl) ?_
  intro p e s m args below meth c ls hC hr hlk hnm hX hKX hl
  have hx := hC.1
  have hb := hC.2.1
  have hS : va_S A s.heap s.heap [] := va_S.rf
  obtain ⟨hX, hAs⟩ := hX
  have hl : lv_has ls 16 [(0, .ref (ad0 0)), (1, .ref (ad0 1)), (2, .ref (ad0 2)), (3, .ref (ad0 3)), (4, .ref (ad0 4)), (5, .ref (ad0 6))] := hl
  unfold l_put at hf
  refine lv_aload_n hx hb dL_put_0 rfl (lv_at hl 0 rfl) ?_
  refine lv_aload_n hx hb dL_put_1 rfl (lv_at hl 1 rfl) ?_
  refine lv_aload_n hx hb dL_put_2 rfl (lv_at hl 2 rfl) ?_
  refine lv_aload hx hb dL_put_3 (lv_at hl 5 rfl) ?_
  obtain ⟨S9, hz8, hf⟩ := cb_e hf
  refine lSv (As := [.ref (ad0 0), .ref (ad0 1), .ref (ad0 2), .ref (ad0 6)]) (rest := []) hC (c_l_lay La_a hz8) q_l_lay a_584 (Nat.le_of_ble_eq_true rfl) hX hKX rfl hl.1 (Nat.le_of_ble_eq_true rfl) dL_put_5 ⟨Nat.le_of_ble_eq_true rfl, Nat.le_of_ble_eq_true rfl⟩ hS (fun H locs hX hS => ?_)
  refine lv_aload hx hb dL_put_8 (lv_at hl 5 rfl) ?_
  refine lv_iconst (v := 4) hx hb dL_put_10 (by decide) ?_
  refine lv_iconst (v := 0) hx hb dL_put_11 (by decide) ?_
  obtain ⟨h11, j10, ej10, hf⟩ := rd_e hf
  refine lasv hx hb hKX.1 hX hS (La_a 6 (by decide)) h11 ej10 dL_put_12 (fun H locs hX hS => ?_)
  obtain ⟨S12, eS12, hf⟩ := lt_e hf
  rw [← eS12] at hX
  refine lv_aload hx hb dL_put_13 (lv_at hl 5 rfl) ?_
  refine lv_iconst (v := 5) hx hb dL_put_15 (by decide) ?_
  refine lv_iconst (v := 0) hx hb dL_put_16 (by decide) ?_
  obtain ⟨h14, j13, ej13, hf⟩ := rd_e hf
  refine lasv hx hb hKX.1 hX hS (La_a 6 (by decide)) h14 ej13 dL_put_17 (fun H locs hX hS => ?_)
  obtain ⟨S15, eS15, hf⟩ := lt_e hf
  rw [← eS15] at hX
  refine lv_iconst (v := 0) hx hb dL_put_18 (by decide) ?_
  refine lv_istore (lv' := [(6, .int 0), (0, .ref (ad0 0)), (1, .ref (ad0 1)), (2, .ref (ad0 2)), (3, .ref (ad0 3)), (4, .ref (ad0 4)), (5, .ref (ad0 6))]) hx hb dL_put_19 hl (by decide) rfl (fun ls hl => ?_)
  obtain ⟨g18, g180, g18s, hf⟩ := lp2_e hf
  have Lg18 : ∀ (n : Nat) (x16 : Int32) (S17 : Lt) (H : Heap) (locs : List Loc) (ls : Array Slot), LX D cA A La ad0 S17 H → va_S A s.heap H locs → lv_has ls 16 [(0, .ref (ad0 0)), (1, .ref (ad0 1)), (2, .ref (ad0 2)), (3, .ref (ad0 3)), (4, .ref (ad0 4)), (5, .ref (ad0 6)), (6, .int x16)] → g18 n x16 S17 = some M' → W p l e (RM 4 1 20) s m args below meth c H locs 0 0 (MQ below (CtQ A none (LX D cA A La ad0 M')) args s 1 20 A) (F0 m 21 ls []) := by
    intro n
    induction n with
    | zero => intro x16 S17 H locs ls hX hS hl hf; rw [g180] at hf; cases hf
    | succ n ihg18 =>
      intro x16 S17 H locs ls hX hS hl hf
      rw [g18s] at hf
      refine lv_iload hx hb dL_put_21 (lv_at hl 6 rfl) ?_
      refine lv_iconst (v := 3) hx hb dL_put_23 (by decide) ?_
      refine lv_icmp_ge (tgt := 44) hx hb dL_put_24 (by decide) (fun c19 => ?_) (fun c19 => ?_)
      · have hf := it_t c19 hf
        refine lv_bipush (v := 12) hx hb dL_put_44 (by decide) ?_
        have KT : ∀ (ad : Nat → Nat) (M : Lt) (H : Heap) (locs : List Loc) (ls : Array Slot), (∀ c ∈ La, ad c = ad0 c) → LX D cA A Lb ad M H → va_S A s.heap H locs → lv_has ls 16 [(1, .ref (ad 1)), (2, .ref (ad 2)), (3, .ref (ad 3)), (4, .ref (ad 4)), (5, .ref (ad 6))] → l_putT M = some M' → W p l e (RM 4 1 20) s m args below meth c H locs 1 20 (MQ below (CtQ A none (LX D cA A La ad0 M')) args s 1 20 A) (F0 m 48 ls [.ref (ad 7)]) := by
          intro ad M H locs ls hag hX hS hl hf
          unfold l_putT at hf
          refine lv_astore (lv' := [(6, .ref (ad 7)), (1, .ref (ad 1)), (2, .ref (ad 2)), (3, .ref (ad 3)), (4, .ref (ad 4)), (5, .ref (ad 6))]) hx hb dL_put_48 hl (by decide) rfl (fun ls hl => ?_)
          refine lv_iconst (v := 1) hx hb dL_put_50 (by decide) ?_
          refine lv_istore (lv' := [(7, .int 1), (6, .ref (ad 7)), (1, .ref (ad 1)), (2, .ref (ad 2)), (3, .ref (ad 3)), (4, .ref (ad 4)), (5, .ref (ad 6))]) hx hb dL_put_51 hl (by decide) rfl (fun ls hl => ?_)
          refine lv_aload hx hb dL_put_53 (lv_at hl 1 rfl) ?_
          refine lv_iconst (v := 0) hx hb dL_put_55 (by decide) ?_
          refine lv_aload hx hb dL_put_56 (lv_at hl 6 rfl) ?_
          refine lv_iconst (v := 2) hx hb dL_put_58 (by decide) ?_
          obtain ⟨h21, j20, ej20, hf⟩ := rd_e hf
          refine lald hx hb hKX.1 hX (La_b 6 (by decide)) h21 ej20 dL_put_59 ?_
          refine lv_iconst (v := 1) hx hb dL_put_60 (by decide) ?_
          refine lv_isub hx hb dL_put_61 ?_
          obtain ⟨h23, j22, ej22, hf⟩ := rd_e hf
          refine lasv hx hb hKX.1 hX hS (by decide) h23 ej22 dL_put_62 (fun H locs hX hS => ?_)
          obtain ⟨S24, eS24, hf⟩ := lt_e hf
          rw [← eS24] at hX
          refine lv_aload_n hx hb dL_put_63 rfl (lv_at hl 4 rfl) ?_
          refine lv_aload hx hb dL_put_64 (lv_at hl 6 rfl) ?_
          refine lv_iconst (v := 2) hx hb dL_put_66 (by decide) ?_
          obtain ⟨h26, j25, ej25, hf⟩ := rd_e hf
          refine lald hx hb hKX.1 hX (La_b 6 (by decide)) h26 ej25 dL_put_67 ?_
          refine lv_iconst (v := 1) hx hb dL_put_68 (by decide) ?_
          refine lv_isub hx hb dL_put_69 ?_
          refine lv_aload hx hb dL_put_70 (lv_at hl 6 rfl) ?_
          refine lv_iconst (v := 3) hx hb dL_put_72 (by decide) ?_
          obtain ⟨h28, j27, ej27, hf⟩ := rd_e hf
          refine lald hx hb hKX.1 hX (La_b 6 (by decide)) h28 ej27 dL_put_73 ?_
          obtain ⟨h30, j29, ej29, hf⟩ := rd_e hf
          refine lasv hx hb hKX.1 hX hS (La_b 3 (by decide)) h30 ej29 dL_put_74 (fun H locs hX hS => ?_)
          obtain ⟨S31, eS31, hf⟩ := lt_e hf
          rw [← eS31] at hX
          obtain ⟨g34, g340, g34s, hf⟩ := lp2_e hf
          have Lg34 : ∀ (n : Nat) (x32 : Int32) (S33 : Lt) (H : Heap) (locs : List Loc) (ls : Array Slot), LX D cA A Lb ad S33 H → va_S A s.heap H locs → lv_has ls 16 [(1, .ref (ad 1)), (2, .ref (ad 2)), (3, .ref (ad 3)), (4, .ref (ad 4)), (5, .ref (ad 6)), (6, .ref (ad 7)), (7, .int x32)] → g34 n x32 S33 = some M' → W p l e (RM 4 1 20) s m args below meth c H locs 1 20 (MQ below (CtQ A none (LX D cA A La ad0 M')) args s 1 20 A) (F0 m 75 ls []) := by
            intro n
            induction n with
            | zero => intro x32 S33 H locs ls hX hS hl hf; rw [g340] at hf; cases hf
            | succ n ihg34 =>
              intro x32 S33 H locs ls hX hS hl hf
              rw [g34s] at hf
              refine lv_iload hx hb dL_put_75 (lv_at hl 6 rfl) ?_
              refine lv_if_le (tgt := 482) hx hb dL_put_77 (by decide) (fun c35 => ?_) (fun c35 => ?_)
              · have hf := it_t c35 hf
                cases hf
                exact Ct_rv hx hb hr hlk (lx_cut hag hX) hS dL_put_482
              · have hf := it_f c35 hf
                refine lv_iinc (v := (x32 + (-1))) (lv' := [(7, .int (x32 + (-1))), (1, .ref (ad 1)), (2, .ref (ad 2)), (3, .ref (ad 3)), (4, .ref (ad 4)), (5, .ref (ad 6)), (6, .ref (ad 7))]) hx hb dL_put_80 hl (k := 6) rfl rfl (by decide) rfl (fun ls hl => ?_)
                refine lv_aload hx hb dL_put_83 (lv_at hl 6 rfl) ?_
                refine lv_iload hx hb dL_put_85 (lv_at hl 0 rfl) ?_
                obtain ⟨h37, j36, ej36, hf⟩ := rd_e hf
                refine lald hx hb hKX.1 hX (by decide) h37 ej36 dL_put_87 ?_
                refine lv_istore (lv' := [(8, .int (S33 7 j36)), (7, .int (x32 + (-1))), (1, .ref (ad 1)), (2, .ref (ad 2)), (3, .ref (ad 3)), (4, .ref (ad 4)), (5, .ref (ad 6)), (6, .ref (ad 7))]) hx hb dL_put_88 hl (by decide) rfl (fun ls hl => ?_)
                refine lv_aload_n hx hb dL_put_90 rfl (lv_at hl 2 rfl) ?_
                refine lv_aload hx hb dL_put_91 (lv_at hl 6 rfl) ?_
                refine lv_iload hx hb dL_put_93 (lv_at hl 0 rfl) ?_
                refine lv_aload_n hx hb dL_put_95 rfl (lv_at hl 4 rfl) ?_
                refine lv_iload hx hb dL_put_96 (lv_at hl 0 rfl) ?_
                obtain ⟨h39, j38, ej38, hf⟩ := rd_e hf
                refine lald hx hb hKX.1 hX (La_b 3 (by decide)) h39 ej38 dL_put_98 ?_
                obtain ⟨z40, S41, hz40, hf⟩ := cb2_e hf
                refine lSi (As := [.ref (ad 1), .ref (ad 6), .int (S33 7 j36), .int (S33 3 j38)]) (rest := []) hC (c_l_hinders La_b hz40) q_l_hinders a_605 (Nat.le_of_ble_eq_true rfl) hX hKX rfl hl.1 (Nat.le_of_ble_eq_true rfl) dL_put_99 ⟨Nat.le_of_ble_eq_true rfl, Nat.le_of_ble_eq_true rfl⟩ hS (fun H locs hX hS => ?_)
                refine lv_if_eq (tgt := 106) hx hb dL_put_102 (by decide) (fun c42 => ?_) (fun c42 => ?_)
                · have hf := it_t c42 hf
                  refine lv_aload_n hx hb dL_put_106 rfl (lv_at hl 2 rfl) ?_
                  refine lv_iload hx hb dL_put_107 (lv_at hl 0 rfl) ?_
                  obtain ⟨h44, j43, ej43, hf⟩ := rd_e hf
                  refine lald hx hb hKX.1 hX (La_b 1 (by decide)) h44 ej43 dL_put_109 ?_
                  refine lv_iconst (v := 3) hx hb dL_put_110 (by decide) ?_
                  refine lv_iand hx hb dL_put_111 ?_
                  refine lv_istore (lv' := [(9, .int ((S41 1 j43) &&& 3)), (8, .int (S33 7 j36)), (7, .int (x32 + (-1))), (1, .ref (ad 1)), (2, .ref (ad 2)), (3, .ref (ad 3)), (4, .ref (ad 4)), (5, .ref (ad 6)), (6, .ref (ad 7))]) hx hb dL_put_112 hl (by decide) rfl (fun ls hl => ?_)
                  refine lv_aload_n hx hb dL_put_114 rfl (lv_at hl 3 rfl) ?_
                  refine lv_iload hx hb dL_put_115 (lv_at hl 1 rfl) ?_
                  obtain ⟨h46, j45, ej45, hf⟩ := rd_e hf
                  refine lald hx hb hKX.1 hX (La_b 1 (by decide)) h46 ej45 dL_put_117 ?_
                  refine lv_iconst (v := 2) hx hb dL_put_118 (by decide) ?_
                  refine lv_ishr hx hb dL_put_119 ?_
                  refine lv_bipush (v := 15) hx hb dL_put_120 (by decide) ?_
                  refine lv_iand hx hb dL_put_122 ?_
                  refine lv_topi (fun x47 ex47 => ?_)
                  have hf := lt_at ex47 hf
                  refine lv_istore (lv' := [(10, .int x47), (9, .int ((S41 1 j43) &&& 3)), (8, .int (S33 7 j36)), (7, .int (x32 + (-1))), (1, .ref (ad 1)), (2, .ref (ad 2)), (3, .ref (ad 3)), (4, .ref (ad 4)), (5, .ref (ad 6)), (6, .ref (ad 7))]) hx hb dL_put_123 hl (by decide) rfl (fun ls hl => ?_)
                  refine lv_aload_n hx hb dL_put_125 rfl (lv_at hl 4 rfl) ?_
                  refine lv_iload hx hb dL_put_126 (lv_at hl 2 rfl) ?_
                  obtain ⟨h49, j48, ej48, hf⟩ := rd_e hf
                  refine lald hx hb hKX.1 hX (La_b 1 (by decide)) h49 ej48 dL_put_128 ?_
                  refine lv_bipush (v := 6) hx hb dL_put_129 (by decide) ?_
                  refine lv_ishr hx hb dL_put_131 ?_
                  refine lv_bipush (v := 15) hx hb dL_put_132 (by decide) ?_
                  refine lv_iand hx hb dL_put_134 ?_
                  refine lv_topi (fun x50 ex50 => ?_)
                  have hf := lt_at ex50 hf
                  refine lv_istore (lv' := [(11, .int x50), (10, .int x47), (9, .int ((S41 1 j43) &&& 3)), (8, .int (S33 7 j36)), (7, .int (x32 + (-1))), (1, .ref (ad 1)), (2, .ref (ad 2)), (3, .ref (ad 3)), (4, .ref (ad 4)), (5, .ref (ad 6)), (6, .ref (ad 7))]) hx hb dL_put_135 hl (by decide) rfl (fun ls hl => ?_)
                  refine lv_iload hx hb dL_put_137 (lv_at hl 2 rfl) ?_
                  obtain ⟨k52, hk52, hf⟩ := jn1_e hf
                  have Jk52 : ∀ (S51 : Lt) (H : Heap) (locs : List Loc) (ls : Array Slot), LX D cA A Lb ad S51 H → va_S A s.heap H locs → lv_has ls 16 [(1, .ref (ad 1)), (2, .ref (ad 2)), (3, .ref (ad 3)), (4, .ref (ad 4)), (5, .ref (ad 6)), (6, .ref (ad 7)), (7, .int (x32 + (-1))), (8, .int (S33 7 j36)), (9, .int ((S41 1 j43) &&& 3)), (10, .int x47), (11, .int x50)] → k52 S51 = some M' → W p l e (RM 4 1 20) s m args below meth c H locs 1 20 (MQ below (CtQ A none (LX D cA A La ad0 M')) args s 1 20 A) (F0 m 151 ls []) := by
                    intro S51 H locs ls hX hS hl hf
                    rw [hk52] at hf
                    refine lv_iload hx hb dL_put_151 (lv_at hl 8 rfl) ?_
                    refine lv_iconst (v := 1) hx hb dL_put_153 (by decide) ?_
                    obtain ⟨k54, hk54, hf⟩ := jn1_e hf
                    have Jk54 : ∀ (S53 : Lt) (H : Heap) (locs : List Loc) (ls : Array Slot), LX D cA A Lb ad S53 H → va_S A s.heap H locs → lv_has ls 16 [(1, .ref (ad 1)), (2, .ref (ad 2)), (3, .ref (ad 3)), (4, .ref (ad 4)), (5, .ref (ad 6)), (6, .ref (ad 7)), (7, .int (x32 + (-1))), (8, .int (S33 7 j36)), (9, .int ((S41 1 j43) &&& 3)), (10, .int x47), (11, .int x50)] → k54 S53 = some M' → W p l e (RM 4 1 20) s m args below meth c H locs 1 20 (MQ below (CtQ A none (LX D cA A La ad0 M')) args s 1 20 A) (F0 m 192 ls []) := by
                      intro S53 H locs ls hX hS hl hf
                      rw [hk54] at hf
                      refine lv_iload hx hb dL_put_192 (lv_at hl 8 rfl) ?_
                      refine lv_iconst (v := 2) hx hb dL_put_194 (by decide) ?_
                      obtain ⟨k56, hk56, hf⟩ := jn1_e hf
                      have Jk56 : ∀ (S55 : Lt) (H : Heap) (locs : List Loc) (ls : Array Slot), LX D cA A Lb ad S55 H → va_S A s.heap H locs → lv_has ls 16 [(1, .ref (ad 1)), (2, .ref (ad 2)), (3, .ref (ad 3)), (4, .ref (ad 4)), (5, .ref (ad 6)), (6, .ref (ad 7)), (7, .int (x32 + (-1))), (8, .int (S33 7 j36)), (9, .int ((S41 1 j43) &&& 3)), (10, .int x47), (11, .int x50)] → k56 S55 = some M' → W p l e (RM 4 1 20) s m args below meth c H locs 1 20 (MQ below (CtQ A none (LX D cA A La ad0 M')) args s 1 20 A) (F0 m 339 ls []) := by
                        intro S55 H locs ls hX hS hl hf
                        rw [hk56] at hf
                        refine lv_iload hx hb dL_put_339 (lv_at hl 8 rfl) ?_
                        refine lv_iconst (v := 3) hx hb dL_put_341 (by decide) ?_
                        obtain ⟨k58, hk58, hf⟩ := jn1_e hf
                        have Jk58 : ∀ (S57 : Lt) (H : Heap) (locs : List Loc) (ls : Array Slot), LX D cA A Lb ad S57 H → va_S A s.heap H locs → lv_has ls 16 [(1, .ref (ad 1)), (2, .ref (ad 2)), (3, .ref (ad 3)), (4, .ref (ad 4)), (5, .ref (ad 6)), (6, .ref (ad 7)), (7, .int (x32 + (-1))), (9, .int ((S41 1 j43) &&& 3)), (10, .int x47), (11, .int x50)] → k58 S57 = some M' → W p l e (RM 4 1 20) s m args below meth c H locs 1 20 (MQ below (CtQ A none (LX D cA A La ad0 M')) args s 1 20 A) (F0 m 448 ls []) := by
                          intro S57 H locs ls hX hS hl hf
                          rw [hk58] at hf
                          refine lv_iload hx hb dL_put_448 (lv_at hl 7 rfl) ?_
                          obtain ⟨k61, hk61, hf⟩ := jn2_e hf
                          have Jk61 : ∀ (x59 : Int32) (S60 : Lt) (H : Heap) (locs : List Loc) (ls : Array Slot), LX D cA A Lb ad S60 H → va_S A s.heap H locs → lv_has ls 16 [(1, .ref (ad 1)), (2, .ref (ad 2)), (3, .ref (ad 3)), (4, .ref (ad 4)), (5, .ref (ad 6)), (6, .ref (ad 7)), (7, .int x59), (9, .int ((S41 1 j43) &&& 3)), (11, .int x50)] → k61 x59 S60 = some M' → W p l e (RM 4 1 20) s m args below meth c H locs 1 20 (MQ below (CtQ A none (LX D cA A La ad0 M')) args s 1 20 A) (F0 m 463 ls []) := by
                            intro x59 S60 H locs ls hX hS hl hf
                            rw [hk61] at hf
                            refine lv_iload hx hb dL_put_463 (lv_at hl 7 rfl) ?_
                            refine lv_iconst (v := 3) hx hb dL_put_465 (by decide) ?_
                            refine lv_icmp_ne (tgt := 479) hx hb dL_put_466 (by decide) (fun c62 => ?_) (fun c62 => ?_)
                            · have hf := it_f c62 hf
                              refine lv_goto (tgt := 75) hx hb dL_put_479 (by decide) ?_
                              exact ihg34 _ _ _ _ _ hX hS (lv_sub hl [0, 1, 2, 3, 4, 5, 6] rfl) hf
                            · have hf := it_t c62 hf
                              refine lv_aload hx hb dL_put_469 (lv_at hl 5 rfl) ?_
                              refine lv_iload hx hb dL_put_471 (lv_at hl 6 rfl) ?_
                              refine lv_iinc (v := (x59 + 1)) (lv' := [(7, .int (x59 + 1)), (1, .ref (ad 1)), (2, .ref (ad 2)), (3, .ref (ad 3)), (4, .ref (ad 4)), (5, .ref (ad 6)), (6, .ref (ad 7)), (9, .int ((S41 1 j43) &&& 3)), (11, .int x50)]) hx hb dL_put_473 hl (k := 6) rfl rfl (by decide) rfl (fun ls hl => ?_)
                              refine lv_iload hx hb dL_put_476 (lv_at hl 8 rfl) ?_
                              obtain ⟨h64, j63, ej63, hf⟩ := rd_e hf
                              refine lasv hx hb hKX.1 hX hS (by decide) h64 ej63 dL_put_478 (fun H locs hX hS => ?_)
                              obtain ⟨S65, eS65, hf⟩ := lt_e hf
                              rw [← eS65] at hX
                              refine lv_goto (tgt := 75) hx hb dL_put_479 (by decide) ?_
                              exact ihg34 _ _ _ _ _ hX hS (lv_sub hl [1, 2, 3, 4, 5, 6, 0] rfl) hf
                          refine lv_if_le (tgt := 463) hx hb dL_put_450 (by decide) (fun c66 => ?_) (fun c66 => ?_)
                          · have hf := it_t c66 hf
                            exact Jk61 _ _ _ _ _ hX hS (lv_sub hl [0, 1, 2, 3, 4, 5, 6, 7, 9] rfl) hf
                          · have hf := it_f c66 hf
                            refine lv_aload hx hb dL_put_453 (lv_at hl 5 rfl) ?_
                            refine lv_iload hx hb dL_put_455 (lv_at hl 6 rfl) ?_
                            refine lv_iinc (v := ((x32 + (-1)) + 1)) (lv' := [(7, .int ((x32 + (-1)) + 1)), (1, .ref (ad 1)), (2, .ref (ad 2)), (3, .ref (ad 3)), (4, .ref (ad 4)), (5, .ref (ad 6)), (6, .ref (ad 7)), (9, .int ((S41 1 j43) &&& 3)), (10, .int x47), (11, .int x50)]) hx hb dL_put_457 hl (k := 6) rfl rfl (by decide) rfl (fun ls hl => ?_)
                            refine lv_iload hx hb dL_put_460 (lv_at hl 8 rfl) ?_
                            obtain ⟨h68, j67, ej67, hf⟩ := rd_e hf
                            refine lasv hx hb hKX.1 hX hS (by decide) h68 ej67 dL_put_462 (fun H locs hX hS => ?_)
                            obtain ⟨S69, eS69, hf⟩ := lt_e hf
                            rw [← eS69] at hX
                            exact Jk61 _ _ _ _ _ hX hS (lv_sub hl [1, 2, 3, 4, 5, 6, 0, 7, 9] rfl) hf
                        refine lv_icmp_ne (tgt := 448) hx hb dL_put_342 (by decide) (fun c70 => ?_) (fun c70 => ?_)
                        · have hf := it_f c70 hf
                          exact Jk58 _ _ _ _ hX hS (lv_sub hl [0, 1, 2, 3, 4, 5, 6, 8, 9, 10] rfl) hf
                        · have hf := it_t c70 hf
                          refine lv_aload_n hx hb dL_put_345 rfl (lv_at hl 0 rfl) ?_
                          refine lv_iload hx hb dL_put_346 (lv_at hl 9 rfl) ?_
                          obtain ⟨z71, hz71, hf⟩ := cb_e hf
                          refine lSi (As := [.ref (ad 1), .int x47]) (rest := []) hC (c_l_columnsOf La_b hz71) q_l_columnsOf a_593 (Nat.le_of_ble_eq_true rfl) hX hKX rfl hl.1 (Nat.le_of_ble_eq_true rfl) dL_put_348 ⟨Nat.le_of_ble_eq_true rfl, Nat.le_of_ble_eq_true rfl⟩ hS (fun H locs hX hS => ?_)
                          refine lv_aload_n hx hb dL_put_351 rfl (lv_at hl 0 rfl) ?_
                          refine lv_iload hx hb dL_put_352 (lv_at hl 10 rfl) ?_
                          obtain ⟨z72, hz72, hf⟩ := cb_e hf
                          refine lSi (As := [.ref (ad 1), .int x50]) (rest := [.int z71]) hC (c_l_columnsOf La_b hz72) q_l_columnsOf a_593 (Nat.le_of_ble_eq_true rfl) hX hKX rfl hl.1 (Nat.le_of_ble_eq_true rfl) dL_put_354 ⟨Nat.le_of_ble_eq_true rfl, Nat.le_of_ble_eq_true rfl⟩ hS (fun H locs hX hS => ?_)
                          refine lv_iand hx hb dL_put_357 ?_
                          refine lv_istore (lv' := [(12, .int (z71 &&& z72)), (1, .ref (ad 1)), (2, .ref (ad 2)), (3, .ref (ad 3)), (4, .ref (ad 4)), (5, .ref (ad 6)), (6, .ref (ad 7)), (7, .int (x32 + (-1))), (8, .int (S33 7 j36)), (9, .int ((S41 1 j43) &&& 3)), (10, .int x47), (11, .int x50)]) hx hb dL_put_358 hl (by decide) rfl (fun ls hl => ?_)
                          refine lv_aload_n hx hb dL_put_360 rfl (lv_at hl 3 rfl) ?_
                          refine lv_iload hx hb dL_put_361 (lv_at hl 8 rfl) ?_
                          obtain ⟨h74, j73, ej73, hf⟩ := rd_e hf
                          refine lald hx hb hKX.1 hX (La_b 3 (by decide)) h74 ej73 dL_put_363 ?_
                          refine lv_aload_n hx hb dL_put_364 rfl (lv_at hl 1 rfl) ?_
                          refine lv_iload hx hb dL_put_365 (lv_at hl 11 rfl) ?_
                          obtain ⟨z75, hz75, hf⟩ := cb_e hf
                          refine lSi (As := [.ref (ad 1), .int x50]) (rest := [.int (S55 3 j73)]) hC (c_l_columnsOf La_b hz75) q_l_columnsOf a_593 (Nat.le_of_ble_eq_true rfl) hX hKX rfl hl.1 (Nat.le_of_ble_eq_true rfl) dL_put_367 ⟨Nat.le_of_ble_eq_true rfl, Nat.le_of_ble_eq_true rfl⟩ hS (fun H locs hX hS => ?_)
                          obtain ⟨z76, hz76, hf⟩ := cb_e hf
                          refine lSi (As := [.int (S55 3 j73), .int z75]) (rest := []) hC (c_l_parts La_b hz76) q_l_parts a_596 (Nat.le_of_ble_eq_true rfl) hX hKX rfl hl.1 (Nat.le_of_ble_eq_true rfl) dL_put_370 ⟨Nat.le_of_ble_eq_true rfl, Nat.le_of_ble_eq_true rfl⟩ hS (fun H locs hX hS => ?_)
                          refine lv_istore (lv' := [(13, .int z76), (12, .int (z71 &&& z72)), (1, .ref (ad 1)), (2, .ref (ad 2)), (3, .ref (ad 3)), (4, .ref (ad 4)), (5, .ref (ad 6)), (6, .ref (ad 7)), (7, .int (x32 + (-1))), (8, .int (S33 7 j36)), (9, .int ((S41 1 j43) &&& 3)), (10, .int x47), (11, .int x50)]) hx hb dL_put_373 hl (by decide) rfl (fun ls hl => ?_)
                          refine lv_aload_n hx hb dL_put_375 rfl (lv_at hl 4 rfl) ?_
                          refine lv_iload hx hb dL_put_376 (lv_at hl 12 rfl) ?_
                          refine lv_iload hx hb dL_put_378 (lv_at hl 0 rfl) ?_
                          refine lv_aload_n hx hb dL_put_380 rfl (lv_at hl 3 rfl) ?_
                          refine lv_iload hx hb dL_put_381 (lv_at hl 12 rfl) ?_
                          obtain ⟨h78, j77, ej77, hf⟩ := rd_e hf
                          refine lald hx hb hKX.1 hX (La_b 2 (by decide)) h78 ej77 dL_put_383 ?_
                          refine lv_iload hx hb dL_put_384 (lv_at hl 0 rfl) ?_
                          refine lv_aload_n hx hb dL_put_386 rfl (lv_at hl 2 rfl) ?_
                          refine lv_iload hx hb dL_put_387 (lv_at hl 12 rfl) ?_
                          obtain ⟨z79, hz79, hf⟩ := cb_e hf
                          refine lSi (As := [.ref (ad 1), .int x50]) (rest := [.int z76, .int (S55 2 j77), .int z76, .int x50, .ref (ad 3)]) hC (c_l_keyOf La_b hz79) q_l_keyOf a_608 (Nat.le_of_ble_eq_true rfl) hX hKX rfl hl.1 (Nat.le_of_ble_eq_true rfl) dL_put_389 ⟨Nat.le_of_ble_eq_true rfl, Nat.le_of_ble_eq_true rfl⟩ hS (fun H locs hX hS => ?_)
                          refine lv_iconst (v := 0) hx hb dL_put_392 (by decide) ?_
                          obtain ⟨z80, hz80, hf⟩ := cb_e hf
                          refine lSi (As := [.int (S55 2 j77), .int z76, .int z79, .int 0]) (rest := [.int z76, .int x50, .ref (ad 3)]) hC (c_l_like La_b hz80) q_l_like a_614 (Nat.le_of_ble_eq_true rfl) hX hKX rfl hl.1 (Nat.le_of_ble_eq_true rfl) dL_put_393 ⟨Nat.le_of_ble_eq_true rfl, Nat.le_of_ble_eq_true rfl⟩ hS (fun H locs hX hS => ?_)
                          refine lv_ior hx hb dL_put_396 ?_
                          obtain ⟨h82, j81, ej81, hf⟩ := rd_e hf
                          refine lasv hx hb hKX.1 hX hS (La_b 3 (by decide)) h82 ej81 dL_put_397 (fun H locs hX hS => ?_)
                          obtain ⟨S83, eS83, hf⟩ := lt_e hf
                          rw [← eS83] at hX
                          refine lv_aload_n hx hb dL_put_398 rfl (lv_at hl 3 rfl) ?_
                          refine lv_iload hx hb dL_put_399 (lv_at hl 11 rfl) ?_
                          obtain ⟨h85, j84, ej84, hf⟩ := rd_e hf
                          refine lald hx hb hKX.1 hX (La_b 2 (by decide)) h85 ej84 dL_put_401 ?_
                          refine lv_aload_n hx hb dL_put_402 rfl (lv_at hl 4 rfl) ?_
                          refine lv_iload hx hb dL_put_403 (lv_at hl 9 rfl) ?_
                          obtain ⟨h87, j86, ej86, hf⟩ := rd_e hf
                          refine lald hx hb hKX.1 hX (La_b 3 (by decide)) h87 ej86 dL_put_405 ?_
                          refine lv_aload_n hx hb dL_put_406 rfl (lv_at hl 2 rfl) ?_
                          refine lv_iload hx hb dL_put_407 (lv_at hl 9 rfl) ?_
                          obtain ⟨z88, hz88, hf⟩ := cb_e hf
                          refine lSi (As := [.ref (ad 1), .int (S33 7 j36)]) (rest := [.int (S83 3 j86), .int (S83 2 j84)]) hC (c_l_keyOf La_b hz88) q_l_keyOf a_608 (Nat.le_of_ble_eq_true rfl) hX hKX rfl hl.1 (Nat.le_of_ble_eq_true rfl) dL_put_409 ⟨Nat.le_of_ble_eq_true rfl, Nat.le_of_ble_eq_true rfl⟩ hS (fun H locs hX hS => ?_)
                          refine lv_iconst (v := 0) hx hb dL_put_412 (by decide) ?_
                          obtain ⟨z89, hz89, hf⟩ := cb_e hf
                          refine lSi (As := [.int (S83 2 j84), .int (S83 3 j86), .int z88, .int 0]) (rest := []) hC (c_l_like La_b hz89) q_l_like a_614 (Nat.le_of_ble_eq_true rfl) hX hKX rfl hl.1 (Nat.le_of_ble_eq_true rfl) dL_put_413 ⟨Nat.le_of_ble_eq_true rfl, Nat.le_of_ble_eq_true rfl⟩ hS (fun H locs hX hS => ?_)
                          refine lv_istore (lv' := [(14, .int z89), (13, .int z76), (12, .int (z71 &&& z72)), (1, .ref (ad 1)), (2, .ref (ad 2)), (3, .ref (ad 3)), (4, .ref (ad 4)), (5, .ref (ad 6)), (6, .ref (ad 7)), (7, .int (x32 + (-1))), (8, .int (S33 7 j36)), (9, .int ((S41 1 j43) &&& 3)), (10, .int x47), (11, .int x50)]) hx hb dL_put_416 hl (by decide) rfl (fun ls hl => ?_)
                          refine lv_aload_n hx hb dL_put_418 rfl (lv_at hl 5 rfl) ?_
                          refine lv_iload hx hb dL_put_419 (lv_at hl 12 rfl) ?_
                          refine lv_aload_n hx hb dL_put_421 rfl (lv_at hl 5 rfl) ?_
                          refine lv_iload hx hb dL_put_422 (lv_at hl 10 rfl) ?_
                          obtain ⟨h91, j90, ej90, hf⟩ := rd_e hf
                          refine lald hx hb hKX.1 hX (La_b 3 (by decide)) h91 ej90 dL_put_424 ?_
                          refine lv_aload_n hx hb dL_put_425 rfl (lv_at hl 3 rfl) ?_
                          refine lv_iload hx hb dL_put_426 (lv_at hl 12 rfl) ?_
                          obtain ⟨z92, hz92, hf⟩ := cb_e hf
                          refine lSi (As := [.ref (ad 1), .int x47]) (rest := [.int (S83 3 j90), .int x47, .ref (ad 3)]) hC (c_l_columnsOf La_b hz92) q_l_columnsOf a_593 (Nat.le_of_ble_eq_true rfl) hX hKX rfl hl.1 (Nat.le_of_ble_eq_true rfl) dL_put_428 ⟨Nat.le_of_ble_eq_true rfl, Nat.le_of_ble_eq_true rfl⟩ hS (fun H locs hX hS => ?_)
                          obtain ⟨z93, hz93, hf⟩ := cb_e hf
                          refine lSi (As := [.int (S83 3 j90), .int z92]) (rest := [.int x47, .ref (ad 3)]) hC (c_l_parts La_b hz93) q_l_parts a_596 (Nat.le_of_ble_eq_true rfl) hX hKX rfl hl.1 (Nat.le_of_ble_eq_true rfl) dL_put_431 ⟨Nat.le_of_ble_eq_true rfl, Nat.le_of_ble_eq_true rfl⟩ hS (fun H locs hX hS => ?_)
                          refine lv_iload hx hb dL_put_434 (lv_at hl 0 rfl) ?_
                          refine lv_aload_n hx hb dL_put_436 rfl (lv_at hl 5 rfl) ?_
                          refine lv_iload hx hb dL_put_437 (lv_at hl 13 rfl) ?_
                          obtain ⟨h95, j94, ej94, hf⟩ := rd_e hf
                          refine lald hx hb hKX.1 hX (La_b 3 (by decide)) h95 ej94 dL_put_439 ?_
                          refine lv_iload hx hb dL_put_440 (lv_at hl 2 rfl) ?_
                          refine lv_iconst (v := 0) hx hb dL_put_442 (by decide) ?_
                          obtain ⟨z96, hz96, hf⟩ := cb_e hf
                          refine lSi (As := [.int z89, .int (S83 3 j94), .int (z71 &&& z72), .int 0]) (rest := [.int z93, .int x47, .ref (ad 3)]) hC (c_l_like La_b hz96) q_l_like a_614 (Nat.le_of_ble_eq_true rfl) hX hKX rfl hl.1 (Nat.le_of_ble_eq_true rfl) dL_put_443 ⟨Nat.le_of_ble_eq_true rfl, Nat.le_of_ble_eq_true rfl⟩ hS (fun H locs hX hS => ?_)
                          refine lv_ior hx hb dL_put_446 ?_
                          obtain ⟨h98, j97, ej97, hf⟩ := rd_e hf
                          refine lasv hx hb hKX.1 hX hS (La_b 3 (by decide)) h98 ej97 dL_put_447 (fun H locs hX hS => ?_)
                          obtain ⟨S99, eS99, hf⟩ := lt_e hf
                          rw [← eS99] at hX
                          exact Jk58 _ _ _ _ hX hS (lv_sub hl [3, 4, 5, 6, 7, 8, 9, 11, 12, 13] rfl) hf
                      refine lv_icmp_ne (tgt := 339) hx hb dL_put_195 (by decide) (fun c100 => ?_) (fun c100 => ?_)
                      · have hf := it_f c100 hf
                        exact Jk56 _ _ _ _ hX hS (lv_sub hl [0, 1, 2, 3, 4, 5, 6, 7, 8, 9, 10] rfl) hf
                      · have hf := it_t c100 hf
                        refine lv_aload_n hx hb dL_put_198 rfl (lv_at hl 2 rfl) ?_
                        refine lv_iload hx hb dL_put_199 (lv_at hl 9 rfl) ?_
                        refine lv_iconst (v := 0) hx hb dL_put_201 (by decide) ?_
                        obtain ⟨h102, j101, ej101, hf⟩ := rd_e hf
                        refine lasv hx hb hKX.1 hX hS (La_b 3 (by decide)) h102 ej101 dL_put_202 (fun H locs hX hS => ?_)
                        obtain ⟨S103, eS103, hf⟩ := lt_e hf
                        rw [← eS103] at hX
                        refine lv_aload_n hx hb dL_put_203 rfl (lv_at hl 0 rfl) ?_
                        refine lv_iload hx hb dL_put_204 (lv_at hl 7 rfl) ?_
                        obtain ⟨h105, j104, ej104, hf⟩ := rd_e hf
                        refine lald hx hb hKX.1 hX (La_b 1 (by decide)) h105 ej104 dL_put_206 ?_
                        refine lv_bipush (v := 10) hx hb dL_put_207 (by decide) ?_
                        refine lv_ishr hx hb dL_put_209 ?_
                        refine lv_iconst (v := 3) hx hb dL_put_210 (by decide) ?_
                        refine lv_iand hx hb dL_put_211 ?_
                        refine lv_topi (fun x106 ex106 => ?_)
                        have hf := lt_at ex106 hf
                        refine lv_istore (lv' := [(12, .int x106), (1, .ref (ad 1)), (2, .ref (ad 2)), (3, .ref (ad 3)), (4, .ref (ad 4)), (5, .ref (ad 6)), (6, .ref (ad 7)), (7, .int (x32 + (-1))), (8, .int (S33 7 j36)), (9, .int ((S41 1 j43) &&& 3)), (10, .int x47), (11, .int x50)]) hx hb dL_put_212 hl (by decide) rfl (fun ls hl => ?_)
                        refine lv_iconst (v := 0) hx hb dL_put_214 (by decide) ?_
                        refine lv_istore (lv' := [(13, .int 0), (12, .int x106), (1, .ref (ad 1)), (2, .ref (ad 2)), (3, .ref (ad 3)), (4, .ref (ad 4)), (5, .ref (ad 6)), (6, .ref (ad 7)), (7, .int (x32 + (-1))), (8, .int (S33 7 j36)), (9, .int ((S41 1 j43) &&& 3)), (10, .int x47), (11, .int x50)]) hx hb dL_put_215 hl (by decide) rfl (fun ls hl => ?_)
                        obtain ⟨g109, g1090, g109s, hf⟩ := lp2_e hf
                        have Lg109 : ∀ (n : Nat) (x107 : Int32) (S108 : Lt) (H : Heap) (locs : List Loc) (ls : Array Slot), LX D cA A Lb ad S108 H → va_S A s.heap H locs → lv_has ls 16 [(1, .ref (ad 1)), (2, .ref (ad 2)), (3, .ref (ad 3)), (4, .ref (ad 4)), (5, .ref (ad 6)), (6, .ref (ad 7)), (7, .int (x32 + (-1))), (8, .int (S33 7 j36)), (9, .int ((S41 1 j43) &&& 3)), (10, .int x47), (11, .int x50), (12, .int x106), (13, .int x107)] → g109 n x107 S108 = some M' → W p l e (RM 4 1 20) s m args below meth c H locs 1 20 (MQ below (CtQ A none (LX D cA A La ad0 M')) args s 1 20 A) (F0 m 217 ls []) := by
                          intro n
                          induction n with
                          | zero => intro x107 S108 H locs ls hX hS hl hf; rw [g1090] at hf; cases hf
                          | succ n ihg109 =>
                            intro x107 S108 H locs ls hX hS hl hf
                            rw [g109s] at hf
                            refine lv_iload hx hb dL_put_217 (lv_at hl 12 rfl) ?_
                            refine lv_bipush (v := 27) hx hb dL_put_219 (by decide) ?_
                            refine lv_icmp_ge (tgt := 339) hx hb dL_put_221 (by decide) (fun c110 => ?_) (fun c110 => ?_)
                            · have hf := it_t c110 hf
                              exact Jk56 _ _ _ _ hX hS (lv_sub hl [0, 1, 2, 3, 4, 5, 6, 7, 8, 9, 10] rfl) hf
                            · have hf := it_f c110 hf
                              refine lv_aload_n hx hb dL_put_224 rfl (lv_at hl 2 rfl) ?_
                              refine lv_iload hx hb dL_put_225 (lv_at hl 7 rfl) ?_
                              obtain ⟨h112, j111, ej111, hf⟩ := rd_e hf
                              refine lald hx hb hKX.1 hX (La_b 3 (by decide)) h112 ej111 dL_put_227 ?_
                              refine lv_iload hx hb dL_put_228 (lv_at hl 12 rfl) ?_
                              refine lv_ishr hx hb dL_put_230 ?_
                              refine lv_iconst (v := 1) hx hb dL_put_231 (by decide) ?_
                              refine lv_iand hx hb dL_put_232 ?_
                              refine lv_if_ne (tgt := 239) hx hb dL_put_233 (by decide) (fun c113 => ?_) (fun c113 => ?_)
                              · have hf := it_f c113 hf
                                refine lv_aload_n hx hb dL_put_239 rfl (lv_at hl 0 rfl) ?_
                                refine lv_iload hx hb dL_put_240 (lv_at hl 7 rfl) ?_
                                obtain ⟨h115, j114, ej114, hf⟩ := rd_e hf
                                refine lald hx hb hKX.1 hX (La_b 1 (by decide)) h115 ej114 dL_put_242 ?_
                                refine lv_bipush (v := 12) hx hb dL_put_243 (by decide) ?_
                                refine lv_ishr hx hb dL_put_245 ?_
                                refine lv_iconst (v := 3) hx hb dL_put_246 (by decide) ?_
                                refine lv_iand hx hb dL_put_247 ?_
                                refine lv_topi (fun x116 ex116 => ?_)
                                have hf := lt_at ex116 hf
                                refine lv_istore (lv' := [(14, .int x116), (1, .ref (ad 1)), (2, .ref (ad 2)), (3, .ref (ad 3)), (4, .ref (ad 4)), (5, .ref (ad 6)), (6, .ref (ad 7)), (7, .int (x32 + (-1))), (8, .int (S33 7 j36)), (9, .int ((S41 1 j43) &&& 3)), (10, .int x47), (11, .int x50), (12, .int x106), (13, .int x107)]) hx hb dL_put_248 hl (by decide) rfl (fun ls hl => ?_)
                                refine lv_iconst (v := 0) hx hb dL_put_250 (by decide) ?_
                                refine lv_istore (lv' := [(15, .int 0), (14, .int x116), (1, .ref (ad 1)), (2, .ref (ad 2)), (3, .ref (ad 3)), (4, .ref (ad 4)), (5, .ref (ad 6)), (6, .ref (ad 7)), (7, .int (x32 + (-1))), (8, .int (S33 7 j36)), (9, .int ((S41 1 j43) &&& 3)), (10, .int x47), (11, .int x50), (12, .int x106), (13, .int x107)]) hx hb dL_put_251 hl (by decide) rfl (fun ls hl => ?_)
                                obtain ⟨g119, g1190, g119s, hf⟩ := lp2_e hf
                                have Lg119 : ∀ (n : Nat) (x117 : Int32) (x118 : Int32) (H : Heap) (locs : List Loc) (ls : Array Slot), LX D cA A Lb ad S108 H → va_S A s.heap H locs → lv_has ls 16 [(1, .ref (ad 1)), (2, .ref (ad 2)), (3, .ref (ad 3)), (4, .ref (ad 4)), (5, .ref (ad 6)), (6, .ref (ad 7)), (7, .int (x32 + (-1))), (8, .int (S33 7 j36)), (9, .int ((S41 1 j43) &&& 3)), (10, .int x47), (11, .int x50), (12, .int x106), (13, .int x107), (14, .int x117), (15, .int x118)] → g119 n x117 x118 = some M' → W p l e (RM 4 1 20) s m args below meth c H locs 1 20 (MQ below (CtQ A none (LX D cA A La ad0 M')) args s 1 20 A) (F0 m 253 ls []) := by
                                  intro n
                                  induction n with
                                  | zero => intro x117 x118 H locs ls hX hS hl hf; rw [g1190] at hf; cases hf
                                  | succ n ihg119 =>
                                    intro x117 x118 H locs ls hX hS hl hf
                                    rw [g119s] at hf
                                    refine lv_iload hx hb dL_put_253 (lv_at hl 14 rfl) ?_
                                    refine lv_bipush (v := 27) hx hb dL_put_255 (by decide) ?_
                                    refine lv_icmp_ge (tgt := 313) hx hb dL_put_257 (by decide) (fun c120 => ?_) (fun c120 => ?_)
                                    · have hf := it_t c120 hf
                                      refine lv_aload_n hx hb dL_put_313 rfl (lv_at hl 2 rfl) ?_
                                      refine lv_iload hx hb dL_put_314 (lv_at hl 9 rfl) ?_
                                      refine lv_dup2_11 hx hb dL_put_316 rfl rfl ?_
                                      obtain ⟨h122, j121, ej121, hf⟩ := rd_e hf
                                      refine lald hx hb hKX.1 hX (La_b 3 (by decide)) h122 ej121 dL_put_317 ?_
                                      refine lv_iconst (v := 1) hx hb dL_put_318 (by decide) ?_
                                      refine lv_iload hx hb dL_put_319 (lv_at hl 12 rfl) ?_
                                      refine lv_iload hx hb dL_put_321 (lv_at hl 13 rfl) ?_
                                      refine lv_iload hx hb dL_put_323 (lv_at hl 11 rfl) ?_
                                      obtain ⟨z123, hz123, hf⟩ := cb_e hf
                                      refine lSi (As := [.int x106]) (rest := [.int x117, .int x107, .int 1, .int (S108 3 j121), .int x47, .ref (ad 3)]) hC (c_l_unit La_b hz123) q_l_unit a_602 (Nat.le_of_ble_eq_true rfl) hX hKX rfl hl.1 (Nat.le_of_ble_eq_true rfl) dL_put_325 ⟨Nat.le_of_ble_eq_true rfl, Nat.le_of_ble_eq_true rfl⟩ hS (fun H locs hX hS => ?_)
                                      refine lv_imul hx hb dL_put_328 ?_
                                      refine lv_iadd hx hb dL_put_329 ?_
                                      refine lv_ishl hx hb dL_put_330 ?_
                                      refine lv_ior hx hb dL_put_331 ?_
                                      obtain ⟨h125, j124, ej124, hf⟩ := rd_e hf
                                      refine lasv hx hb hKX.1 hX hS (La_b 3 (by decide)) h125 ej124 dL_put_332 (fun H locs hX hS => ?_)
                                      obtain ⟨S126, eS126, hf⟩ := lt_e hf
                                      rw [← eS126] at hX
                                      refine lv_iinc (v := (x107 + 1)) (lv' := [(13, .int (x107 + 1)), (1, .ref (ad 1)), (2, .ref (ad 2)), (3, .ref (ad 3)), (4, .ref (ad 4)), (5, .ref (ad 6)), (6, .ref (ad 7)), (7, .int (x32 + (-1))), (8, .int (S33 7 j36)), (9, .int ((S41 1 j43) &&& 3)), (10, .int x47), (11, .int x50), (12, .int x106), (14, .int x117), (15, .int x118)]) hx hb dL_put_333 hl (k := 12) rfl rfl (by decide) rfl (fun ls hl => ?_)
                                      refine lv_goto (tgt := 217) hx hb dL_put_336 (by decide) ?_
                                      exact ihg109 _ _ _ _ _ hX hS (lv_sub hl [1, 2, 3, 4, 5, 6, 7, 8, 9, 10, 11, 12, 0] rfl) hf
                                    · have hf := it_f c120 hf
                                      refine lv_aload_n hx hb dL_put_260 rfl (lv_at hl 1 rfl) ?_
                                      refine lv_iload hx hb dL_put_261 (lv_at hl 9 rfl) ?_
                                      obtain ⟨h128, j127, ej127, hf⟩ := rd_e hf
                                      refine lald hx hb hKX.1 hX (La_b 2 (by decide)) h128 ej127 dL_put_263 ?_
                                      refine lv_iload hx hb dL_put_264 (lv_at hl 14 rfl) ?_
                                      refine lv_ishr hx hb dL_put_266 ?_
                                      refine lv_iconst (v := 1) hx hb dL_put_267 (by decide) ?_
                                      refine lv_iand hx hb dL_put_268 ?_
                                      refine lv_iconst (v := 1) hx hb dL_put_269 (by decide) ?_
                                      refine lv_icmp_ne (tgt := 307) hx hb dL_put_270 (by decide) (fun c129 => ?_) (fun c129 => ?_)
                                      · have hf := it_f c129 hf
                                        refine lv_iinc (v := (x118 + 1)) (lv' := [(15, .int (x118 + 1)), (1, .ref (ad 1)), (2, .ref (ad 2)), (3, .ref (ad 3)), (4, .ref (ad 4)), (5, .ref (ad 6)), (6, .ref (ad 7)), (7, .int (x32 + (-1))), (8, .int (S33 7 j36)), (9, .int ((S41 1 j43) &&& 3)), (10, .int x47), (11, .int x50), (12, .int x106), (13, .int x107), (14, .int x117)]) hx hb dL_put_307 hl (k := 14) rfl rfl (by decide) rfl (fun ls hl => ?_)
                                        refine lv_goto (tgt := 253) hx hb dL_put_310 (by decide) ?_
                                        exact ihg119 _ _ _ _ _ hX hS (lv_sub hl [1, 2, 3, 4, 5, 6, 7, 8, 9, 10, 11, 12, 13, 14, 0] rfl) hf
                                      · have hf := it_t c129 hf
                                        refine lv_iload hx hb dL_put_273 (lv_at hl 14 rfl) ?_
                                        refine lv_aload_n hx hb dL_put_275 rfl (lv_at hl 0 rfl) ?_
                                        refine lv_iload hx hb dL_put_276 (lv_at hl 7 rfl) ?_
                                        obtain ⟨z130, hz130, hf⟩ := cb_e hf
                                        refine lSi (As := [.ref (ad 1), .int (S33 7 j36)]) (rest := [.int x118]) hC (c_l_keyOf La_b hz130) q_l_keyOf a_608 (Nat.le_of_ble_eq_true rfl) hX hKX rfl hl.1 (Nat.le_of_ble_eq_true rfl) dL_put_278 ⟨Nat.le_of_ble_eq_true rfl, Nat.le_of_ble_eq_true rfl⟩ hS (fun H locs hX hS => ?_)
                                        obtain ⟨z131, hz131, hf⟩ := cb_e hf
                                        refine lSi (As := [.int x118, .int z130]) (rest := []) hC (c_l_part La_b hz131) q_l_part a_599 (Nat.le_of_ble_eq_true rfl) hX hKX rfl hl.1 (Nat.le_of_ble_eq_true rfl) dL_put_281 ⟨Nat.le_of_ble_eq_true rfl, Nat.le_of_ble_eq_true rfl⟩ hS (fun H locs hX hS => ?_)
                                        refine lv_iload hx hb dL_put_284 (lv_at hl 12 rfl) ?_
                                        refine lv_aload_n hx hb dL_put_286 rfl (lv_at hl 0 rfl) ?_
                                        refine lv_iload hx hb dL_put_287 (lv_at hl 7 rfl) ?_
                                        obtain ⟨z132, hz132, hf⟩ := cb_e hf
                                        refine lSi (As := [.ref (ad 1), .int (S33 7 j36)]) (rest := [.int x107, .int z131]) hC (c_l_keyOf La_b hz132) q_l_keyOf a_608 (Nat.le_of_ble_eq_true rfl) hX hKX rfl hl.1 (Nat.le_of_ble_eq_true rfl) dL_put_289 ⟨Nat.le_of_ble_eq_true rfl, Nat.le_of_ble_eq_true rfl⟩ hS (fun H locs hX hS => ?_)
                                        obtain ⟨z133, hz133, hf⟩ := cb_e hf
                                        refine lSi (As := [.int x107, .int z132]) (rest := [.int z131]) hC (c_l_part La_b hz133) q_l_part a_599 (Nat.le_of_ble_eq_true rfl) hX hKX rfl hl.1 (Nat.le_of_ble_eq_true rfl) dL_put_292 ⟨Nat.le_of_ble_eq_true rfl, Nat.le_of_ble_eq_true rfl⟩ hS (fun H locs hX hS => ?_)
                                        refine lv_icmp_ne (tgt := 307) hx hb dL_put_295 (by decide) (fun c134 => ?_) (fun c134 => ?_)
                                        · have hf := it_f c134 hf
                                          refine lv_iinc (v := (x118 + 1)) (lv' := [(15, .int (x118 + 1)), (1, .ref (ad 1)), (2, .ref (ad 2)), (3, .ref (ad 3)), (4, .ref (ad 4)), (5, .ref (ad 6)), (6, .ref (ad 7)), (7, .int (x32 + (-1))), (8, .int (S33 7 j36)), (9, .int ((S41 1 j43) &&& 3)), (10, .int x47), (11, .int x50), (12, .int x106), (13, .int x107), (14, .int x117)]) hx hb dL_put_307 hl (k := 14) rfl rfl (by decide) rfl (fun ls hl => ?_)
                                          refine lv_goto (tgt := 253) hx hb dL_put_310 (by decide) ?_
                                          exact ihg119 _ _ _ _ _ hX hS (lv_sub hl [1, 2, 3, 4, 5, 6, 7, 8, 9, 10, 11, 12, 13, 14, 0] rfl) hf
                                        · have hf := it_t c134 hf
                                          refine lv_iload hx hb dL_put_298 (lv_at hl 14 rfl) ?_
                                          refine lv_iload hx hb dL_put_300 (lv_at hl 11 rfl) ?_
                                          obtain ⟨z135, hz135, hf⟩ := cb_e hf
                                          refine lSi (As := [.int x118, .int x106]) (rest := []) hC (c_l_digit La_b hz135) q_l_digit a_590 (Nat.le_of_ble_eq_true rfl) hX hKX rfl hl.1 (Nat.le_of_ble_eq_true rfl) dL_put_302 ⟨Nat.le_of_ble_eq_true rfl, Nat.le_of_ble_eq_true rfl⟩ hS (fun H locs hX hS => ?_)
                                          refine lv_istore (lv' := [(14, .int z135), (1, .ref (ad 1)), (2, .ref (ad 2)), (3, .ref (ad 3)), (4, .ref (ad 4)), (5, .ref (ad 6)), (6, .ref (ad 7)), (7, .int (x32 + (-1))), (8, .int (S33 7 j36)), (9, .int ((S41 1 j43) &&& 3)), (10, .int x47), (11, .int x50), (12, .int x106), (13, .int x107), (15, .int x118)]) hx hb dL_put_305 hl (by decide) rfl (fun ls hl => ?_)
                                          refine lv_iinc (v := (x118 + 1)) (lv' := [(15, .int (x118 + 1)), (14, .int z135), (1, .ref (ad 1)), (2, .ref (ad 2)), (3, .ref (ad 3)), (4, .ref (ad 4)), (5, .ref (ad 6)), (6, .ref (ad 7)), (7, .int (x32 + (-1))), (8, .int (S33 7 j36)), (9, .int ((S41 1 j43) &&& 3)), (10, .int x47), (11, .int x50), (12, .int x106), (13, .int x107)]) hx hb dL_put_307 hl (k := 14) rfl rfl (by decide) rfl (fun ls hl => ?_)
                                          refine lv_goto (tgt := 253) hx hb dL_put_310 (by decide) ?_
                                          exact ihg119 _ _ _ _ _ hX hS (lv_sub hl [2, 3, 4, 5, 6, 7, 8, 9, 10, 11, 12, 13, 14, 1, 0] rfl) hf
                                exact Lg119 FU _ _ _ _ _ hX hS (lv_sub hl [2, 3, 4, 5, 6, 7, 8, 9, 10, 11, 12, 13, 14, 1, 0] rfl) hf
                              · have hf := it_t c113 hf
                                refine lv_goto (tgt := 333) hx hb dL_put_236 (by decide) ?_
                                refine lv_iinc (v := (x107 + 1)) (lv' := [(13, .int (x107 + 1)), (1, .ref (ad 1)), (2, .ref (ad 2)), (3, .ref (ad 3)), (4, .ref (ad 4)), (5, .ref (ad 6)), (6, .ref (ad 7)), (7, .int (x32 + (-1))), (8, .int (S33 7 j36)), (9, .int ((S41 1 j43) &&& 3)), (10, .int x47), (11, .int x50), (12, .int x106)]) hx hb dL_put_333 hl (k := 12) rfl rfl (by decide) rfl (fun ls hl => ?_)
                                refine lv_goto (tgt := 217) hx hb dL_put_336 (by decide) ?_
                                exact ihg109 _ _ _ _ _ hX hS (lv_sub hl [1, 2, 3, 4, 5, 6, 7, 8, 9, 10, 11, 12, 0] rfl) hf
                        exact Lg109 FU _ _ _ _ _ hX hS (lv_sub hl [2, 3, 4, 5, 6, 7, 8, 9, 10, 11, 12, 1, 0] rfl) hf
                    refine lv_icmp_ne (tgt := 192) hx hb dL_put_154 (by decide) (fun c136 => ?_) (fun c136 => ?_)
                    · have hf := it_f c136 hf
                      exact Jk54 _ _ _ _ hX hS (lv_sub hl [0, 1, 2, 3, 4, 5, 6, 7, 8, 9, 10] rfl) hf
                    · have hf := it_t c136 hf
                      refine lv_aload_n hx hb dL_put_157 rfl (lv_at hl 2 rfl) ?_
                      refine lv_iload hx hb dL_put_158 (lv_at hl 9 rfl) ?_
                      refine lv_aload_n hx hb dL_put_160 rfl (lv_at hl 2 rfl) ?_
                      refine lv_iload hx hb dL_put_161 (lv_at hl 7 rfl) ?_
                      obtain ⟨h138, j137, ej137, hf⟩ := rd_e hf
                      refine lald hx hb hKX.1 hX (La_b 3 (by decide)) h138 ej137 dL_put_163 ?_
                      refine lv_aload_n hx hb dL_put_164 rfl (lv_at hl 0 rfl) ?_
                      refine lv_iload hx hb dL_put_165 (lv_at hl 7 rfl) ?_
                      obtain ⟨h140, j139, ej139, hf⟩ := rd_e hf
                      refine lald hx hb hKX.1 hX (La_b 1 (by decide)) h140 ej139 dL_put_167 ?_
                      refine lv_aload_n hx hb dL_put_168 rfl (lv_at hl 1 rfl) ?_
                      refine lv_iload hx hb dL_put_169 (lv_at hl 9 rfl) ?_
                      obtain ⟨h142, j141, ej141, hf⟩ := rd_e hf
                      refine lald hx hb hKX.1 hX (La_b 2 (by decide)) h142 ej141 dL_put_171 ?_
                      refine lv_iconst (v := 0) hx hb dL_put_172 (by decide) ?_
                      obtain ⟨z143, hz143, hf⟩ := cb_e hf
                      refine lSi (As := [.int (S51 1 j139), .int (S51 2 j141), .int 0]) (rest := [.int (S51 3 j137), .int x47, .ref (ad 3)]) hC (c_l_selected La_b hz143) q_l_selected a_587 (Nat.le_of_ble_eq_true rfl) hX hKX rfl hl.1 (Nat.le_of_ble_eq_true rfl) dL_put_173 ⟨Nat.le_of_ble_eq_true rfl, Nat.le_of_ble_eq_true rfl⟩ hS (fun H locs hX hS => ?_)
                      refine lv_aload_n hx hb dL_put_176 rfl (lv_at hl 2 rfl) ?_
                      refine lv_iload hx hb dL_put_177 (lv_at hl 7 rfl) ?_
                      obtain ⟨h145, j144, ej144, hf⟩ := rd_e hf
                      refine lald hx hb hKX.1 hX (La_b 3 (by decide)) h145 ej144 dL_put_179 ?_
                      refine lv_aload_n hx hb dL_put_180 rfl (lv_at hl 0 rfl) ?_
                      refine lv_iload hx hb dL_put_181 (lv_at hl 7 rfl) ?_
                      obtain ⟨z146, hz146, hf⟩ := cb_e hf
                      refine lSi (As := [.ref (ad 1), .int (S33 7 j36)]) (rest := [.int (S51 3 j144), .int z143, .int (S51 3 j137), .int x47, .ref (ad 3)]) hC (c_l_keyOf La_b hz146) q_l_keyOf a_608 (Nat.le_of_ble_eq_true rfl) hX hKX rfl hl.1 (Nat.le_of_ble_eq_true rfl) dL_put_183 ⟨Nat.le_of_ble_eq_true rfl, Nat.le_of_ble_eq_true rfl⟩ hS (fun H locs hX hS => ?_)
                      refine lv_iconst (v := 0) hx hb dL_put_186 (by decide) ?_
                      obtain ⟨z147, hz147, hf⟩ := cb_e hf
                      refine lSi (As := [.int z143, .int (S51 3 j144), .int z146, .int 0]) (rest := [.int (S51 3 j137), .int x47, .ref (ad 3)]) hC (c_l_like La_b hz147) q_l_like a_614 (Nat.le_of_ble_eq_true rfl) hX hKX rfl hl.1 (Nat.le_of_ble_eq_true rfl) dL_put_187 ⟨Nat.le_of_ble_eq_true rfl, Nat.le_of_ble_eq_true rfl⟩ hS (fun H locs hX hS => ?_)
                      refine lv_ior hx hb dL_put_190 ?_
                      obtain ⟨h149, j148, ej148, hf⟩ := rd_e hf
                      refine lasv hx hb hKX.1 hX hS (La_b 3 (by decide)) h149 ej148 dL_put_191 (fun H locs hX hS => ?_)
                      obtain ⟨S150, eS150, hf⟩ := lt_e hf
                      rw [← eS150] at hX
                      exact Jk54 _ _ _ _ hX hS (lv_sub hl [0, 1, 2, 3, 4, 5, 6, 7, 8, 9, 10] rfl) hf
                  refine lv_if_ne (tgt := 151) hx hb dL_put_139 (by decide) (fun c151 => ?_) (fun c151 => ?_)
                  · have hf := it_f c151 hf
                    exact Jk52 _ _ _ _ hX hS (lv_sub hl [5, 6, 7, 8, 9, 10, 4, 3, 2, 1, 0] rfl) hf
                  · have hf := it_t c151 hf
                    refine lv_aload hx hb dL_put_142 (lv_at hl 8 rfl) ?_
                    refine lv_iload hx hb dL_put_144 (lv_at hl 1 rfl) ?_
                    refine lv_aload_n hx hb dL_put_146 rfl (lv_at hl 7 rfl) ?_
                    refine lv_iload hx hb dL_put_147 (lv_at hl 3 rfl) ?_
                    obtain ⟨h153, j152, ej152, hf⟩ := rd_e hf
                    refine lald hx hb hKX.1 hX (La_b 3 (by decide)) h153 ej152 dL_put_149 ?_
                    obtain ⟨h155, j154, ej154, hf⟩ := rd_e hf
                    refine lasv hx hb hKX.1 hX hS (La_b 4 (by decide)) h155 ej154 dL_put_150 (fun H locs hX hS => ?_)
                    obtain ⟨S156, eS156, hf⟩ := lt_e hf
                    rw [← eS156] at hX
                    exact Jk52 _ _ _ _ hX hS (lv_sub hl [5, 6, 7, 8, 9, 10, 4, 3, 2, 1, 0] rfl) hf
                · have hf := it_f c42 hf
                  cases hf
                  exact Ct_rv hx hb hr hlk (lx_cut hag hX) hS dL_put_105
          exact Lg34 FU _ _ _ _ _ hX hS (lv_sub hl [2, 3, 4, 5, 6, 1, 0] rfl) hf
        refine lnew7 hx hb a_61 hC hKX.1 hX hS hAs (Nat.le_of_ble_eq_true rfl) (Nat.le_of_ble_eq_true rfl) dL_put_46 (fun q H hX hS => ?_)
        refine W.widen (k := 1) (n := 20) (Nat.le_of_ble_eq_true rfl) (Nat.le_of_ble_eq_true rfl) ?_
        exact KT (fun c => if c = 7 then q else ad0 c) _ H locs ls (fun c hc => if_neg (fun h7 => by subst h7; exact absurd hc (by decide))) hX hS (lv_sub hl [1, 2, 3, 4, 5] rfl) hf
      · have hf := it_f c19 hf
        refine lv_aload hx hb dL_put_27 (lv_at hl 4 rfl) ?_
        refine lv_iload hx hb dL_put_29 (lv_at hl 6 rfl) ?_
        refine lv_aload_n hx hb dL_put_31 rfl (lv_at hl 0 rfl) ?_
        refine lv_iconst (v := 3) hx hb dL_put_32 (by decide) ?_
        refine lv_iload hx hb dL_put_33 (lv_at hl 6 rfl) ?_
        refine lv_iadd hx hb dL_put_35 ?_
        obtain ⟨h158, j157, ej157, hf⟩ := rd_e hf
        refine lald hx hb hKX.1 hX (La_a 0 (by decide)) h158 ej157 dL_put_36 ?_
        obtain ⟨h160, j159, ej159, hf⟩ := rd_e hf
        refine lasv hx hb hKX.1 hX hS (La_a 4 (by decide)) h160 ej159 dL_put_37 (fun H locs hX hS => ?_)
        obtain ⟨S161, eS161, hf⟩ := lt_e hf
        rw [← eS161] at hX
        refine lv_iinc (v := (x16 + 1)) (lv' := [(6, .int (x16 + 1)), (0, .ref (ad0 0)), (1, .ref (ad0 1)), (2, .ref (ad0 2)), (3, .ref (ad0 3)), (4, .ref (ad0 4)), (5, .ref (ad0 6))]) hx hb dL_put_38 hl (k := 6) rfl rfl (by decide) rfl (fun ls hl => ?_)
        refine lv_goto (tgt := 21) hx hb dL_put_41 (by decide) ?_
        exact ihg18 _ _ _ _ _ hX hS (lv_sub hl [1, 2, 3, 4, 5, 6, 0] rfl) hf
  exact Lg18 FU _ _ _ _ _ hX hS (lv_sub hl [1, 2, 3, 4, 5, 6, 0] rfl) hf

theorem q_l_count : VWs yL_count cL_count 3 (some .int) 1 := ⟨a_619, a_15, a_618, by decide +kernel⟩
set_option maxRecDepth 100000 in
set_option maxHeartbeats 4000000 in
theorem c_l_count {l : Launch} {D : va_G} {cA : Nat → ClassId} {A : Nat → Prop} {ad : Nat → Nat} {K : List Nat} (hKK : ∀ c ∈ La, c ∈ K) {x1 : Int32} {M : Lt} {r : Int32} (hf : l_count x1 = some r) : Ct l D cA A yL_count cL_count 3 (some .int) 0 0 0 [.int x1] (LX D cA A K ad M) (some (.int r)) (LX D cA A K ad M) := by
  refine Ct_of (by decide +kernel) (Nat.le_of_ble_eq_true rfl) ?_
  intro p e s m args below meth c ls hC hr hlk hnm hX hKX hl
  have hx := hC.1
  have hb := hC.2.1
  have hS : va_S A s.heap s.heap [] := va_S.rf
  have hl : lv_has ls 3 [(0, .int x1)] := hl
  unfold l_count at hf
  refine lv_iconst (v := 0) hx hb dL_count_0 (by decide) ?_
  refine lv_istore_n (lv' := [(1, .int 0), (0, .int x1)]) hx hb dL_count_1 rfl hl (by decide) rfl (fun ls hl => ?_)
  refine lv_iload_n hx hb dL_count_2 rfl (lv_at hl 1 rfl) ?_
  refine lv_istore_n (lv' := [(2, .int x1), (1, .int 0), (0, .int x1)]) hx hb dL_count_3 rfl hl (by decide) rfl (fun ls hl => ?_)
  obtain ⟨g5, g50, g5s, hf⟩ := lp2_e hf
  have Lg5 : ∀ (n : Nat) (x3 : Int32) (x4 : Int32) (H : Heap) (locs : List Loc) (ls : Array Slot), LX D cA A K ad M H → va_S A s.heap H locs → lv_has ls 3 [(1, .int x3), (2, .int x4)] → g5 n x3 x4 = some r → W p l e (RM 0 0 0) s m args below meth c H locs 0 0 (MQ below (CtQ A (some (.int r)) (LX D cA A K ad M)) args s 0 0 A) (F0 m 4 ls []) := by
    intro n
    induction n with
    | zero => intro x3 x4 H locs ls hX hS hl hf; rw [g50] at hf; cases hf
    | succ n ihg5 =>
      intro x3 x4 H locs ls hX hS hl hf
      rw [g5s] at hf
      refine lv_iload_n hx hb dL_count_4 rfl (lv_at hl 1 rfl) ?_
      refine lv_if_eq (tgt := 20) hx hb dL_count_5 (by decide) (fun c6 => ?_) (fun c6 => ?_)
      · have hf := it_t c6 hf
        refine lv_iload_n hx hb dL_count_20 rfl (lv_at hl 0 rfl) ?_
        cases hf
        exact Ct_ri hx hb hr hlk hX hS dL_count_21
      · have hf := it_f c6 hf
        refine lv_iinc (v := (x3 + 1)) (lv' := [(1, .int (x3 + 1)), (2, .int x4)]) hx hb dL_count_8 hl (k := 0) rfl rfl (by decide) rfl (fun ls hl => ?_)
        refine lv_iload_n hx hb dL_count_11 rfl (lv_at hl 1 rfl) ?_
        refine lv_iload_n hx hb dL_count_12 rfl (lv_at hl 1 rfl) ?_
        refine lv_iconst (v := 1) hx hb dL_count_13 (by decide) ?_
        refine lv_isub hx hb dL_count_14 ?_
        refine lv_iand hx hb dL_count_15 ?_
        refine lv_istore_n (lv' := [(2, .int (x4 &&& (x4 - 1))), (1, .int (x3 + 1))]) hx hb dL_count_16 rfl hl (by decide) rfl (fun ls hl => ?_)
        refine lv_goto (tgt := 4) hx hb dL_count_17 (by decide) ?_
        exact ihg5 _ _ _ _ _ hX hS (lv_sub hl [1, 0] rfl) hf
  exact Lg5 FU _ _ _ _ _ hX hS (lv_sub hl [1, 0] rfl) hf

theorem q_l_least : VWs yL_least cL_least 11 (some .int) 5 := ⟨a_622, a_15, a_621, by decide +kernel⟩
set_option maxRecDepth 100000 in
set_option maxHeartbeats 4000000 in
theorem c_l_least {l : Launch} {D : va_G} {cA : Nat → ClassId} {A : Nat → Prop} {ad : Nat → Nat} {K : List Nat} (hKK : ∀ c ∈ La, c ∈ K) {x5 : Int32} {M : Lt} {r : Int32} {M' : Lt} (hf : l_least x5 M = some (r, M')) : Ct l D cA A yL_least cL_least 11 (some .int) 4 0 0 [.ref (ad 0), .ref (ad 1), .ref (ad 2), .ref (ad 6), .int x5] (LX D cA A K ad M) (some (.int r)) (LX D cA A K ad M') := by
  refine Ct_of (by decide +kernel) (Nat.le_of_ble_eq_true rfl) ?_
  intro p e s m args below meth c ls hC hr hlk hnm hX hKX hl
  have hx := hC.1
  have hb := hC.2.1
  have hS : va_S A s.heap s.heap [] := va_S.rf
  have hl : lv_has ls 11 [(0, .ref (ad 0)), (1, .ref (ad 1)), (2, .ref (ad 2)), (3, .ref (ad 6)), (4, .int x5)] := hl
  unfold l_least at hf
  refine lv_aload_n hx hb dL_least_0 rfl (lv_at hl 0 rfl) ?_
  refine lv_iload hx hb dL_least_1 (lv_at hl 4 rfl) ?_
  obtain ⟨h8, j7, ej7, hf⟩ := rd_e hf
  refine lald hx hb hKX.1 hX (hKK 0 (by decide)) h8 ej7 dL_least_3 ?_
  refine lv_bipush (v := 7) hx hb dL_least_4 (by decide) ?_
  refine lv_iand hx hb dL_least_6 ?_
  refine lv_istore (lv' := [(5, .int ((M 0 j7) &&& 7)), (0, .ref (ad 0)), (1, .ref (ad 1)), (2, .ref (ad 2)), (3, .ref (ad 6)), (4, .int x5)]) hx hb dL_least_7 hl (by decide) rfl (fun ls hl => ?_)
  refine lv_aload_n hx hb dL_least_9 rfl (lv_at hl 1 rfl) ?_
  refine lv_iconst (v := 3) hx hb dL_least_10 (by decide) ?_
  refine lv_iload hx hb dL_least_11 (lv_at hl 5 rfl) ?_
  refine lv_iadd hx hb dL_least_13 ?_
  obtain ⟨h10, j9, ej9, hf⟩ := rd_e hf
  refine lald hx hb hKX.1 hX (hKK 0 (by decide)) h10 ej9 dL_least_14 ?_
  refine lv_istore (lv' := [(6, .int (M 0 j9)), (5, .int ((M 0 j7) &&& 7)), (0, .ref (ad 0)), (1, .ref (ad 1)), (2, .ref (ad 2)), (3, .ref (ad 6)), (4, .int x5)]) hx hb dL_least_15 hl (by decide) rfl (fun ls hl => ?_)
  refine lv_iconst (v := 0) hx hb dL_least_17 (by decide) ?_
  refine lv_istore (lv' := [(7, .int 0), (6, .int (M 0 j9)), (5, .int ((M 0 j7) &&& 7)), (0, .ref (ad 0)), (1, .ref (ad 1)), (2, .ref (ad 2)), (3, .ref (ad 6)), (4, .int x5)]) hx hb dL_least_18 hl (by decide) rfl (fun ls hl => ?_)
  refine lv_iconst (v := 0) hx hb dL_least_20 (by decide) ?_
  refine lv_istore (lv' := [(8, .int 0), (7, .int 0), (6, .int (M 0 j9)), (5, .int ((M 0 j7) &&& 7)), (0, .ref (ad 0)), (1, .ref (ad 1)), (2, .ref (ad 2)), (3, .ref (ad 6)), (4, .int x5)]) hx hb dL_least_21 hl (by decide) rfl (fun ls hl => ?_)
  obtain ⟨g13, g130, g13s, hf⟩ := lp2_e hf
  have Lg13 : ∀ (n : Nat) (x11 : Int32) (x12 : Int32) (H : Heap) (locs : List Loc) (ls : Array Slot), LX D cA A K ad M H → va_S A s.heap H locs → lv_has ls 11 [(0, .ref (ad 0)), (1, .ref (ad 1)), (2, .ref (ad 2)), (3, .ref (ad 6)), (4, .int x5), (5, .int ((M 0 j7) &&& 7)), (6, .int (M 0 j9)), (7, .int x11), (8, .int x12)] → g13 n x11 x12 = some (r, M') → W p l e (RM 4 0 0) s m args below meth c H locs 0 0 (MQ below (CtQ A (some (.int r)) (LX D cA A K ad M')) args s 0 0 A) (F0 m 23 ls []) := by
    intro n
    induction n with
    | zero => intro x11 x12 H locs ls hX hS hl hf; rw [g130] at hf; cases hf
    | succ n ihg13 =>
      intro x11 x12 H locs ls hX hS hl hf
      rw [g13s] at hf
      refine lv_iload hx hb dL_least_23 (lv_at hl 8 rfl) ?_
      refine lv_bipush (v := 27) hx hb dL_least_25 (by decide) ?_
      refine lv_icmp_ge (tgt := 57) hx hb dL_least_27 (by decide) (fun c14 => ?_) (fun c14 => ?_)
      · have hf := it_t c14 hf
        refine lv_iconst (v := (-1)) hx hb dL_least_57 (by decide) ?_
        refine lv_istore (lv' := [(8, .int (-1)), (0, .ref (ad 0)), (1, .ref (ad 1)), (2, .ref (ad 2)), (3, .ref (ad 6)), (4, .int x5), (5, .int ((M 0 j7) &&& 7)), (6, .int (M 0 j9)), (7, .int x11)]) hx hb dL_least_58 hl (by decide) rfl (fun ls hl => ?_)
        refine lv_iload hx hb dL_least_60 (lv_at hl 8 rfl) ?_
        refine lv_istore (lv' := [(9, .int x11), (8, .int (-1)), (0, .ref (ad 0)), (1, .ref (ad 1)), (2, .ref (ad 2)), (3, .ref (ad 6)), (4, .int x5), (5, .int ((M 0 j7) &&& 7)), (6, .int (M 0 j9)), (7, .int x11)]) hx hb dL_least_62 hl (by decide) rfl (fun ls hl => ?_)
        obtain ⟨g18, g180, g18s, hf⟩ := lp3_e hf
        have Lg18 : ∀ (n : Nat) (x15 : Int32) (x16 : Int32) (S17 : Lt) (H : Heap) (locs : List Loc) (ls : Array Slot), LX D cA A K ad S17 H → va_S A s.heap H locs → lv_has ls 11 [(0, .ref (ad 0)), (1, .ref (ad 1)), (2, .ref (ad 2)), (3, .ref (ad 6)), (4, .int x5), (6, .int (M 0 j9)), (7, .int x11), (8, .int x15), (9, .int x16)] → g18 n x15 x16 S17 = some (r, M') → W p l e (RM 4 0 0) s m args below meth c H locs 0 0 (MQ below (CtQ A (some (.int r)) (LX D cA A K ad M')) args s 0 0 A) (F0 m 64 ls []) := by
          intro n
          induction n with
          | zero => intro x15 x16 S17 H locs ls hX hS hl hf; rw [g180] at hf; cases hf
          | succ n ihg18 =>
            intro x15 x16 S17 H locs ls hX hS hl hf
            rw [g18s] at hf
            refine lv_iload hx hb dL_least_64 (lv_at hl 8 rfl) ?_
            refine lv_if_lt (tgt := 169) hx hb dL_least_66 (by decide) (fun c19 => ?_) (fun c19 => ?_)
            · have hf := it_t c19 hf
              refine lv_aload_n hx hb dL_least_169 rfl (lv_at hl 0 rfl) ?_
              refine lv_iconst (v := 3) hx hb dL_least_170 (by decide) ?_
              refine lv_iload hx hb dL_least_171 (lv_at hl 4 rfl) ?_
              refine lv_iadd hx hb dL_least_173 ?_
              refine lv_iload hx hb dL_least_174 (lv_at hl 5 rfl) ?_
              obtain ⟨h21, j20, ej20, hf⟩ := rd_e hf
              refine lasv hx hb hKX.1 hX hS (hKK 0 (by decide)) h21 ej20 dL_least_176 (fun H locs hX hS => ?_)
              obtain ⟨S22, eS22, hf⟩ := lt_e hf
              rw [← eS22] at hX
              refine lv_iload hx hb dL_least_177 (lv_at hl 7 rfl) ?_
              cases hf
              exact Ct_ri hx hb hr hlk hX hS dL_least_179
            · have hf := it_f c19 hf
              refine lv_iload hx hb dL_least_69 (lv_at hl 8 rfl) ?_
              refine lv_aload_n hx hb dL_least_71 rfl (lv_at hl 0 rfl) ?_
              refine lv_iload hx hb dL_least_72 (lv_at hl 4 rfl) ?_
              obtain ⟨h24, j23, ej23, hf⟩ := rd_e hf
              refine lald hx hb hKX.1 hX (hKK 0 (by decide)) h24 ej23 dL_least_74 ?_
              refine lv_iconst (v := 3) hx hb dL_least_75 (by decide) ?_
              refine lv_ishr hx hb dL_least_76 ?_
              obtain ⟨z25, hz25, hf⟩ := cb_e hf
              refine lSi (As := [.int x16, .int ((S17 0 j23) >>> ((3 : Int32) &&& 31))]) (rest := []) hC (c_l_parts hKK hz25) q_l_parts a_596 (Nat.le_of_ble_eq_true rfl) hX hKX rfl hl.1 (Nat.le_of_ble_eq_true rfl) dL_least_77 ⟨Nat.le_of_ble_eq_true rfl, Nat.le_of_ble_eq_true rfl⟩ hS (fun H locs hX hS => ?_)
              obtain ⟨z26, hz26, hf⟩ := cb_e hf
              refine lSi (As := [.int z25]) (rest := []) hC (c_l_count hKK hz26) q_l_count a_617 (Nat.le_of_ble_eq_true rfl) hX hKX rfl hl.1 (Nat.le_of_ble_eq_true rfl) dL_least_80 ⟨Nat.le_of_ble_eq_true rfl, Nat.le_of_ble_eq_true rfl⟩ hS (fun H locs hX hS => ?_)
              refine lv_iload hx hb dL_least_83 (lv_at hl 8 rfl) ?_
              obtain ⟨z27, hz27, hf⟩ := cb_e hf
              refine lSi (As := [.int x16]) (rest := [.int z26]) hC (c_l_count hKK hz27) q_l_count a_617 (Nat.le_of_ble_eq_true rfl) hX hKX rfl hl.1 (Nat.le_of_ble_eq_true rfl) dL_least_85 ⟨Nat.le_of_ble_eq_true rfl, Nat.le_of_ble_eq_true rfl⟩ hS (fun H locs hX hS => ?_)
              obtain ⟨k30, hk30, hf⟩ := jn2_e hf
              have Jk30 : ∀ (x28 : Int32) (S29 : Lt) (H : Heap) (locs : List Loc) (ls : Array Slot), LX D cA A K ad S29 H → va_S A s.heap H locs → lv_has ls 11 [(0, .ref (ad 0)), (1, .ref (ad 1)), (2, .ref (ad 2)), (3, .ref (ad 6)), (4, .int x5), (6, .int (M 0 j9)), (7, .int x11), (8, .int x28), (9, .int x16)] → k30 x28 S29 = some (r, M') → W p l e (RM 4 0 0) s m args below meth c H locs 0 0 (MQ below (CtQ A (some (.int r)) (LX D cA A K ad M')) args s 0 0 A) (F0 m 148 ls []) := by
                intro x28 S29 H locs ls hX hS hl hf
                rw [hk30] at hf
                refine lv_iload hx hb dL_least_148 (lv_at hl 8 rfl) ?_
                refine lv_if_ne (tgt := 157) hx hb dL_least_150 (by decide) (fun c31 => ?_) (fun c31 => ?_)
                · have hf := it_f c31 hf
                  refine lv_iload hx hb dL_least_157 (lv_at hl 8 rfl) ?_
                  refine lv_iconst (v := 1) hx hb dL_least_159 (by decide) ?_
                  refine lv_isub hx hb dL_least_160 ?_
                  refine lv_iload hx hb dL_least_161 (lv_at hl 6 rfl) ?_
                  refine lv_iand hx hb dL_least_163 ?_
                  refine lv_istore (lv' := [(9, .int ((x16 - 1) &&& x11)), (0, .ref (ad 0)), (1, .ref (ad 1)), (2, .ref (ad 2)), (3, .ref (ad 6)), (4, .int x5), (6, .int (M 0 j9)), (7, .int x11), (8, .int x28)]) hx hb dL_least_164 hl (by decide) rfl (fun ls hl => ?_)
                  refine lv_goto (tgt := 64) hx hb dL_least_166 (by decide) ?_
                  exact ihg18 _ _ _ _ _ _ hX hS (lv_sub hl [1, 2, 3, 4, 5, 6, 7, 8, 0] rfl) hf
                · have hf := it_t c31 hf
                  refine lv_iconst (v := (-1)) hx hb dL_least_153 (by decide) ?_
                  refine lv_goto (tgt := 164) hx hb dL_least_154 (by decide) ?_
                  refine lv_istore (lv' := [(9, .int (-1)), (0, .ref (ad 0)), (1, .ref (ad 1)), (2, .ref (ad 2)), (3, .ref (ad 6)), (4, .int x5), (6, .int (M 0 j9)), (7, .int x11), (8, .int x28)]) hx hb dL_least_164 hl (by decide) rfl (fun ls hl => ?_)
                  refine lv_goto (tgt := 64) hx hb dL_least_166 (by decide) ?_
                  exact ihg18 _ _ _ _ _ _ hX hS (lv_sub hl [1, 2, 3, 4, 5, 6, 7, 8, 0] rfl) hf
              refine lv_icmp_eq (tgt := 94) hx hb dL_least_88 (by decide) (fun c32 => ?_) (fun c32 => ?_)
              · have hf := it_t c32 hf
                refine lv_aload_n hx hb dL_least_94 rfl (lv_at hl 0 rfl) ?_
                refine lv_iconst (v := 3) hx hb dL_least_95 (by decide) ?_
                refine lv_iload hx hb dL_least_96 (lv_at hl 4 rfl) ?_
                refine lv_iadd hx hb dL_least_98 ?_
                refine lv_iload hx hb dL_least_99 (lv_at hl 8 rfl) ?_
                obtain ⟨h34, j33, ej33, hf⟩ := rd_e hf
                refine lasv hx hb hKX.1 hX hS (hKK 0 (by decide)) h34 ej33 dL_least_101 (fun H locs hX hS => ?_)
                obtain ⟨S35, eS35, hf⟩ := lt_e hf
                rw [← eS35] at hX
                refine lv_aload_n hx hb dL_least_102 rfl (lv_at hl 0 rfl) ?_
                refine lv_aload_n hx hb dL_least_103 rfl (lv_at hl 1 rfl) ?_
                refine lv_aload_n hx hb dL_least_104 rfl (lv_at hl 2 rfl) ?_
                refine lv_aload_n hx hb dL_least_105 rfl (lv_at hl 3 rfl) ?_
                obtain ⟨S37, hz36, hf⟩ := cb_e hf
                refine lSv (As := [.ref (ad 0), .ref (ad 1), .ref (ad 2), .ref (ad 6)]) (rest := []) hC (c_l_lay hKK hz36) q_l_lay a_584 (Nat.le_of_ble_eq_true rfl) hX hKX rfl hl.1 (Nat.le_of_ble_eq_true rfl) dL_least_106 ⟨Nat.le_of_ble_eq_true rfl, Nat.le_of_ble_eq_true rfl⟩ hS (fun H locs hX hS => ?_)
                refine lv_iload hx hb dL_least_109 (lv_at hl 8 rfl) ?_
                refine lv_iload hx hb dL_least_111 (lv_at hl 5 rfl) ?_
                refine lv_ixor hx hb dL_least_113 ?_
                obtain ⟨z38, hz38, hf⟩ := cb_e hf
                refine lSi (As := [.int (x16 ^^^ (M 0 j9))]) (rest := []) hC (c_l_count hKK hz38) q_l_count a_617 (Nat.le_of_ble_eq_true rfl) hX hKX rfl hl.1 (Nat.le_of_ble_eq_true rfl) dL_least_114 ⟨Nat.le_of_ble_eq_true rfl, Nat.le_of_ble_eq_true rfl⟩ hS (fun H locs hX hS => ?_)
                refine lv_istore (lv' := [(10, .int z38), (0, .ref (ad 0)), (1, .ref (ad 1)), (2, .ref (ad 2)), (3, .ref (ad 6)), (4, .int x5), (6, .int (M 0 j9)), (7, .int x11), (8, .int x15), (9, .int x16)]) hx hb dL_least_117 hl (by decide) rfl (fun ls hl => ?_)
                refine lv_aload_n hx hb dL_least_119 rfl (lv_at hl 3 rfl) ?_
                refine lv_aload_n hx hb dL_least_120 rfl (lv_at hl 4 rfl) ?_
                refine lv_iconst (v := 2) hx hb dL_least_121 (by decide) ?_
                obtain ⟨h40, j39, ej39, hf⟩ := rd_e hf
                refine lald hx hb hKX.1 hX (hKK 6 (by decide)) h40 ej39 dL_least_122 ?_
                refine lv_iconst (v := 1) hx hb dL_least_123 (by decide) ?_
                refine lv_isub hx hb dL_least_124 ?_
                obtain ⟨h42, j41, ej41, hf⟩ := rd_e hf
                refine lald hx hb hKX.1 hX (hKK 2 (by decide)) h42 ej41 dL_least_125 ?_
                refine lv_aload_n hx hb dL_least_126 rfl (lv_at hl 4 rfl) ?_
                refine lv_iconst (v := 3) hx hb dL_least_127 (by decide) ?_
                obtain ⟨h44, j43, ej43, hf⟩ := rd_e hf
                refine lald hx hb hKX.1 hX (hKK 6 (by decide)) h44 ej43 dL_least_128 ?_
                refine lv_icmp_ne (tgt := 148) hx hb dL_least_129 (by decide) (fun c45 => ?_) (fun c45 => ?_)
                · have hf := it_f c45 hf
                  exact Jk30 _ _ _ _ _ hX hS (lv_sub hl [1, 2, 3, 4, 5, 6, 7, 8, 9] rfl) hf
                · have hf := it_t c45 hf
                  refine lv_iload hx hb dL_least_132 (lv_at hl 8 rfl) ?_
                  refine lv_if_lt (tgt := 144) hx hb dL_least_134 (by decide) (fun c46 => ?_) (fun c46 => ?_)
                  · have hf := it_t c46 hf
                    refine lv_iload hx hb dL_least_144 (lv_at hl 0 rfl) ?_
                    refine lv_istore (lv' := [(8, .int z38), (10, .int z38), (0, .ref (ad 0)), (1, .ref (ad 1)), (2, .ref (ad 2)), (3, .ref (ad 6)), (4, .int x5), (6, .int (M 0 j9)), (7, .int x11), (9, .int x16)]) hx hb dL_least_146 hl (by decide) rfl (fun ls hl => ?_)
                    exact Jk30 _ _ _ _ _ hX hS (lv_sub hl [2, 3, 4, 5, 6, 7, 8, 0, 9] rfl) hf
                  · have hf := it_f c46 hf
                    refine lv_iload hx hb dL_least_137 (lv_at hl 0 rfl) ?_
                    refine lv_iload hx hb dL_least_139 (lv_at hl 8 rfl) ?_
                    refine lv_icmp_ge (tgt := 148) hx hb dL_least_141 (by decide) (fun c47 => ?_) (fun c47 => ?_)
                    · have hf := it_t c47 hf
                      exact Jk30 _ _ _ _ _ hX hS (lv_sub hl [1, 2, 3, 4, 5, 6, 7, 8, 9] rfl) hf
                    · have hf := it_f c47 hf
                      refine lv_iload hx hb dL_least_144 (lv_at hl 0 rfl) ?_
                      refine lv_istore (lv' := [(8, .int z38), (10, .int z38), (0, .ref (ad 0)), (1, .ref (ad 1)), (2, .ref (ad 2)), (3, .ref (ad 6)), (4, .int x5), (6, .int (M 0 j9)), (7, .int x11), (9, .int x16)]) hx hb dL_least_146 hl (by decide) rfl (fun ls hl => ?_)
                      exact Jk30 _ _ _ _ _ hX hS (lv_sub hl [2, 3, 4, 5, 6, 7, 8, 0, 9] rfl) hf
              · have hf := it_f c32 hf
                refine lv_goto (tgt := 148) hx hb dL_least_91 (by decide) ?_
                exact Jk30 _ _ _ _ _ hX hS (lv_sub hl [0, 1, 2, 3, 4, 5, 6, 7, 8] rfl) hf
        exact Lg18 FU _ _ _ _ _ _ hX hS (lv_sub hl [2, 3, 4, 5, 6, 8, 9, 1, 0] rfl) hf
      · have hf := it_f c14 hf
        refine lv_iload hx hb dL_least_30 (lv_at hl 8 rfl) ?_
        refine lv_iload hx hb dL_least_32 (lv_at hl 5 rfl) ?_
        obtain ⟨z48, hz48, hf⟩ := cb_e hf
        refine lSi (As := [.int x12, .int ((M 0 j7) &&& 7)]) (rest := []) hC (c_l_part hKK hz48) q_l_part a_599 (Nat.le_of_ble_eq_true rfl) hX hKX rfl hl.1 (Nat.le_of_ble_eq_true rfl) dL_least_34 ⟨Nat.le_of_ble_eq_true rfl, Nat.le_of_ble_eq_true rfl⟩ hS (fun H locs hX hS => ?_)
        refine lv_iload hx hb dL_least_37 (lv_at hl 8 rfl) ?_
        refine lv_icmp_ne (tgt := 51) hx hb dL_least_39 (by decide) (fun c49 => ?_) (fun c49 => ?_)
        · have hf := it_f c49 hf
          refine lv_iinc (v := (x12 + 1)) (lv' := [(8, .int (x12 + 1)), (0, .ref (ad 0)), (1, .ref (ad 1)), (2, .ref (ad 2)), (3, .ref (ad 6)), (4, .int x5), (5, .int ((M 0 j7) &&& 7)), (6, .int (M 0 j9)), (7, .int x11)]) hx hb dL_least_51 hl (k := 8) rfl rfl (by decide) rfl (fun ls hl => ?_)
          refine lv_goto (tgt := 23) hx hb dL_least_54 (by decide) ?_
          exact ihg13 _ _ _ _ _ hX hS (lv_sub hl [1, 2, 3, 4, 5, 6, 7, 8, 0] rfl) hf
        · have hf := it_t c49 hf
          refine lv_iload hx hb dL_least_42 (lv_at hl 7 rfl) ?_
          refine lv_iconst (v := 1) hx hb dL_least_44 (by decide) ?_
          refine lv_iload hx hb dL_least_45 (lv_at hl 8 rfl) ?_
          refine lv_ishl hx hb dL_least_47 ?_
          refine lv_ior hx hb dL_least_48 ?_
          refine lv_istore (lv' := [(7, .int (x11 ||| ((1 : Int32) <<< (x12 &&& 31)))), (0, .ref (ad 0)), (1, .ref (ad 1)), (2, .ref (ad 2)), (3, .ref (ad 6)), (4, .int x5), (5, .int ((M 0 j7) &&& 7)), (6, .int (M 0 j9)), (8, .int x12)]) hx hb dL_least_49 hl (by decide) rfl (fun ls hl => ?_)
          refine lv_iinc (v := (x12 + 1)) (lv' := [(8, .int (x12 + 1)), (7, .int (x11 ||| ((1 : Int32) <<< (x12 &&& 31)))), (0, .ref (ad 0)), (1, .ref (ad 1)), (2, .ref (ad 2)), (3, .ref (ad 6)), (4, .int x5), (5, .int ((M 0 j7) &&& 7)), (6, .int (M 0 j9))]) hx hb dL_least_51 hl (k := 8) rfl rfl (by decide) rfl (fun ls hl => ?_)
          refine lv_goto (tgt := 23) hx hb dL_least_54 (by decide) ?_
          exact ihg13 _ _ _ _ _ hX hS (lv_sub hl [2, 3, 4, 5, 6, 7, 8, 1, 0] rfl) hf
  exact Lg13 FU _ _ _ _ _ hX hS (lv_sub hl [4, 5, 6, 7, 8, 3, 2, 1, 0] rfl) hf

theorem q_l_low : VWs yL_low cL_low 2 (some .int) 2 := ⟨a_140, a_15, a_139, by decide +kernel⟩
set_option maxRecDepth 100000 in
set_option maxHeartbeats 4000000 in
theorem c_l_low {l : Launch} {D : va_G} {cA : Nat → ClassId} {A : Nat → Prop} {ad : Nat → Nat} {K : List Nat} (hKK : ∀ c ∈ La, c ∈ K) {x1 : Int32} {x2 : Int32} {M : Lt} {r : Int32} (hf : l_low x1 x2 = some r) : Ct l D cA A yL_low cL_low 2 (some .int) 0 0 0 [.int x1, .int x2] (LX D cA A K ad M) (some (.int r)) (LX D cA A K ad M) := by
  refine Ct_of (by decide +kernel) (Nat.le_of_ble_eq_true rfl) ?_
  intro p e s m args below meth c ls hC hr hlk hnm hX hKX hl
  have hx := hC.1
  have hb := hC.2.1
  have hS : va_S A s.heap s.heap [] := va_S.rf
  have hl : lv_has ls 2 [(0, .int x1), (1, .int x2)] := hl
  unfold l_low at hf
  refine lv_iload_n hx hb dL_low_0 rfl (lv_at hl 0 rfl) ?_
  refine lv_iconst (v := 1) hx hb dL_low_1 (by decide) ?_
  refine lv_iushr (v := (ushr x1 1)) hx hb dL_low_2 rfl ?_
  refine lv_iload_n hx hb dL_low_3 rfl (lv_at hl 1 rfl) ?_
  obtain ⟨h4, hf⟩ := dv_e hf
  refine lv_irem hx hb dL_low_4 h4 ?_
  cases hf
  exact Ct_ri hx hb hr hlk hX hS dL_low_5
