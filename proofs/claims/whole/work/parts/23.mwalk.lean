theorem q_m_thrown : VWv RX11 yX11_thrown cX11_thrown 1 (some .int) 0 := ⟨a_1081, a_55, a_1079, a_1080, by decide +kernel⟩
set_option maxRecDepth 100000 in
set_option maxHeartbeats 4000000 in
theorem c_m_thrown {l : Launch} {D : va_G} {cA : Nat → ClassId} {A : Nat → Prop} {ad : Nat → Nat}  {S : St} {r : Int32} (hf : m_thrown S = some r) : Ct l D cA A yX11_thrown cX11_thrown 1 (some .int) 0 0 0 [.ref (ad 0)] (MX D cA A ad S) (some (.int r)) (MX D cA A ad S) := by
  refine Ct_of (by decide +kernel) (Nat.le_of_ble_eq_true rfl) ?_
  intro p e s m args below meth c ls hC hr hlk hnm hX hKX hl
  have hK := hKX.1
  have hx := hC.1
  have hb := hC.2.1
  have hS : va_S A s.heap s.heap [] := va_S.rf
  have hX : MX D cA A ad S s.heap := hX
  have hl : lv_has ls 1 [(0, .ref (ad 0))] := hl
  unfold m_thrown at hf
  refine lv_aload_n hx hb dX11_thrown_0 rfl (lv_at hl 0 rfl) ?_
  refine mget (v := .int (S.1 0)) hx hb hC hK hX 0 (by decide) a_968 rfl dX11_thrown_1 ?_
  cases hf
  exact Ct_ri hx hb hr hlk hX hS dX11_thrown_4

theorem q_m_in : VWs yX11_in cX11_in 3 (some .boolean) 3 := ⟨a_1088, a_55, a_1087, by decide +kernel⟩
set_option maxRecDepth 100000 in
set_option maxHeartbeats 4000000 in
theorem c_m_in {l : Launch} {D : va_G} {cA : Nat → ClassId} {A : Nat → Prop} {ad : Nat → Nat} {x1 : Int32} {x2 : Int32} {x3 : Int32} {S : St} {r : Int32} (hf : m_in x1 x2 x3 = some r) : Ct l D cA A yX11_in cX11_in 3 (some .boolean) 0 0 0 [.int x1, .int x2, .int x3] (MX D cA A ad S) (some (.int r)) (MX D cA A ad S) := by
  refine Ct_of (by decide +kernel) (Nat.le_of_ble_eq_true rfl) ?_
  intro p e s m args below meth c ls hC hr hlk hnm hX hKX hl
  have hK := hKX.1
  have hx := hC.1
  have hb := hC.2.1
  have hS : va_S A s.heap s.heap [] := va_S.rf
  have hX : MX D cA A ad S s.heap := hX
  have hl : lv_has ls 3 [(0, .int x1), (1, .int x2), (2, .int x3)] := hl
  unfold m_in at hf
  refine lv_iload_n hx hb dX11_in_0 rfl (lv_at hl 0 rfl) ?_
  refine lv_iload_n hx hb dX11_in_1 rfl (lv_at hl 1 rfl) ?_
  refine lv_icmp_lt (tgt := 14) hx hb dX11_in_2 (by decide) (fun c5 => ?_) (fun c5 => ?_)
  · have hf := it_t c5 hf
    refine lv_iconst (v := 0) hx hb dX11_in_14 (by decide) ?_
    cases hf
    exact Ct_rz hx hb hr hlk nz0 hX hS dX11_in_15
  · have hf := it_f c5 hf
    refine lv_iload_n hx hb dX11_in_5 rfl (lv_at hl 0 rfl) ?_
    refine lv_iload_n hx hb dX11_in_6 rfl (lv_at hl 2 rfl) ?_
    refine lv_icmp_gt (tgt := 14) hx hb dX11_in_7 (by decide) (fun c6 => ?_) (fun c6 => ?_)
    · have hf := it_t c6 hf
      refine lv_iconst (v := 0) hx hb dX11_in_14 (by decide) ?_
      cases hf
      exact Ct_rz hx hb hr hlk nz0 hX hS dX11_in_15
    · have hf := it_f c6 hf
      refine lv_iconst (v := 1) hx hb dX11_in_10 (by decide) ?_
      refine lv_goto (tgt := 15) hx hb dX11_in_11 (by decide) ?_
      cases hf
      exact Ct_rz hx hb hr hlk nz1 hX hS dX11_in_15

theorem q_m_digit : VWv RX11 yX11_digit cX11_digit 3 (some .int) 2 := ⟨a_1109, a_55, a_1108, a_18, by decide +kernel⟩
set_option maxRecDepth 100000 in
set_option maxHeartbeats 4000000 in
theorem c_m_digit {l : Launch} {D : va_G} {cA : Nat → ClassId} {A : Nat → Prop} {ad : Nat → Nat} {x1 : Int32} {x2 : Int32} {S : St} {r : Int32} (hf : m_digit x1 x2 S = some r) : Ct l D cA A yX11_digit cX11_digit 3 (some .int) 0 0 0 [.ref (ad 0), .int x1, .int x2] (MX D cA A ad S) (some (.int r)) (MX D cA A ad S) := by
  refine Ct_of (by decide +kernel) (Nat.le_of_ble_eq_true rfl) ?_
  intro p e s m args below meth c ls hC hr hlk hnm hX hKX hl
  have hK := hKX.1
  have hx := hC.1
  have hb := hC.2.1
  have hS : va_S A s.heap s.heap [] := va_S.rf
  have hX : MX D cA A ad S s.heap := hX
  have hl : lv_has ls 3 [(0, .ref (ad 0)), (1, .int x1), (2, .int x2)] := hl
  unfold m_digit at hf
  refine lv_iload_n hx hb dX11_digit_0 rfl (lv_at hl 1 rfl) ?_
  refine lv_aload_n hx hb dX11_digit_1 rfl (lv_at hl 0 rfl) ?_
  refine mget (v := .ref (ad 1)) hx hb hC hK hX 1 (by decide) a_969 rfl dX11_digit_2 ?_
  refine lv_iload_n hx hb dX11_digit_5 rfl (lv_at hl 2 rfl) ?_
  obtain ⟨h5, j4, ej4, hf⟩ := rd_e hf
  refine mald hx hb hC hK hX (by decide) h5 ej4 dX11_digit_6 ?_
  obtain ⟨h6, hf⟩ := dv_e hf
  refine lv_idiv hx hb dX11_digit_7 h6 ?_
  refine lv_bipush (v := 10) hx hb dX11_digit_8 (by decide) ?_
  have h7 : ¬ (10 : Int32) = 0 := by decide
  refine lv_irem hx hb dX11_digit_10 h7 ?_
  cases hf
  exact Ct_ri hx hb hr hlk hX hS dX11_digit_11

theorem q_m_part : VWv RX11 yX11_part cX11_part 5 (some .int) 2 := ⟨a_1105, a_55, a_1104, a_17, by decide +kernel⟩
set_option maxRecDepth 100000 in
set_option maxHeartbeats 4000000 in
theorem c_m_part {l : Launch} {D : va_G} {cA : Nat → ClassId} {A : Nat → Prop} {ad : Nat → Nat} {x1 : Int32} {x2 : Int32} {S : St} {r : Int32} (hf : m_part x1 x2 S = some r) : Ct l D cA A yX11_part cX11_part 5 (some .int) 1 0 0 [.ref (ad 0), .int x1, .int x2] (MX D cA A ad S) (some (.int r)) (MX D cA A ad S) := by
  refine Ct_of (by decide +kernel) (Nat.le_of_ble_eq_true rfl) ?_
  intro p e s m args below meth c ls hC hr hlk hnm hX hKX hl
  have hK := hKX.1
  have hx := hC.1
  have hb := hC.2.1
  have hS : va_S A s.heap s.heap [] := va_S.rf
  have hX : MX D cA A ad S s.heap := hX
  have hl : lv_has ls 5 [(0, .ref (ad 0)), (1, .int x1), (2, .int x2)] := hl
  unfold m_part at hf
  refine lv_iconst (v := 0) hx hb dX11_part_0 (by decide) ?_
  refine lv_istore_n (lv' := [(3, .int 0), (0, .ref (ad 0)), (1, .int x1), (2, .int x2)]) hx hb dX11_part_1 rfl hl (by decide) rfl (fun ls hl => ?_)
  refine lv_iconst (v := 0) hx hb dX11_part_2 (by decide) ?_
  refine lv_istore (lv' := [(4, .int 0), (3, .int 0), (0, .ref (ad 0)), (1, .int x1), (2, .int x2)]) hx hb dX11_part_3 hl (by decide) rfl (fun ls hl => ?_)
  obtain ⟨g6, g60, g6s, hf⟩ := lp2_e hf
  have Lg6 : ∀ (n : Nat) (x4 : Int32) (x5 : Int32) (H : Heap) (locs : List Loc) (ls : Array Slot), MX D cA A ad S H → va_S A s.heap H locs → lv_has ls 5 [(0, .ref (ad 0)), (1, .int x1), (2, .int x2), (3, .int x4), (4, .int x5)] → g6 n x4 x5 = some r → W p l e (RM 1 0 0) s m args below meth c H locs 0 0 (MQ below (CtQ A (some (.int r)) (MX D cA A ad S)) args s 0 0 A) (F0 m 5 ls []) := by
    intro n
    induction n with
    | zero => intro x4 x5 H locs ls hX hS hl hf; rw [g60] at hf; cases hf
    | succ n ihg6 =>
      intro x4 x5 H locs ls hX hS hl hf
      rw [g6s] at hf
      refine lv_iload hx hb dX11_part_5 (lv_at hl 4 rfl) ?_
      refine lv_bipush (v := 6) hx hb dX11_part_7 (by decide) ?_
      refine lv_icmp_ge (tgt := 50) hx hb dX11_part_9 (by decide) (fun c7 => ?_) (fun c7 => ?_)
      · have hf := it_t c7 hf
        refine lv_iload_n hx hb dX11_part_50 rfl (lv_at hl 3 rfl) ?_
        cases hf
        exact Ct_ri hx hb hr hlk hX hS dX11_part_51
      · have hf := it_f c7 hf
        refine lv_iload_n hx hb dX11_part_12 rfl (lv_at hl 3 rfl) ?_
        refine lv_iload_n hx hb dX11_part_13 rfl (lv_at hl 2 rfl) ?_
        refine lv_iload hx hb dX11_part_14 (lv_at hl 4 rfl) ?_
        refine lv_ishr hx hb dX11_part_16 ?_
        refine lv_iconst (v := 1) hx hb dX11_part_17 (by decide) ?_
        refine lv_iand hx hb dX11_part_18 ?_
        refine lv_iconst (v := 1) hx hb dX11_part_19 (by decide) ?_
        obtain ⟨k9, hk9, hf⟩ := jn1_e hf
        have Jk9 : ∀ (x8 : Int32) (H : Heap) (locs : List Loc) (ls : Array Slot), MX D cA A ad S H → va_S A s.heap H locs → lv_has ls 5 [(0, .ref (ad 0)), (1, .int x1), (2, .int x2), (4, .int x5)] → k9 x8 = some r → W p l e (RM 1 0 0) s m args below meth c H locs 0 0 (MQ below (CtQ A (some (.int r)) (MX D cA A ad S)) args s 0 0 A) (F0 m 42 ls [.int x8, .int x4]) := by
          intro x8 H locs ls hX hS hl hf
          rw [hk9] at hf
          refine lv_iadd hx hb dX11_part_42 ?_
          refine lv_istore_n (lv' := [(3, .int (x4 + x8)), (0, .ref (ad 0)), (1, .int x1), (2, .int x2), (4, .int x5)]) hx hb dX11_part_43 rfl hl (by decide) rfl (fun ls hl => ?_)
          refine lv_iinc (v := (x5 + 1)) (lv' := [(4, .int (x5 + 1)), (3, .int (x4 + x8)), (0, .ref (ad 0)), (1, .int x1), (2, .int x2)]) hx hb dX11_part_44 hl (k := 4) rfl rfl (by decide) rfl (fun ls hl => ?_)
          refine lv_goto (tgt := 5) hx hb dX11_part_47 (by decide) ?_
          exact ihg6 _ _ _ _ _ hX hS (lv_sub hl [2, 3, 4, 1, 0] rfl) hf
        refine lv_icmp_ne (tgt := 41) hx hb dX11_part_20 (by decide) (fun c10 => ?_) (fun c10 => ?_)
        · have hf := it_f c10 hf
          refine lv_iconst (v := 0) hx hb dX11_part_41 (by decide) ?_
          exact Jk9 _ _ _ _ hX hS (lv_sub hl [0, 1, 2, 4] rfl) hf
        · have hf := it_t c10 hf
          refine lv_aload_n hx hb dX11_part_23 rfl (lv_at hl 0 rfl) ?_
          refine lv_iload_n hx hb dX11_part_24 rfl (lv_at hl 1 rfl) ?_
          refine lv_iload hx hb dX11_part_25 (lv_at hl 4 rfl) ?_
          obtain ⟨z11, hz11, hf⟩ := cb_e hf
          refine mVi (As := [.int x1, .int x5]) (rest := [.int x4]) hC (c_m_digit hz11) q_m_digit a_1106 (Nat.le_of_ble_eq_true rfl) hX hKX rfl hl.1 (Nat.le_of_ble_eq_true rfl) dX11_part_27 hS (fun H locs hX hS => ?_)
          refine lv_aload_n hx hb dX11_part_30 rfl (lv_at hl 0 rfl) ?_
          refine mget (v := .ref (ad 1)) hx hb hC hK hX 1 (by decide) a_969 rfl dX11_part_31 ?_
          refine lv_iload hx hb dX11_part_34 (lv_at hl 4 rfl) ?_
          obtain ⟨h13, j12, ej12, hf⟩ := rd_e hf
          refine mald hx hb hC hK hX (by decide) h13 ej12 dX11_part_36 ?_
          refine lv_imul hx hb dX11_part_37 ?_
          refine lv_goto (tgt := 42) hx hb dX11_part_38 (by decide) ?_
          exact Jk9 _ _ _ _ hX hS (lv_sub hl [0, 1, 2, 4] rfl) hf
  exact Lg6 FU _ _ _ _ _ hX hS (lv_sub hl [2, 3, 4, 1, 0] rfl) hf

theorem q_m_isRow : VWv RX11 yX11_isRow cX11_isRow 3 (some .boolean) 2 := ⟨a_1100, a_55, a_1099, a_16, by decide +kernel⟩
set_option maxRecDepth 100000 in
set_option maxHeartbeats 4000000 in
theorem c_m_isRow {l : Launch} {D : va_G} {cA : Nat → ClassId} {A : Nat → Prop} {ad : Nat → Nat} {x1 : Int32} {x2 : Int32} {S : St} {r : Int32} (hf : m_isRow x1 x2 S = some r) : Ct l D cA A yX11_isRow cX11_isRow 3 (some .boolean) 2 0 0 [.ref (ad 0), .int x1, .int x2] (MX D cA A ad S) (some (.int r)) (MX D cA A ad S) := by
  refine Ct_of (by decide +kernel) (Nat.le_of_ble_eq_true rfl) ?_
  intro p e s m args below meth c ls hC hr hlk hnm hX hKX hl
  have hK := hKX.1
  have hx := hC.1
  have hb := hC.2.1
  have hS : va_S A s.heap s.heap [] := va_S.rf
  have hX : MX D cA A ad S s.heap := hX
  have hl : lv_has ls 3 [(0, .ref (ad 0)), (1, .int x1), (2, .int x2)] := hl
  unfold m_isRow at hf
  refine lv_iload_n hx hb dX11_isRow_0 rfl (lv_at hl 1 rfl) ?_
  refine lv_iconst (v := 0) hx hb dX11_isRow_1 (by decide) ?_
  refine lv_ldc (v := 999999) hx hb hC.2.2.2.1 (tA hC.2.2.2.2 a_1101) dX11_isRow_2 ?_
  obtain ⟨z4, hz4, hf⟩ := cb_e hf
  refine mSi (As := [.int x1, .int 0, .int 999999]) (rest := []) hC (c_m_in hz4) q_m_in a_1086 (Nat.le_of_ble_eq_true rfl) hX hKX rfl hl.1 (Nat.le_of_ble_eq_true rfl) dX11_isRow_4 hS (fun H locs hX hS => ?_)
  refine lv_if_eq (tgt := 24) hx hb dX11_isRow_7 (by decide) (fun c5 => ?_) (fun c5 => ?_)
  · have hf := it_t c5 hf
    refine lv_iconst (v := 0) hx hb dX11_isRow_24 (by decide) ?_
    cases hf
    exact Ct_rz hx hb hr hlk nz0 hX hS dX11_isRow_25
  · have hf := it_f c5 hf
    refine lv_aload_n hx hb dX11_isRow_10 rfl (lv_at hl 0 rfl) ?_
    refine lv_iload_n hx hb dX11_isRow_11 rfl (lv_at hl 1 rfl) ?_
    refine lv_iload_n hx hb dX11_isRow_12 rfl (lv_at hl 2 rfl) ?_
    obtain ⟨z6, hz6, hf⟩ := cb_e hf
    refine mVi (As := [.int x1, .int x2]) (rest := []) hC (c_m_part hz6) q_m_part a_1102 (Nat.le_of_ble_eq_true rfl) hX hKX rfl hl.1 (Nat.le_of_ble_eq_true rfl) dX11_isRow_13 hS (fun H locs hX hS => ?_)
    refine lv_iload_n hx hb dX11_isRow_16 rfl (lv_at hl 1 rfl) ?_
    refine lv_icmp_ne (tgt := 24) hx hb dX11_isRow_17 (by decide) (fun c7 => ?_) (fun c7 => ?_)
    · have hf := it_f c7 hf
      refine lv_iconst (v := 0) hx hb dX11_isRow_24 (by decide) ?_
      cases hf
      exact Ct_rz hx hb hr hlk nz0 hX hS dX11_isRow_25
    · have hf := it_t c7 hf
      refine lv_iconst (v := 1) hx hb dX11_isRow_20 (by decide) ?_
      refine lv_goto (tgt := 25) hx hb dX11_isRow_21 (by decide) ?_
      cases hf
      exact Ct_rz hx hb hr hlk nz1 hX hS dX11_isRow_25

theorem q_m_lays : VWs yX11_lays cX11_lays 6 (some .int) 4 := ⟨a_1116, a_55, a_1115, by decide +kernel⟩
set_option maxRecDepth 100000 in
set_option maxHeartbeats 4000000 in
theorem c_m_lays {l : Launch} {D : va_G} {cA : Nat → ClassId} {A : Nat → Prop} {ad : Nat → Nat} {a1 : Nat} (ha1 : a1 ∈ La) {x2 : Int32} {x3 : Int32} {x4 : Int32} {S : St} {r : Int32} {S' : St} (hf : m_lays a1 x2 x3 x4 S = some (r, S')) : Ct l D cA A yX11_lays cX11_lays 6 (some .int) 0 0 0 [.ref (ad a1), .int x2, .int x3, .int x4] (MX D cA A ad S) (some (.int r)) (MX D cA A ad S') := by
  refine Ct_of (by decide +kernel) (Nat.le_of_ble_eq_true rfl) ?_
  intro p e s m args below meth c ls hC hr hlk hnm hX hKX hl
  have hK := hKX.1
  have hx := hC.1
  have hb := hC.2.1
  have hS : va_S A s.heap s.heap [] := va_S.rf
  have hX : MX D cA A ad S s.heap := hX
  have hl : lv_has ls 6 [(0, .ref (ad a1)), (1, .int x2), (2, .int x3), (3, .int x4)] := hl
  unfold m_lays at hf
  refine lv_iload_n hx hb dX11_lays_0 rfl (lv_at hl 2 rfl) ?_
  refine lv_istore (lv' := [(4, .int x3), (0, .ref (ad a1)), (1, .int x2), (2, .int x3), (3, .int x4)]) hx hb dX11_lays_1 hl (by decide) rfl (fun ls hl => ?_)
  refine lv_iconst (v := 0) hx hb dX11_lays_3 (by decide) ?_
  refine lv_istore (lv' := [(5, .int 0), (4, .int x3), (0, .ref (ad a1)), (1, .int x2), (2, .int x3), (3, .int x4)]) hx hb dX11_lays_4 hl (by decide) rfl (fun ls hl => ?_)
  obtain ⟨g7, g70, g7s, hf⟩ := lp1_e hf
  have Lg7 : ∀ (n : Nat) (x6 : Int32) (H : Heap) (locs : List Loc) (ls : Array Slot), MX D cA A ad S H → va_S A s.heap H locs → lv_has ls 6 [(0, .ref (ad a1)), (1, .int x2), (2, .int x3), (3, .int x4), (4, .int x3), (5, .int x6)] → g7 n x6 = some (r, S') → W p l e (RM 0 0 0) s m args below meth c H locs 0 0 (MQ below (CtQ A (some (.int r)) (MX D cA A ad S')) args s 0 0 A) (F0 m 6 ls []) := by
    intro n
    induction n with
    | zero => intro x6 H locs ls hX hS hl hf; rw [g70] at hf; cases hf
    | succ n ihg7 =>
      intro x6 H locs ls hX hS hl hf
      rw [g7s] at hf
      refine lv_iload hx hb dX11_lays_6 (lv_at hl 5 rfl) ?_
      refine lv_iload_n hx hb dX11_lays_8 rfl (lv_at hl 2 rfl) ?_
      refine lv_icmp_ge (tgt := 30) hx hb dX11_lays_9 (by decide) (fun c8 => ?_) (fun c8 => ?_)
      · have hf := it_t c8 hf
        obtain ⟨g11, g110, g11s, hf⟩ := lp2_e hf
        have Lg11 : ∀ (n : Nat) (x9 : Int32) (S10 : St) (H : Heap) (locs : List Loc) (ls : Array Slot), MX D cA A ad S10 H → va_S A s.heap H locs → lv_has ls 6 [(0, .ref (ad a1)), (1, .int x2), (2, .int x3), (3, .int x4), (4, .int x9)] → g11 n x9 S10 = some (r, S') → W p l e (RM 0 0 0) s m args below meth c H locs 0 0 (MQ below (CtQ A (some (.int r)) (MX D cA A ad S')) args s 0 0 A) (F0 m 30 ls []) := by
          intro n
          induction n with
          | zero => intro x9 S10 H locs ls hX hS hl hf; rw [g110] at hf; cases hf
          | succ n ihg11 =>
            intro x9 S10 H locs ls hX hS hl hf
            rw [g11s] at hf
            refine lv_iload hx hb dX11_lays_30 (lv_at hl 4 rfl) ?_
            obtain ⟨k12, hk12, hf⟩ := jn0_e hf
            have Jk12 : ∀  (H : Heap) (locs : List Loc) (ls : Array Slot), MX D cA A ad S10 H → va_S A s.heap H locs → lv_has ls 6 [(0, .ref (ad a1)), (1, .int x2), (2, .int x3), (3, .int x4), (4, .int x9)] → k12 = some (r, S') → W p l e (RM 0 0 0) s m args below meth c H locs 0 0 (MQ below (CtQ A (some (.int r)) (MX D cA A ad S')) args s 0 0 A) (F0 m 67 ls []) := by
              intro  H locs ls hX hS hl hf
              rw [hk12] at hf
              refine lv_aload_n hx hb dX11_lays_67 rfl (lv_at hl 0 rfl) ?_
              refine lv_iload_n hx hb dX11_lays_68 rfl (lv_at hl 1 rfl) ?_
              refine lv_iload hx hb dX11_lays_69 (lv_at hl 4 rfl) ?_
              refine lv_iadd hx hb dX11_lays_71 ?_
              refine lv_iload_n hx hb dX11_lays_72 rfl (lv_at hl 3 rfl) ?_
              obtain ⟨h14, j13, ej13, hf⟩ := rd_e hf
              refine mast hx hb hC hK hX hS ha1 h14 ej13 dX11_lays_73 (fun H locs hX hS => ?_)
              obtain ⟨S15, eS15, hf⟩ := lt_e hf
              rw [← eS15] at hX
              refine lv_iload_n hx hb dX11_lays_74 rfl (lv_at hl 2 rfl) ?_
              refine lv_iconst (v := 1) hx hb dX11_lays_75 (by decide) ?_
              refine lv_iadd hx hb dX11_lays_76 ?_
              cases hf
              exact Ct_ri hx hb hr hlk hX hS dX11_lays_77
            refine lv_if_le (tgt := 67) hx hb dX11_lays_32 (by decide) (fun c16 => ?_) (fun c16 => ?_)
            · have hf := it_t c16 hf
              exact Jk12 _ _ _ hX hS (lv_sub hl [0, 1, 2, 3, 4] rfl) hf
            · have hf := it_f c16 hf
              refine lv_aload_n hx hb dX11_lays_35 rfl (lv_at hl 0 rfl) ?_
              refine lv_iload_n hx hb dX11_lays_36 rfl (lv_at hl 1 rfl) ?_
              refine lv_iload hx hb dX11_lays_37 (lv_at hl 4 rfl) ?_
              refine lv_iadd hx hb dX11_lays_39 ?_
              refine lv_iconst (v := 1) hx hb dX11_lays_40 (by decide) ?_
              refine lv_isub hx hb dX11_lays_41 ?_
              obtain ⟨h18, j17, ej17, hf⟩ := rd_e hf
              refine mald hx hb hC hK hX ha1 h18 ej17 dX11_lays_42 ?_
              refine lv_iload_n hx hb dX11_lays_43 rfl (lv_at hl 3 rfl) ?_
              refine lv_icmp_le (tgt := 67) hx hb dX11_lays_44 (by decide) (fun c19 => ?_) (fun c19 => ?_)
              · have hf := it_t c19 hf
                exact Jk12 _ _ _ hX hS (lv_sub hl [0, 1, 2, 3, 4] rfl) hf
              · have hf := it_f c19 hf
                refine lv_aload_n hx hb dX11_lays_47 rfl (lv_at hl 0 rfl) ?_
                refine lv_iload_n hx hb dX11_lays_48 rfl (lv_at hl 1 rfl) ?_
                refine lv_iload hx hb dX11_lays_49 (lv_at hl 4 rfl) ?_
                refine lv_iadd hx hb dX11_lays_51 ?_
                refine lv_aload_n hx hb dX11_lays_52 rfl (lv_at hl 0 rfl) ?_
                refine lv_iload_n hx hb dX11_lays_53 rfl (lv_at hl 1 rfl) ?_
                refine lv_iload hx hb dX11_lays_54 (lv_at hl 4 rfl) ?_
                refine lv_iadd hx hb dX11_lays_56 ?_
                refine lv_iconst (v := 1) hx hb dX11_lays_57 (by decide) ?_
                refine lv_isub hx hb dX11_lays_58 ?_
                obtain ⟨h21, j20, ej20, hf⟩ := rd_e hf
                refine mald hx hb hC hK hX ha1 h21 ej20 dX11_lays_59 ?_
                obtain ⟨h23, j22, ej22, hf⟩ := rd_e hf
                refine mast hx hb hC hK hX hS ha1 h23 ej22 dX11_lays_60 (fun H locs hX hS => ?_)
                obtain ⟨S24, eS24, hf⟩ := lt_e hf
                rw [← eS24] at hX
                refine lv_iinc (v := (x9 + (-1))) (lv' := [(4, .int (x9 + (-1))), (0, .ref (ad a1)), (1, .int x2), (2, .int x3), (3, .int x4)]) hx hb dX11_lays_61 hl (k := 4) rfl rfl (by decide) rfl (fun ls hl => ?_)
                refine lv_goto (tgt := 30) hx hb dX11_lays_64 (by decide) ?_
                exact ihg11 _ _ _ _ _ hX hS (lv_sub hl [1, 2, 3, 4, 0] rfl) hf
        exact Lg11 FU _ _ _ _ _ hX hS (lv_sub hl [0, 1, 2, 3, 4] rfl) hf
      · have hf := it_f c8 hf
        refine lv_aload_n hx hb dX11_lays_12 rfl (lv_at hl 0 rfl) ?_
        refine lv_iload_n hx hb dX11_lays_13 rfl (lv_at hl 1 rfl) ?_
        refine lv_iload hx hb dX11_lays_14 (lv_at hl 5 rfl) ?_
        refine lv_iadd hx hb dX11_lays_16 ?_
        obtain ⟨h26, j25, ej25, hf⟩ := rd_e hf
        refine mald hx hb hC hK hX ha1 h26 ej25 dX11_lays_17 ?_
        refine lv_iload_n hx hb dX11_lays_18 rfl (lv_at hl 3 rfl) ?_
        refine lv_icmp_ne (tgt := 24) hx hb dX11_lays_19 (by decide) (fun c27 => ?_) (fun c27 => ?_)
        · have hf := it_f c27 hf
          refine lv_iinc (v := (x6 + 1)) (lv' := [(5, .int (x6 + 1)), (0, .ref (ad a1)), (1, .int x2), (2, .int x3), (3, .int x4), (4, .int x3)]) hx hb dX11_lays_24 hl (k := 5) rfl rfl (by decide) rfl (fun ls hl => ?_)
          refine lv_goto (tgt := 6) hx hb dX11_lays_27 (by decide) ?_
          exact ihg7 _ _ _ _ hX hS (lv_sub hl [1, 2, 3, 4, 5, 0] rfl) hf
        · have hf := it_t c27 hf
          refine lv_iload_n hx hb dX11_lays_22 rfl (lv_at hl 2 rfl) ?_
          cases hf
          exact Ct_ri hx hb hr hlk hX hS dX11_lays_23
  exact Lg7 FU _ _ _ _ hX hS (lv_sub hl [2, 3, 4, 5, 1, 0] rfl) hf

theorem q_m_placeOf : VWs yX11_placeOf cX11_placeOf 6 (some .int) 4 := ⟨a_1123, a_55, a_1122, by decide +kernel⟩
set_option maxRecDepth 100000 in
set_option maxHeartbeats 4000000 in
theorem c_m_placeOf {l : Launch} {D : va_G} {cA : Nat → ClassId} {A : Nat → Prop} {ad : Nat → Nat} {a1 : Nat} (ha1 : a1 ∈ La) {x2 : Int32} {x3 : Int32} {x4 : Int32} {S : St} {r : Int32} (hf : m_placeOf a1 x2 x3 x4 S = some r) : Ct l D cA A yX11_placeOf cX11_placeOf 6 (some .int) 0 0 0 [.ref (ad a1), .int x2, .int x3, .int x4] (MX D cA A ad S) (some (.int r)) (MX D cA A ad S) := by
  refine Ct_of (by decide +kernel) (Nat.le_of_ble_eq_true rfl) ?_
  intro p e s m args below meth c ls hC hr hlk hnm hX hKX hl
  have hK := hKX.1
  have hx := hC.1
  have hb := hC.2.1
  have hS : va_S A s.heap s.heap [] := va_S.rf
  have hX : MX D cA A ad S s.heap := hX
  have hl : lv_has ls 6 [(0, .ref (ad a1)), (1, .int x2), (2, .int x3), (3, .int x4)] := hl
  unfold m_placeOf at hf
  refine lv_iconst (v := (-1)) hx hb dX11_placeOf_0 (by decide) ?_
  refine lv_istore (lv' := [(4, .int (-1)), (0, .ref (ad a1)), (1, .int x2), (2, .int x3), (3, .int x4)]) hx hb dX11_placeOf_1 hl (by decide) rfl (fun ls hl => ?_)
  refine lv_iconst (v := 0) hx hb dX11_placeOf_3 (by decide) ?_
  refine lv_istore (lv' := [(5, .int 0), (4, .int (-1)), (0, .ref (ad a1)), (1, .int x2), (2, .int x3), (3, .int x4)]) hx hb dX11_placeOf_4 hl (by decide) rfl (fun ls hl => ?_)
  obtain ⟨g8, g80, g8s, hf⟩ := lp2_e hf
  have Lg8 : ∀ (n : Nat) (x6 : Int32) (x7 : Int32) (H : Heap) (locs : List Loc) (ls : Array Slot), MX D cA A ad S H → va_S A s.heap H locs → lv_has ls 6 [(0, .ref (ad a1)), (1, .int x2), (2, .int x3), (3, .int x4), (4, .int x6), (5, .int x7)] → g8 n x6 x7 = some r → W p l e (RM 0 0 0) s m args below meth c H locs 0 0 (MQ below (CtQ A (some (.int r)) (MX D cA A ad S)) args s 0 0 A) (F0 m 6 ls []) := by
    intro n
    induction n with
    | zero => intro x6 x7 H locs ls hX hS hl hf; rw [g80] at hf; cases hf
    | succ n ihg8 =>
      intro x6 x7 H locs ls hX hS hl hf
      rw [g8s] at hf
      refine lv_iload hx hb dX11_placeOf_6 (lv_at hl 5 rfl) ?_
      refine lv_iload_n hx hb dX11_placeOf_8 rfl (lv_at hl 2 rfl) ?_
      refine lv_icmp_ge (tgt := 37) hx hb dX11_placeOf_9 (by decide) (fun c9 => ?_) (fun c9 => ?_)
      · have hf := it_t c9 hf
        refine lv_iload hx hb dX11_placeOf_37 (lv_at hl 4 rfl) ?_
        cases hf
        exact Ct_ri hx hb hr hlk hX hS dX11_placeOf_39
      · have hf := it_f c9 hf
        refine lv_aload_n hx hb dX11_placeOf_12 rfl (lv_at hl 0 rfl) ?_
        refine lv_iload_n hx hb dX11_placeOf_13 rfl (lv_at hl 1 rfl) ?_
        refine lv_iload hx hb dX11_placeOf_14 (lv_at hl 5 rfl) ?_
        refine lv_iadd hx hb dX11_placeOf_16 ?_
        obtain ⟨h11, j10, ej10, hf⟩ := rd_e hf
        refine mald hx hb hC hK hX ha1 h11 ej10 dX11_placeOf_17 ?_
        refine lv_iload_n hx hb dX11_placeOf_18 rfl (lv_at hl 3 rfl) ?_
        refine lv_icmp_ne (tgt := 27) hx hb dX11_placeOf_19 (by decide) (fun c12 => ?_) (fun c12 => ?_)
        · have hf := it_f c12 hf
          refine lv_iload hx hb dX11_placeOf_27 (lv_at hl 4 rfl) ?_
          refine lv_istore (lv' := [(4, .int x6), (0, .ref (ad a1)), (1, .int x2), (2, .int x3), (3, .int x4), (5, .int x7)]) hx hb dX11_placeOf_29 hl (by decide) rfl (fun ls hl => ?_)
          refine lv_iinc (v := (x7 + 1)) (lv' := [(5, .int (x7 + 1)), (4, .int x6), (0, .ref (ad a1)), (1, .int x2), (2, .int x3), (3, .int x4)]) hx hb dX11_placeOf_31 hl (k := 5) rfl rfl (by decide) rfl (fun ls hl => ?_)
          refine lv_goto (tgt := 6) hx hb dX11_placeOf_34 (by decide) ?_
          exact ihg8 _ _ _ _ _ hX hS (lv_sub hl [2, 3, 4, 5, 1, 0] rfl) hf
        · have hf := it_t c12 hf
          refine lv_iload hx hb dX11_placeOf_22 (lv_at hl 5 rfl) ?_
          refine lv_goto (tgt := 29) hx hb dX11_placeOf_24 (by decide) ?_
          refine lv_istore (lv' := [(4, .int x7), (0, .ref (ad a1)), (1, .int x2), (2, .int x3), (3, .int x4), (5, .int x7)]) hx hb dX11_placeOf_29 hl (by decide) rfl (fun ls hl => ?_)
          refine lv_iinc (v := (x7 + 1)) (lv' := [(5, .int (x7 + 1)), (4, .int x7), (0, .ref (ad a1)), (1, .int x2), (2, .int x3), (3, .int x4)]) hx hb dX11_placeOf_31 hl (k := 5) rfl rfl (by decide) rfl (fun ls hl => ?_)
          refine lv_goto (tgt := 6) hx hb dX11_placeOf_34 (by decide) ?_
          exact ihg8 _ _ _ _ _ hX hS (lv_sub hl [2, 3, 4, 5, 1, 0] rfl) hf
  exact Lg8 FU _ _ _ _ _ hX hS (lv_sub hl [2, 3, 4, 5, 1, 0] rfl) hf

theorem q_m_takes : VWs yX11_takes cX11_takes 5 (some .int) 4 := ⟨a_1126, a_55, a_1125, by decide +kernel⟩
set_option maxRecDepth 100000 in
set_option maxHeartbeats 4000000 in
theorem c_m_takes {l : Launch} {D : va_G} {cA : Nat → ClassId} {A : Nat → Prop} {ad : Nat → Nat} {a1 : Nat} (ha1 : a1 ∈ La) {x2 : Int32} {x3 : Int32} {x4 : Int32} {S : St} {r : Int32} {S' : St} (hf : m_takes a1 x2 x3 x4 S = some (r, S')) : Ct l D cA A yX11_takes cX11_takes 5 (some .int) 0 0 0 [.ref (ad a1), .int x2, .int x3, .int x4] (MX D cA A ad S) (some (.int r)) (MX D cA A ad S') := by
  refine Ct_of (by decide +kernel) (Nat.le_of_ble_eq_true rfl) ?_
  intro p e s m args below meth c ls hC hr hlk hnm hX hKX hl
  have hK := hKX.1
  have hx := hC.1
  have hb := hC.2.1
  have hS : va_S A s.heap s.heap [] := va_S.rf
  have hX : MX D cA A ad S s.heap := hX
  have hl : lv_has ls 5 [(0, .ref (ad a1)), (1, .int x2), (2, .int x3), (3, .int x4)] := hl
  unfold m_takes at hf
  refine lv_iload_n hx hb dX11_takes_0 rfl (lv_at hl 3 rfl) ?_
  refine lv_istore (lv' := [(4, .int x4), (0, .ref (ad a1)), (1, .int x2), (2, .int x3), (3, .int x4)]) hx hb dX11_takes_1 hl (by decide) rfl (fun ls hl => ?_)
  obtain ⟨g8, g80, g8s, hf⟩ := lp2_e hf
  have Lg8 : ∀ (n : Nat) (x6 : Int32) (S7 : St) (H : Heap) (locs : List Loc) (ls : Array Slot), MX D cA A ad S7 H → va_S A s.heap H locs → lv_has ls 5 [(0, .ref (ad a1)), (1, .int x2), (2, .int x3), (4, .int x6)] → g8 n x6 S7 = some (r, S') → W p l e (RM 0 0 0) s m args below meth c H locs 0 0 (MQ below (CtQ A (some (.int r)) (MX D cA A ad S')) args s 0 0 A) (F0 m 3 ls []) := by
    intro n
    induction n with
    | zero => intro x6 S7 H locs ls hX hS hl hf; rw [g80] at hf; cases hf
    | succ n ihg8 =>
      intro x6 S7 H locs ls hX hS hl hf
      rw [g8s] at hf
      refine lv_iload hx hb dX11_takes_3 (lv_at hl 3 rfl) ?_
      refine lv_iload_n hx hb dX11_takes_5 rfl (lv_at hl 2 rfl) ?_
      refine lv_iconst (v := 1) hx hb dX11_takes_6 (by decide) ?_
      refine lv_isub hx hb dX11_takes_7 ?_
      refine lv_icmp_ge (tgt := 31) hx hb dX11_takes_8 (by decide) (fun c9 => ?_) (fun c9 => ?_)
      · have hf := it_t c9 hf
        refine lv_iload_n hx hb dX11_takes_31 rfl (lv_at hl 2 rfl) ?_
        refine lv_iconst (v := 1) hx hb dX11_takes_32 (by decide) ?_
        refine lv_isub hx hb dX11_takes_33 ?_
        cases hf
        exact Ct_ri hx hb hr hlk hX hS dX11_takes_34
      · have hf := it_f c9 hf
        refine lv_aload_n hx hb dX11_takes_11 rfl (lv_at hl 0 rfl) ?_
        refine lv_iload_n hx hb dX11_takes_12 rfl (lv_at hl 1 rfl) ?_
        refine lv_iload hx hb dX11_takes_13 (lv_at hl 3 rfl) ?_
        refine lv_iadd hx hb dX11_takes_15 ?_
        refine lv_aload_n hx hb dX11_takes_16 rfl (lv_at hl 0 rfl) ?_
        refine lv_iload_n hx hb dX11_takes_17 rfl (lv_at hl 1 rfl) ?_
        refine lv_iload hx hb dX11_takes_18 (lv_at hl 3 rfl) ?_
        refine lv_iadd hx hb dX11_takes_20 ?_
        refine lv_iconst (v := 1) hx hb dX11_takes_21 (by decide) ?_
        refine lv_iadd hx hb dX11_takes_22 ?_
        obtain ⟨h11, j10, ej10, hf⟩ := rd_e hf
        refine mald hx hb hC hK hX ha1 h11 ej10 dX11_takes_23 ?_
        obtain ⟨h13, j12, ej12, hf⟩ := rd_e hf
        refine mast hx hb hC hK hX hS ha1 h13 ej12 dX11_takes_24 (fun H locs hX hS => ?_)
        obtain ⟨S14, eS14, hf⟩ := lt_e hf
        rw [← eS14] at hX
        refine lv_iinc (v := (x6 + 1)) (lv' := [(4, .int (x6 + 1)), (0, .ref (ad a1)), (1, .int x2), (2, .int x3)]) hx hb dX11_takes_25 hl (k := 3) rfl rfl (by decide) rfl (fun ls hl => ?_)
        refine lv_goto (tgt := 3) hx hb dX11_takes_28 (by decide) ?_
        exact ihg8 _ _ _ _ _ hX hS (lv_sub hl [1, 2, 3, 0] rfl) hf
  exact Lg8 FU _ _ _ _ _ hX hS (lv_sub hl [1, 2, 3, 0] rfl) hf

theorem q_m_rowWith : VWv RX11 yX11_rowWith cX11_rowWith 8 (some .int) 5 := ⟨a_1113, a_55, a_1112, a_19, by decide +kernel⟩
set_option maxRecDepth 100000 in
set_option maxHeartbeats 4000000 in
theorem c_m_rowWith {l : Launch} {D : va_G} {cA : Nat → ClassId} {A : Nat → Prop} {ad : Nat → Nat} {a1 : Nat} (ha1 : a1 ∈ La) {x2 : Int32} {x3 : Int32} {x4 : Int32} {x5 : Int32} {S : St} {r : Int32} (hf : m_rowWith a1 x2 x3 x4 x5 S = some r) : Ct l D cA A yX11_rowWith cX11_rowWith 8 (some .int) 2 0 0 [.ref (ad 0), .ref (ad a1), .int x2, .int x3, .int x4, .int x5] (MX D cA A ad S) (some (.int r)) (MX D cA A ad S) := by
  refine Ct_of (by decide +kernel) (Nat.le_of_ble_eq_true rfl) ?_
  intro p e s m args below meth c ls hC hr hlk hnm hX hKX hl
  have hK := hKX.1
  have hx := hC.1
  have hb := hC.2.1
  have hS : va_S A s.heap s.heap [] := va_S.rf
  have hX : MX D cA A ad S s.heap := hX
  have hl : lv_has ls 8 [(0, .ref (ad 0)), (1, .ref (ad a1)), (2, .int x2), (3, .int x3), (4, .int x4), (5, .int x5)] := hl
  unfold m_rowWith at hf
  refine lv_iconst (v := (-1)) hx hb dX11_rowWith_0 (by decide) ?_
  refine lv_istore (lv' := [(6, .int (-1)), (0, .ref (ad 0)), (1, .ref (ad a1)), (2, .int x2), (3, .int x3), (4, .int x4), (5, .int x5)]) hx hb dX11_rowWith_1 hl (by decide) rfl (fun ls hl => ?_)
  refine lv_iload_n hx hb dX11_rowWith_3 rfl (lv_at hl 4 rfl) ?_
  refine lv_iconst (v := 1) hx hb dX11_rowWith_4 (by decide) ?_
  refine lv_isub hx hb dX11_rowWith_5 ?_
  refine lv_istore (lv' := [(7, .int (x3 - 1)), (6, .int (-1)), (0, .ref (ad 0)), (1, .ref (ad a1)), (2, .int x2), (3, .int x3), (4, .int x4), (5, .int x5)]) hx hb dX11_rowWith_6 hl (by decide) rfl (fun ls hl => ?_)
  obtain ⟨g9, g90, g9s, hf⟩ := lp2_e hf
  have Lg9 : ∀ (n : Nat) (x7 : Int32) (x8 : Int32) (H : Heap) (locs : List Loc) (ls : Array Slot), MX D cA A ad S H → va_S A s.heap H locs → lv_has ls 8 [(0, .ref (ad 0)), (1, .ref (ad a1)), (2, .int x2), (4, .int x4), (5, .int x5), (6, .int x7), (7, .int x8)] → g9 n x7 x8 = some r → W p l e (RM 2 0 0) s m args below meth c H locs 0 0 (MQ below (CtQ A (some (.int r)) (MX D cA A ad S)) args s 0 0 A) (F0 m 8 ls []) := by
    intro n
    induction n with
    | zero => intro x7 x8 H locs ls hX hS hl hf; rw [g90] at hf; cases hf
    | succ n ihg9 =>
      intro x7 x8 H locs ls hX hS hl hf
      rw [g9s] at hf
      refine lv_iload hx hb dX11_rowWith_8 (lv_at hl 6 rfl) ?_
      refine lv_if_lt (tgt := 49) hx hb dX11_rowWith_10 (by decide) (fun c10 => ?_) (fun c10 => ?_)
      · have hf := it_t c10 hf
        refine lv_iload hx hb dX11_rowWith_49 (lv_at hl 5 rfl) ?_
        cases hf
        exact Ct_ri hx hb hr hlk hX hS dX11_rowWith_51
      · have hf := it_f c10 hf
        refine lv_aload_n hx hb dX11_rowWith_13 rfl (lv_at hl 0 rfl) ?_
        refine lv_aload_n hx hb dX11_rowWith_14 rfl (lv_at hl 1 rfl) ?_
        refine lv_iload_n hx hb dX11_rowWith_15 rfl (lv_at hl 2 rfl) ?_
        refine lv_iload hx hb dX11_rowWith_16 (lv_at hl 6 rfl) ?_
        refine lv_iadd hx hb dX11_rowWith_18 ?_
        obtain ⟨h12, j11, ej11, hf⟩ := rd_e hf
        refine mald hx hb hC hK hX ha1 h12 ej11 dX11_rowWith_19 ?_
        refine lv_iload hx hb dX11_rowWith_20 (lv_at hl 3 rfl) ?_
        obtain ⟨z13, hz13, hf⟩ := cb_e hf
        refine mVi (As := [.int (S.2 a1 j11), .int x4]) (rest := []) hC (c_m_part hz13) q_m_part a_1102 (Nat.le_of_ble_eq_true rfl) hX hKX rfl hl.1 (Nat.le_of_ble_eq_true rfl) dX11_rowWith_22 hS (fun H locs hX hS => ?_)
        refine lv_iload hx hb dX11_rowWith_25 (lv_at hl 4 rfl) ?_
        refine lv_icmp_ne (tgt := 39) hx hb dX11_rowWith_27 (by decide) (fun c14 => ?_) (fun c14 => ?_)
        · have hf := it_f c14 hf
          refine lv_iload hx hb dX11_rowWith_39 (lv_at hl 5 rfl) ?_
          refine lv_istore (lv' := [(6, .int x7), (0, .ref (ad 0)), (1, .ref (ad a1)), (2, .int x2), (4, .int x4), (5, .int x5), (7, .int x8)]) hx hb dX11_rowWith_41 hl (by decide) rfl (fun ls hl => ?_)
          refine lv_iinc (v := (x8 + (-1))) (lv' := [(7, .int (x8 + (-1))), (6, .int x7), (0, .ref (ad 0)), (1, .ref (ad a1)), (2, .int x2), (4, .int x4), (5, .int x5)]) hx hb dX11_rowWith_43 hl (k := 6) rfl rfl (by decide) rfl (fun ls hl => ?_)
          refine lv_goto (tgt := 8) hx hb dX11_rowWith_46 (by decide) ?_
          exact ihg9 _ _ _ _ _ hX hS (lv_sub hl [2, 3, 4, 5, 6, 1, 0] rfl) hf
        · have hf := it_t c14 hf
          refine lv_aload_n hx hb dX11_rowWith_30 rfl (lv_at hl 1 rfl) ?_
          refine lv_iload_n hx hb dX11_rowWith_31 rfl (lv_at hl 2 rfl) ?_
          refine lv_iload hx hb dX11_rowWith_32 (lv_at hl 6 rfl) ?_
          refine lv_iadd hx hb dX11_rowWith_34 ?_
          obtain ⟨h16, j15, ej15, hf⟩ := rd_e hf
          refine mald hx hb hC hK hX ha1 h16 ej15 dX11_rowWith_35 ?_
          refine lv_goto (tgt := 41) hx hb dX11_rowWith_36 (by decide) ?_
          refine lv_istore (lv' := [(6, .int (S.2 a1 j15)), (0, .ref (ad 0)), (1, .ref (ad a1)), (2, .int x2), (4, .int x4), (5, .int x5), (7, .int x8)]) hx hb dX11_rowWith_41 hl (by decide) rfl (fun ls hl => ?_)
          refine lv_iinc (v := (x8 + (-1))) (lv' := [(7, .int (x8 + (-1))), (6, .int (S.2 a1 j15)), (0, .ref (ad 0)), (1, .ref (ad a1)), (2, .int x2), (4, .int x4), (5, .int x5)]) hx hb dX11_rowWith_43 hl (k := 6) rfl rfl (by decide) rfl (fun ls hl => ?_)
          refine lv_goto (tgt := 8) hx hb dX11_rowWith_46 (by decide) ?_
          exact ihg9 _ _ _ _ _ hX hS (lv_sub hl [2, 3, 4, 5, 6, 1, 0] rfl) hf
  exact Lg9 FU _ _ _ _ _ hX hS (lv_sub hl [2, 3, 4, 6, 7, 1, 0] rfl) hf

theorem q_m_isTable : VWv RX11 yX11_isTable cX11_isTable 2 (some .boolean) 1 := ⟨a_1096, a_55, a_1095, a_15, by decide +kernel⟩
set_option maxRecDepth 100000 in
set_option maxHeartbeats 4000000 in
theorem c_m_isTable {l : Launch} {D : va_G} {cA : Nat → ClassId} {A : Nat → Prop} {ad : Nat → Nat} {x1 : Int32} {S : St} {r : Int32} (hf : m_isTable x1 S = some r) : Ct l D cA A yX11_isTable cX11_isTable 2 (some .boolean) 1 0 0 [.ref (ad 0), .int x1] (MX D cA A ad S) (some (.int r)) (MX D cA A ad S) := by
  refine Ct_of (by decide +kernel) (Nat.le_of_ble_eq_true rfl) ?_
  intro p e s m args below meth c ls hC hr hlk hnm hX hKX hl
  have hK := hKX.1
  have hx := hC.1
  have hb := hC.2.1
  have hS : va_S A s.heap s.heap [] := va_S.rf
  have hX : MX D cA A ad S s.heap := hX
  have hl : lv_has ls 2 [(0, .ref (ad 0)), (1, .int x1)] := hl
  unfold m_isTable at hf
  refine lv_iload_n hx hb dX11_isTable_0 rfl (lv_at hl 1 rfl) ?_
  refine lv_iconst (v := 0) hx hb dX11_isTable_1 (by decide) ?_
  refine lv_aload_n hx hb dX11_isTable_2 rfl (lv_at hl 0 rfl) ?_
  refine mget (v := .int (S.1 2)) hx hb hC hK hX 2 (by decide) a_970 rfl dX11_isTable_3 ?_
  refine lv_iconst (v := 1) hx hb dX11_isTable_6 (by decide) ?_
  refine lv_isub hx hb dX11_isTable_7 ?_
  obtain ⟨z3, hz3, hf⟩ := cb_e hf
  refine mSi (As := [.int x1, .int 0, .int ((S.1 2) - 1)]) (rest := []) hC (c_m_in hz3) q_m_in a_1086 (Nat.le_of_ble_eq_true rfl) hX hKX rfl hl.1 (Nat.le_of_ble_eq_true rfl) dX11_isTable_8 hS (fun H locs hX hS => ?_)
  obtain ⟨h4, hf⟩ := gd_e hf
  cases hf
  exact Ct_rz hx hb hr hlk (nz01 h4) hX hS dX11_isTable_11

theorem q_m_table : VWv RX11 yX11_table cX11_table 4 (some .int) 2 := ⟨a_1085, a_55, a_1083, a_1084, by decide +kernel⟩
set_option maxRecDepth 100000 in
set_option maxHeartbeats 4000000 in
theorem c_m_table {l : Launch} {D : va_G} {cA : Nat → ClassId} {A : Nat → Prop} {ad : Nat → Nat} {x1 : Int32} {x2 : Int32} {S : St} {r : Int32} {S' : St} (hf : m_table x1 x2 S = some (r, S')) : Ct l D cA A yX11_table cX11_table 4 (some .int) 1 0 0 [.ref (ad 0), .int x1, .int x2] (MX D cA A ad S) (some (.int r)) (MX D cA A ad S') := by
  refine Ct_of (by decide +kernel) (Nat.le_of_ble_eq_true rfl) ?_
  intro p e s m args below meth c ls hC hr hlk hnm hX hKX hl
  have hK := hKX.1
  have hx := hC.1
  have hb := hC.2.1
  have hS : va_S A s.heap s.heap [] := va_S.rf
  have hX : MX D cA A ad S s.heap := hX
  have hl : lv_has ls 4 [(0, .ref (ad 0)), (1, .int x1), (2, .int x2)] := hl
  unfold m_table at hf
  refine lv_iload_n hx hb dX11_table_0 rfl (lv_at hl 1 rfl) ?_
  refine lv_iconst (v := 1) hx hb dX11_table_1 (by decide) ?_
  refine lv_bipush (v := 63) hx hb dX11_table_2 (by decide) ?_
  obtain ⟨z4, hz4, hf⟩ := cb_e hf
  refine mSi (As := [.int x1, .int 1, .int 63]) (rest := []) hC (c_m_in hz4) q_m_in a_1086 (Nat.le_of_ble_eq_true rfl) hX hKX rfl hl.1 (Nat.le_of_ble_eq_true rfl) dX11_table_4 hS (fun H locs hX hS => ?_)
  obtain ⟨k6, hk6, hf⟩ := jn1_e hf
  have Jk6 : ∀ (x5 : Int32) (H : Heap) (locs : List Loc) (ls : Array Slot), MX D cA A ad S H → va_S A s.heap H locs → lv_has ls 4 [(0, .ref (ad 0)), (1, .int x1), (2, .int x2)] → k6 x5 = some (r, S') → W p l e (RM 1 0 0) s m args below meth c H locs 0 0 (MQ below (CtQ A (some (.int r)) (MX D cA A ad S')) args s 0 0 A) (F0 m 27 ls [.int x5]) := by
    intro x5 H locs ls hX hS hl hf
    rw [hk6] at hf
    refine lv_istore_n (lv' := [(3, .int x5), (0, .ref (ad 0)), (1, .int x1), (2, .int x2)]) hx hb dX11_table_27 rfl hl (by decide) rfl (fun ls hl => ?_)
    refine lv_aload_n hx hb dX11_table_28 rfl (lv_at hl 1 rfl) ?_
    refine lv_iload_n hx hb dX11_table_29 rfl (lv_at hl 0 rfl) ?_
    obtain ⟨k8, hk8, hf⟩ := jn1_e hf
    have Jk8 : ∀ (x7 : Int32) (H : Heap) (locs : List Loc) (ls : Array Slot), MX D cA A ad S H → va_S A s.heap H locs → lv_has ls 4 [(0, .ref (ad 0)), (1, .int x1), (2, .int x2)] → k8 x7 = some (r, S') → W p l e (RM 1 0 0) s m args below meth c H locs 0 0 (MQ below (CtQ A (some (.int r)) (MX D cA A ad S')) args s 0 0 A) (F0 m 50 ls [.int x7, .ref (ad 0)]) := by
      intro x7 H locs ls hX hS hl hf
      rw [hk8] at hf
      refine mput_0 hx hb hC hK hX hS a_968 dX11_table_50 (fun H locs hX hS => ?_)
      obtain ⟨S9, eS9, hf⟩ := lt_e hf
      rw [← eS9] at hX
      refine lv_aload_n hx hb dX11_table_53 rfl (lv_at hl 0 rfl) ?_
      refine mget (v := .int (S9.1 0)) hx hb hC hK hX 0 (by decide) a_968 rfl dX11_table_54 ?_
      refine lv_if_le (tgt := 62) hx hb dX11_table_57 (by decide) (fun c10 => ?_) (fun c10 => ?_)
      · have hf := it_t c10 hf
        refine lv_aload_n hx hb dX11_table_62 rfl (lv_at hl 0 rfl) ?_
        refine mget (v := .ref (ad 3)) hx hb hC hK hX 3 (by decide) a_971 rfl dX11_table_63 ?_
        refine lv_aload_n hx hb dX11_table_66 rfl (lv_at hl 0 rfl) ?_
        refine mget (v := .int (S9.1 2)) hx hb hC hK hX 2 (by decide) a_970 rfl dX11_table_67 ?_
        refine lv_iload_n hx hb dX11_table_70 rfl (lv_at hl 1 rfl) ?_
        obtain ⟨h12, j11, ej11, hf⟩ := rd_e hf
        refine mast hx hb hC hK hX hS (by decide) h12 ej11 dX11_table_71 (fun H locs hX hS => ?_)
        obtain ⟨S13, eS13, hf⟩ := lt_e hf
        rw [← eS13] at hX
        refine lv_aload_n hx hb dX11_table_72 rfl (lv_at hl 0 rfl) ?_
        refine mget (v := .ref (ad 4)) hx hb hC hK hX 4 (by decide) a_972 rfl dX11_table_73 ?_
        refine lv_aload_n hx hb dX11_table_76 rfl (lv_at hl 0 rfl) ?_
        refine mget (v := .int (S13.1 2)) hx hb hC hK hX 2 (by decide) a_970 rfl dX11_table_77 ?_
        refine lv_iload_n hx hb dX11_table_80 rfl (lv_at hl 2 rfl) ?_
        obtain ⟨h15, j14, ej14, hf⟩ := rd_e hf
        refine mast hx hb hC hK hX hS (by decide) h15 ej14 dX11_table_81 (fun H locs hX hS => ?_)
        obtain ⟨S16, eS16, hf⟩ := lt_e hf
        rw [← eS16] at hX
        refine lv_aload_n hx hb dX11_table_82 rfl (lv_at hl 0 rfl) ?_
        refine mget (v := .ref (ad 5)) hx hb hC hK hX 5 (by decide) a_973 rfl dX11_table_83 ?_
        refine lv_aload_n hx hb dX11_table_86 rfl (lv_at hl 0 rfl) ?_
        refine mget (v := .int (S16.1 2)) hx hb hC hK hX 2 (by decide) a_970 rfl dX11_table_87 ?_
        refine lv_iconst (v := 0) hx hb dX11_table_90 (by decide) ?_
        obtain ⟨h18, j17, ej17, hf⟩ := rd_e hf
        refine mast hx hb hC hK hX hS (by decide) h18 ej17 dX11_table_91 (fun H locs hX hS => ?_)
        obtain ⟨S19, eS19, hf⟩ := lt_e hf
        rw [← eS19] at hX
        refine lv_aload_n hx hb dX11_table_92 rfl (lv_at hl 0 rfl) ?_
        refine lv_dup hx hb dX11_table_93 rfl ?_
        refine mget (v := .int (S19.1 2)) hx hb hC hK hX 2 (by decide) a_970 rfl dX11_table_94 ?_
        refine lv_iconst (v := 1) hx hb dX11_table_97 (by decide) ?_
        refine lv_iadd hx hb dX11_table_98 ?_
        refine mput_2 hx hb hC hK hX hS a_970 dX11_table_99 (fun H locs hX hS => ?_)
        obtain ⟨S20, eS20, hf⟩ := lt_e hf
        rw [← eS20] at hX
        refine lv_aload_n hx hb dX11_table_102 rfl (lv_at hl 0 rfl) ?_
        refine mget (v := .int (S20.1 2)) hx hb hC hK hX 2 (by decide) a_970 rfl dX11_table_103 ?_
        refine lv_iconst (v := 1) hx hb dX11_table_106 (by decide) ?_
        refine lv_isub hx hb dX11_table_107 ?_
        cases hf
        exact Ct_ri hx hb hr hlk hX hS dX11_table_108
      · have hf := it_f c10 hf
        refine lv_iconst (v := 0) hx hb dX11_table_60 (by decide) ?_
        cases hf
        exact Ct_ri hx hb hr hlk hX hS dX11_table_61
    refine lv_if_ne (tgt := 37) hx hb dX11_table_30 (by decide) (fun c21 => ?_) (fun c21 => ?_)
    · have hf := it_f c21 hf
      refine lv_aload_n hx hb dX11_table_37 rfl (lv_at hl 1 rfl) ?_
      refine mget (v := .int (S.1 2)) hx hb hC hK hX 2 (by decide) a_970 rfl dX11_table_38 ?_
      refine lv_iconst (v := 3) hx hb dX11_table_41 (by decide) ?_
      refine lv_icmp_ne (tgt := 49) hx hb dX11_table_42 (by decide) (fun c22 => ?_) (fun c22 => ?_)
      · have hf := it_f c22 hf
        refine lv_iconst (v := 0) hx hb dX11_table_49 (by decide) ?_
        exact Jk8 _ _ _ _ hX hS (lv_sub hl [1, 2, 3] rfl) hf
      · have hf := it_t c22 hf
        refine lv_iconst (v := 2) hx hb dX11_table_45 (by decide) ?_
        refine lv_goto (tgt := 50) hx hb dX11_table_46 (by decide) ?_
        exact Jk8 _ _ _ _ hX hS (lv_sub hl [1, 2, 3] rfl) hf
    · have hf := it_t c21 hf
      refine lv_iconst (v := 1) hx hb dX11_table_33 (by decide) ?_
      refine lv_goto (tgt := 50) hx hb dX11_table_34 (by decide) ?_
      exact Jk8 _ _ _ _ hX hS (lv_sub hl [1, 2, 3] rfl) hf
  refine lv_if_eq (tgt := 26) hx hb dX11_table_7 (by decide) (fun c23 => ?_) (fun c23 => ?_)
  · have hf := it_t c23 hf
    refine lv_iconst (v := 0) hx hb dX11_table_26 (by decide) ?_
    exact Jk6 _ _ _ _ hX hS (lv_sub hl [0, 1, 2] rfl) hf
  · have hf := it_f c23 hf
    refine lv_iload_n hx hb dX11_table_10 rfl (lv_at hl 2 rfl) ?_
    refine lv_if_le (tgt := 26) hx hb dX11_table_11 (by decide) (fun c24 => ?_) (fun c24 => ?_)
    · have hf := it_t c24 hf
      refine lv_iconst (v := 0) hx hb dX11_table_26 (by decide) ?_
      exact Jk6 _ _ _ _ hX hS (lv_sub hl [0, 1, 2] rfl) hf
    · have hf := it_f c24 hf
      refine lv_iload_n hx hb dX11_table_14 rfl (lv_at hl 2 rfl) ?_
      refine lv_iload_n hx hb dX11_table_15 rfl (lv_at hl 1 rfl) ?_
      refine lv_iconst (v := (-1)) hx hb dX11_table_16 (by decide) ?_
      refine lv_ixor hx hb dX11_table_17 ?_
      refine lv_iand hx hb dX11_table_18 ?_
      refine lv_if_ne (tgt := 26) hx hb dX11_table_19 (by decide) (fun c25 => ?_) (fun c25 => ?_)
      · have hf := it_f c25 hf
        refine lv_iconst (v := 0) hx hb dX11_table_26 (by decide) ?_
        exact Jk6 _ _ _ _ hX hS (lv_sub hl [0, 1, 2] rfl) hf
      · have hf := it_t c25 hf
        refine lv_iconst (v := 1) hx hb dX11_table_22 (by decide) ?_
        refine lv_goto (tgt := 27) hx hb dX11_table_23 (by decide) ?_
        exact Jk6 _ _ _ _ hX hS (lv_sub hl [0, 1, 2] rfl) hf

theorem q_m_insert : VWv RX11 yX11_insert cX11_insert 4 (some .int) 2 := ⟨a_1092, a_55, a_1090, a_1091, by decide +kernel⟩
set_option maxRecDepth 100000 in
set_option maxHeartbeats 4000000 in
theorem c_m_insert {l : Launch} {D : va_G} {cA : Nat → ClassId} {A : Nat → Prop} {ad : Nat → Nat} {x1 : Int32} {x2 : Int32} {S : St} {r : Int32} {S' : St} (hf : m_insert x1 x2 S = some (r, S')) : Ct l D cA A yX11_insert cX11_insert 4 (some .int) 3 0 0 [.ref (ad 0), .int x1, .int x2] (MX D cA A ad S) (some (.int r)) (MX D cA A ad S') := by
  refine Ct_of (by decide +kernel) (Nat.le_of_ble_eq_true rfl) ?_
  intro p e s m args below meth c ls hC hr hlk hnm hX hKX hl
  have hK := hKX.1
  have hx := hC.1
  have hb := hC.2.1
  have hS : va_S A s.heap s.heap [] := va_S.rf
  have hX : MX D cA A ad S s.heap := hX
  have hl : lv_has ls 4 [(0, .ref (ad 0)), (1, .int x1), (2, .int x2)] := hl
  unfold m_insert at hf
  refine lv_aload_n hx hb dX11_insert_0 rfl (lv_at hl 0 rfl) ?_
  refine lv_aload_n hx hb dX11_insert_1 rfl (lv_at hl 0 rfl) ?_
  refine lv_iload_n hx hb dX11_insert_2 rfl (lv_at hl 1 rfl) ?_
  obtain ⟨z4, hz4, hf⟩ := cb_e hf
  refine mVi (As := [.int x1]) (rest := [.ref (ad 0)]) hC (c_m_isTable hz4) q_m_isTable a_1093 (Nat.le_of_ble_eq_true rfl) hX hKX rfl hl.1 (Nat.le_of_ble_eq_true rfl) dX11_insert_3 hS (fun H locs hX hS => ?_)
  obtain ⟨k6, hk6, hf⟩ := jn1_e hf
  have Jk6 : ∀ (x5 : Int32) (H : Heap) (locs : List Loc) (ls : Array Slot), MX D cA A ad S H → va_S A s.heap H locs → lv_has ls 4 [(0, .ref (ad 0)), (1, .int x1), (2, .int x2)] → k6 x5 = some (r, S') → W p l e (RM 3 0 0) s m args below meth c H locs 0 0 (MQ below (CtQ A (some (.int r)) (MX D cA A ad S')) args s 0 0 A) (F0 m 32 ls [.int x5, .ref (ad 0)]) := by
    intro x5 H locs ls hX hS hl hf
    rw [hk6] at hf
    refine mput_0 hx hb hC hK hX hS a_968 dX11_insert_32 (fun H locs hX hS => ?_)
    obtain ⟨S7, eS7, hf⟩ := lt_e hf
    rw [← eS7] at hX
    refine lv_aload_n hx hb dX11_insert_35 rfl (lv_at hl 0 rfl) ?_
    refine mget (v := .int (S7.1 0)) hx hb hC hK hX 0 (by decide) a_968 rfl dX11_insert_36 ?_
    obtain ⟨k9, hk9, hf⟩ := jn1_e hf
    have Jk9 : ∀ (S8 : St) (H : Heap) (locs : List Loc) (ls : Array Slot), MX D cA A ad S8 H → va_S A s.heap H locs → lv_has ls 4 [(0, .ref (ad 0)), (1, .int x1), (2, .int x2)] → k9 S8 = some (r, S') → W p l e (RM 3 0 0) s m args below meth c H locs 0 0 (MQ below (CtQ A (some (.int r)) (MX D cA A ad S')) args s 0 0 A) (F0 m 111 ls []) := by
      intro S8 H locs ls hX hS hl hf
      rw [hk9] at hf
      refine lv_aload_n hx hb dX11_insert_111 rfl (lv_at hl 0 rfl) ?_
      refine mget (v := .int (S8.1 0)) hx hb hC hK hX 0 (by decide) a_968 rfl dX11_insert_112 ?_
      refine lv_if_le (tgt := 120) hx hb dX11_insert_115 (by decide) (fun c10 => ?_) (fun c10 => ?_)
      · have hf := it_t c10 hf
        refine lv_aload_n hx hb dX11_insert_120 rfl (lv_at hl 0 rfl) ?_
        refine mget (v := .ref (ad 5)) hx hb hC hK hX 5 (by decide) a_973 rfl dX11_insert_121 ?_
        refine lv_iload_n hx hb dX11_insert_124 rfl (lv_at hl 1 rfl) ?_
        refine lv_aload_n hx hb dX11_insert_125 rfl (lv_at hl 0 rfl) ?_
        refine mget (v := .ref (ad 6)) hx hb hC hK hX 6 (by decide) a_974 rfl dX11_insert_126 ?_
        refine lv_bipush (v := 12) hx hb dX11_insert_129 (by decide) ?_
        refine lv_iload_n hx hb dX11_insert_131 rfl (lv_at hl 1 rfl) ?_
        refine lv_imul hx hb dX11_insert_132 ?_
        refine lv_aload_n hx hb dX11_insert_133 rfl (lv_at hl 0 rfl) ?_
        refine mget (v := .ref (ad 5)) hx hb hC hK hX 5 (by decide) a_973 rfl dX11_insert_134 ?_
        refine lv_iload_n hx hb dX11_insert_137 rfl (lv_at hl 1 rfl) ?_
        obtain ⟨h12, j11, ej11, hf⟩ := rd_e hf
        refine mald hx hb hC hK hX (by decide) h12 ej11 dX11_insert_138 ?_
        refine lv_iload_n hx hb dX11_insert_139 rfl (lv_at hl 2 rfl) ?_
        obtain ⟨z13, S14, hz13, hf⟩ := cb2_e hf
        refine mSi (As := [.ref (ad 6), .int (12 * x1), .int (S8.2 5 j11), .int x2]) (rest := [.int x1, .ref (ad 5)]) hC (c_m_lays (by decide) hz13) q_m_lays a_1114 (Nat.le_of_ble_eq_true rfl) hX hKX rfl hl.1 (Nat.le_of_ble_eq_true rfl) dX11_insert_140 hS (fun H locs hX hS => ?_)
        obtain ⟨h16, j15, ej15, hf⟩ := rd_e hf
        refine mast hx hb hC hK hX hS (by decide) h16 ej15 dX11_insert_143 (fun H locs hX hS => ?_)
        obtain ⟨S17, eS17, hf⟩ := lt_e hf
        rw [← eS17] at hX
        refine lv_aload_n hx hb dX11_insert_144 rfl (lv_at hl 0 rfl) ?_
        refine mget (v := .ref (ad 5)) hx hb hC hK hX 5 (by decide) a_973 rfl dX11_insert_145 ?_
        refine lv_iload_n hx hb dX11_insert_148 rfl (lv_at hl 1 rfl) ?_
        obtain ⟨h19, j18, ej18, hf⟩ := rd_e hf
        refine mald hx hb hC hK hX (by decide) h19 ej18 dX11_insert_149 ?_
        cases hf
        exact Ct_ri hx hb hr hlk hX hS dX11_insert_150
      · have hf := it_f c10 hf
        refine lv_iconst (v := 0) hx hb dX11_insert_118 (by decide) ?_
        cases hf
        exact Ct_ri hx hb hr hlk hX hS dX11_insert_119
    refine lv_if_ne (tgt := 111) hx hb dX11_insert_39 (by decide) (fun c20 => ?_) (fun c20 => ?_)
    · have hf := it_f c20 hf
      exact Jk9 _ _ _ _ hX hS (lv_sub hl [0, 1, 2] rfl) hf
    · have hf := it_t c20 hf
      refine lv_aload_n hx hb dX11_insert_42 rfl (lv_at hl 0 rfl) ?_
      refine lv_aload_n hx hb dX11_insert_43 rfl (lv_at hl 0 rfl) ?_
      refine mget (v := .ref (ad 6)) hx hb hC hK hX 6 (by decide) a_974 rfl dX11_insert_44 ?_
      refine lv_bipush (v := 12) hx hb dX11_insert_47 (by decide) ?_
      refine lv_iload_n hx hb dX11_insert_49 rfl (lv_at hl 1 rfl) ?_
      refine lv_imul hx hb dX11_insert_50 ?_
      refine lv_aload_n hx hb dX11_insert_51 rfl (lv_at hl 0 rfl) ?_
      refine mget (v := .ref (ad 5)) hx hb hC hK hX 5 (by decide) a_973 rfl dX11_insert_52 ?_
      refine lv_iload_n hx hb dX11_insert_55 rfl (lv_at hl 1 rfl) ?_
      obtain ⟨h22, j21, ej21, hf⟩ := rd_e hf
      refine mald hx hb hC hK hX (by decide) h22 ej21 dX11_insert_56 ?_
      refine lv_aload_n hx hb dX11_insert_57 rfl (lv_at hl 0 rfl) ?_
      refine mget (v := .ref (ad 4)) hx hb hC hK hX 4 (by decide) a_972 rfl dX11_insert_58 ?_
      refine lv_iload_n hx hb dX11_insert_61 rfl (lv_at hl 1 rfl) ?_
      obtain ⟨h24, j23, ej23, hf⟩ := rd_e hf
      refine mald hx hb hC hK hX (by decide) h24 ej23 dX11_insert_62 ?_
      refine lv_aload_n hx hb dX11_insert_63 rfl (lv_at hl 0 rfl) ?_
      refine lv_iload_n hx hb dX11_insert_64 rfl (lv_at hl 2 rfl) ?_
      refine lv_aload_n hx hb dX11_insert_65 rfl (lv_at hl 0 rfl) ?_
      refine mget (v := .ref (ad 4)) hx hb hC hK hX 4 (by decide) a_972 rfl dX11_insert_66 ?_
      refine lv_iload_n hx hb dX11_insert_69 rfl (lv_at hl 1 rfl) ?_
      obtain ⟨h26, j25, ej25, hf⟩ := rd_e hf
      refine mald hx hb hC hK hX (by decide) h26 ej25 dX11_insert_70 ?_
      obtain ⟨z27, hz27, hf⟩ := cb_e hf
      refine mVi (As := [.int x2, .int (S7.2 4 j25)]) (rest := [.int (S7.2 4 j23), .int (S7.2 5 j21), .int (12 * x1), .ref (ad 6), .ref (ad 0)]) hC (c_m_part hz27) q_m_part a_1102 (Nat.le_of_ble_eq_true rfl) hX hKX rfl hl.1 (Nat.le_of_ble_eq_true rfl) dX11_insert_71 hS (fun H locs hX hS => ?_)
      obtain ⟨z28, hz28, hf⟩ := cb_e hf
      refine mVi (As := [.ref (ad 6), .int (12 * x1), .int (S7.2 5 j21), .int (S7.2 4 j23), .int z27]) (rest := []) hC (c_m_rowWith (by decide) hz28) q_m_rowWith a_1110 (Nat.le_of_ble_eq_true rfl) hX hKX rfl hl.1 (Nat.le_of_ble_eq_true rfl) dX11_insert_74 hS (fun H locs hX hS => ?_)
      refine lv_iconst (v := (-1)) hx hb dX11_insert_77 (by decide) ?_
      obtain ⟨k30, hk30, hf⟩ := jn1_e hf
      have Jk30 : ∀ (x29 : Int32) (H : Heap) (locs : List Loc) (ls : Array Slot), MX D cA A ad S7 H → va_S A s.heap H locs → lv_has ls 4 [(0, .ref (ad 0)), (1, .int x1), (2, .int x2)] → k30 x29 = some (r, S') → W p l e (RM 3 0 0) s m args below meth c H locs 0 0 (MQ below (CtQ A (some (.int r)) (MX D cA A ad S')) args s 0 0 A) (F0 m 86 ls [.int x29]) := by
        intro x29 H locs ls hX hS hl hf
        rw [hk30] at hf
        refine lv_istore_n (lv' := [(3, .int x29), (0, .ref (ad 0)), (1, .int x1), (2, .int x2)]) hx hb dX11_insert_86 rfl hl (by decide) rfl (fun ls hl => ?_)
        refine lv_aload_n hx hb dX11_insert_87 rfl (lv_at hl 1 rfl) ?_
        refine lv_iload_n hx hb dX11_insert_88 rfl (lv_at hl 0 rfl) ?_
        refine lv_if_ne (tgt := 103) hx hb dX11_insert_89 (by decide) (fun c31 => ?_) (fun c31 => ?_)
        · have hf := it_f c31 hf
          refine lv_iconst (v := 3) hx hb dX11_insert_103 (by decide) ?_
          refine lv_goto (tgt := 108) hx hb dX11_insert_104 (by decide) ?_
          refine mput_0 hx hb hC hK hX hS a_968 dX11_insert_108 (fun H locs hX hS => ?_)
          obtain ⟨S32, eS32, hf⟩ := lt_e hf
          rw [← eS32] at hX
          exact Jk9 _ _ _ _ hX hS (lv_sub hl [1, 2, 3] rfl) hf
        · have hf := it_t c31 hf
          refine lv_aload_n hx hb dX11_insert_92 rfl (lv_at hl 1 rfl) ?_
          refine mget (v := .ref (ad 5)) hx hb hC hK hX 5 (by decide) a_973 rfl dX11_insert_93 ?_
          refine lv_iload_n hx hb dX11_insert_96 rfl (lv_at hl 2 rfl) ?_
          obtain ⟨h34, j33, ej33, hf⟩ := rd_e hf
          refine mald hx hb hC hK hX (by decide) h34 ej33 dX11_insert_97 ?_
          refine lv_bipush (v := 12) hx hb dX11_insert_98 (by decide) ?_
          refine lv_icmp_ne (tgt := 107) hx hb dX11_insert_100 (by decide) (fun c35 => ?_) (fun c35 => ?_)
          · have hf := it_f c35 hf
            refine lv_iconst (v := 0) hx hb dX11_insert_107 (by decide) ?_
            refine mput_0 hx hb hC hK hX hS a_968 dX11_insert_108 (fun H locs hX hS => ?_)
            obtain ⟨S36, eS36, hf⟩ := lt_e hf
            rw [← eS36] at hX
            exact Jk9 _ _ _ _ hX hS (lv_sub hl [1, 2, 3] rfl) hf
          · have hf := it_t c35 hf
            refine lv_iconst (v := 3) hx hb dX11_insert_103 (by decide) ?_
            refine lv_goto (tgt := 108) hx hb dX11_insert_104 (by decide) ?_
            refine mput_0 hx hb hC hK hX hS a_968 dX11_insert_108 (fun H locs hX hS => ?_)
            obtain ⟨S37, eS37, hf⟩ := lt_e hf
            rw [← eS37] at hX
            exact Jk9 _ _ _ _ hX hS (lv_sub hl [1, 2, 3] rfl) hf
      refine lv_icmp_eq (tgt := 85) hx hb dX11_insert_78 (by decide) (fun c38 => ?_) (fun c38 => ?_)
      · have hf := it_t c38 hf
        refine lv_iconst (v := 0) hx hb dX11_insert_85 (by decide) ?_
        exact Jk30 _ _ _ _ hX hS (lv_sub hl [0, 1, 2] rfl) hf
      · have hf := it_f c38 hf
        refine lv_iconst (v := 1) hx hb dX11_insert_81 (by decide) ?_
        refine lv_goto (tgt := 86) hx hb dX11_insert_82 (by decide) ?_
        exact Jk30 _ _ _ _ hX hS (lv_sub hl [0, 1, 2] rfl) hf
  refine lv_if_ne (tgt := 13) hx hb dX11_insert_6 (by decide) (fun c39 => ?_) (fun c39 => ?_)
  · have hf := it_f c39 hf
    refine lv_aload_n hx hb dX11_insert_13 rfl (lv_at hl 0 rfl) ?_
    refine lv_iload_n hx hb dX11_insert_14 rfl (lv_at hl 2 rfl) ?_
    refine lv_aload_n hx hb dX11_insert_15 rfl (lv_at hl 0 rfl) ?_
    refine mget (v := .ref (ad 3)) hx hb hC hK hX 3 (by decide) a_971 rfl dX11_insert_16 ?_
    refine lv_iload_n hx hb dX11_insert_19 rfl (lv_at hl 1 rfl) ?_
    obtain ⟨h41, j40, ej40, hf⟩ := rd_e hf
    refine mald hx hb hC hK hX (by decide) h41 ej40 dX11_insert_20 ?_
    obtain ⟨z42, hz42, hf⟩ := cb_e hf
    refine mVi (As := [.int x2, .int (S.2 3 j40)]) (rest := [.ref (ad 0)]) hC (c_m_isRow hz42) q_m_isRow a_1097 (Nat.le_of_ble_eq_true rfl) hX hKX rfl hl.1 (Nat.le_of_ble_eq_true rfl) dX11_insert_21 hS (fun H locs hX hS => ?_)
    refine lv_if_ne (tgt := 31) hx hb dX11_insert_24 (by decide) (fun c43 => ?_) (fun c43 => ?_)
    · have hf := it_f c43 hf
      refine lv_iconst (v := 0) hx hb dX11_insert_31 (by decide) ?_
      exact Jk6 _ _ _ _ hX hS (lv_sub hl [0, 1, 2] rfl) hf
    · have hf := it_t c43 hf
      refine lv_iconst (v := 2) hx hb dX11_insert_27 (by decide) ?_
      refine lv_goto (tgt := 32) hx hb dX11_insert_28 (by decide) ?_
      exact Jk6 _ _ _ _ hX hS (lv_sub hl [0, 1, 2] rfl) hf
  · have hf := it_t c39 hf
    refine lv_iconst (v := 1) hx hb dX11_insert_9 (by decide) ?_
    refine lv_goto (tgt := 32) hx hb dX11_insert_10 (by decide) ?_
    exact Jk6 _ _ _ _ hX hS (lv_sub hl [0, 1, 2] rfl) hf

theorem q_m_delete : VWv RX11 yX11_delete cX11_delete 3 (some .int) 2 := ⟨a_1120, a_55, a_1118, a_1119, by decide +kernel⟩
set_option maxRecDepth 100000 in
set_option maxHeartbeats 4000000 in
theorem c_m_delete {l : Launch} {D : va_G} {cA : Nat → ClassId} {A : Nat → Prop} {ad : Nat → Nat} {x1 : Int32} {x2 : Int32} {S : St} {r : Int32} {S' : St} (hf : m_delete x1 x2 S = some (r, S')) : Ct l D cA A yX11_delete cX11_delete 3 (some .int) 2 0 0 [.ref (ad 0), .int x1, .int x2] (MX D cA A ad S) (some (.int r)) (MX D cA A ad S') := by
  refine Ct_of (by decide +kernel) (Nat.le_of_ble_eq_true rfl) ?_
  intro p e s m args below meth c ls hC hr hlk hnm hX hKX hl
  have hK := hKX.1
  have hx := hC.1
  have hb := hC.2.1
  have hS : va_S A s.heap s.heap [] := va_S.rf
  have hX : MX D cA A ad S s.heap := hX
  have hl : lv_has ls 3 [(0, .ref (ad 0)), (1, .int x1), (2, .int x2)] := hl
  unfold m_delete at hf
  refine lv_aload_n hx hb dX11_delete_0 rfl (lv_at hl 0 rfl) ?_
  refine lv_aload_n hx hb dX11_delete_1 rfl (lv_at hl 0 rfl) ?_
  refine lv_iload_n hx hb dX11_delete_2 rfl (lv_at hl 1 rfl) ?_
  obtain ⟨z4, hz4, hf⟩ := cb_e hf
  refine mVi (As := [.int x1]) (rest := [.ref (ad 0)]) hC (c_m_isTable hz4) q_m_isTable a_1093 (Nat.le_of_ble_eq_true rfl) hX hKX rfl hl.1 (Nat.le_of_ble_eq_true rfl) dX11_delete_3 hS (fun H locs hX hS => ?_)
  obtain ⟨k6, hk6, hf⟩ := jn1_e hf
  have Jk6 : ∀ (x5 : Int32) (H : Heap) (locs : List Loc) (ls : Array Slot), MX D cA A ad S H → va_S A s.heap H locs → lv_has ls 3 [(0, .ref (ad 0)), (1, .int x1), (2, .int x2)] → k6 x5 = some (r, S') → W p l e (RM 2 0 0) s m args below meth c H locs 0 0 (MQ below (CtQ A (some (.int r)) (MX D cA A ad S')) args s 0 0 A) (F0 m 40 ls [.int x5, .ref (ad 0)]) := by
    intro x5 H locs ls hX hS hl hf
    rw [hk6] at hf
    refine mput_0 hx hb hC hK hX hS a_968 dX11_delete_40 (fun H locs hX hS => ?_)
    obtain ⟨S7, eS7, hf⟩ := lt_e hf
    rw [← eS7] at hX
    refine lv_aload_n hx hb dX11_delete_43 rfl (lv_at hl 0 rfl) ?_
    refine mget (v := .int (S7.1 0)) hx hb hC hK hX 0 (by decide) a_968 rfl dX11_delete_44 ?_
    refine lv_if_le (tgt := 52) hx hb dX11_delete_47 (by decide) (fun c8 => ?_) (fun c8 => ?_)
    · have hf := it_t c8 hf
      refine lv_aload_n hx hb dX11_delete_52 rfl (lv_at hl 0 rfl) ?_
      refine mget (v := .ref (ad 5)) hx hb hC hK hX 5 (by decide) a_973 rfl dX11_delete_53 ?_
      refine lv_iload_n hx hb dX11_delete_56 rfl (lv_at hl 1 rfl) ?_
      refine lv_aload_n hx hb dX11_delete_57 rfl (lv_at hl 0 rfl) ?_
      refine mget (v := .ref (ad 6)) hx hb hC hK hX 6 (by decide) a_974 rfl dX11_delete_58 ?_
      refine lv_bipush (v := 12) hx hb dX11_delete_61 (by decide) ?_
      refine lv_iload_n hx hb dX11_delete_63 rfl (lv_at hl 1 rfl) ?_
      refine lv_imul hx hb dX11_delete_64 ?_
      refine lv_aload_n hx hb dX11_delete_65 rfl (lv_at hl 0 rfl) ?_
      refine mget (v := .ref (ad 5)) hx hb hC hK hX 5 (by decide) a_973 rfl dX11_delete_66 ?_
      refine lv_iload_n hx hb dX11_delete_69 rfl (lv_at hl 1 rfl) ?_
      obtain ⟨h10, j9, ej9, hf⟩ := rd_e hf
      refine mald hx hb hC hK hX (by decide) h10 ej9 dX11_delete_70 ?_
      refine lv_aload_n hx hb dX11_delete_71 rfl (lv_at hl 0 rfl) ?_
      refine mget (v := .ref (ad 6)) hx hb hC hK hX 6 (by decide) a_974 rfl dX11_delete_72 ?_
      refine lv_bipush (v := 12) hx hb dX11_delete_75 (by decide) ?_
      refine lv_iload_n hx hb dX11_delete_77 rfl (lv_at hl 1 rfl) ?_
      refine lv_imul hx hb dX11_delete_78 ?_
      refine lv_aload_n hx hb dX11_delete_79 rfl (lv_at hl 0 rfl) ?_
      refine mget (v := .ref (ad 5)) hx hb hC hK hX 5 (by decide) a_973 rfl dX11_delete_80 ?_
      refine lv_iload_n hx hb dX11_delete_83 rfl (lv_at hl 1 rfl) ?_
      obtain ⟨h12, j11, ej11, hf⟩ := rd_e hf
      refine mald hx hb hC hK hX (by decide) h12 ej11 dX11_delete_84 ?_
      refine lv_iload_n hx hb dX11_delete_85 rfl (lv_at hl 2 rfl) ?_
      obtain ⟨z13, hz13, hf⟩ := cb_e hf
      refine mSi (As := [.ref (ad 6), .int (12 * x1), .int (S7.2 5 j11), .int x2]) (rest := [.int (S7.2 5 j9), .int (12 * x1), .ref (ad 6), .int x1, .ref (ad 5)]) hC (c_m_placeOf (by decide) hz13) q_m_placeOf a_1121 (Nat.le_of_ble_eq_true rfl) hX hKX rfl hl.1 (Nat.le_of_ble_eq_true rfl) dX11_delete_86 hS (fun H locs hX hS => ?_)
      obtain ⟨z14, S15, hz14, hf⟩ := cb2_e hf
      refine mSi (As := [.ref (ad 6), .int (12 * x1), .int (S7.2 5 j9), .int z13]) (rest := [.int x1, .ref (ad 5)]) hC (c_m_takes (by decide) hz14) q_m_takes a_1124 (Nat.le_of_ble_eq_true rfl) hX hKX rfl hl.1 (Nat.le_of_ble_eq_true rfl) dX11_delete_89 hS (fun H locs hX hS => ?_)
      obtain ⟨h17, j16, ej16, hf⟩ := rd_e hf
      refine mast hx hb hC hK hX hS (by decide) h17 ej16 dX11_delete_92 (fun H locs hX hS => ?_)
      obtain ⟨S18, eS18, hf⟩ := lt_e hf
      rw [← eS18] at hX
      refine lv_aload_n hx hb dX11_delete_93 rfl (lv_at hl 0 rfl) ?_
      refine mget (v := .ref (ad 5)) hx hb hC hK hX 5 (by decide) a_973 rfl dX11_delete_94 ?_
      refine lv_iload_n hx hb dX11_delete_97 rfl (lv_at hl 1 rfl) ?_
      obtain ⟨h20, j19, ej19, hf⟩ := rd_e hf
      refine mald hx hb hC hK hX (by decide) h20 ej19 dX11_delete_98 ?_
      cases hf
      exact Ct_ri hx hb hr hlk hX hS dX11_delete_99
    · have hf := it_f c8 hf
      refine lv_iconst (v := 0) hx hb dX11_delete_50 (by decide) ?_
      cases hf
      exact Ct_ri hx hb hr hlk hX hS dX11_delete_51
  refine lv_if_ne (tgt := 13) hx hb dX11_delete_6 (by decide) (fun c21 => ?_) (fun c21 => ?_)
  · have hf := it_f c21 hf
    refine lv_aload_n hx hb dX11_delete_13 rfl (lv_at hl 0 rfl) ?_
    refine mget (v := .ref (ad 6)) hx hb hC hK hX 6 (by decide) a_974 rfl dX11_delete_14 ?_
    refine lv_bipush (v := 12) hx hb dX11_delete_17 (by decide) ?_
    refine lv_iload_n hx hb dX11_delete_19 rfl (lv_at hl 1 rfl) ?_
    refine lv_imul hx hb dX11_delete_20 ?_
    refine lv_aload_n hx hb dX11_delete_21 rfl (lv_at hl 0 rfl) ?_
    refine mget (v := .ref (ad 5)) hx hb hC hK hX 5 (by decide) a_973 rfl dX11_delete_22 ?_
    refine lv_iload_n hx hb dX11_delete_25 rfl (lv_at hl 1 rfl) ?_
    obtain ⟨h23, j22, ej22, hf⟩ := rd_e hf
    refine mald hx hb hC hK hX (by decide) h23 ej22 dX11_delete_26 ?_
    refine lv_iload_n hx hb dX11_delete_27 rfl (lv_at hl 2 rfl) ?_
    obtain ⟨z24, hz24, hf⟩ := cb_e hf
    refine mSi (As := [.ref (ad 6), .int (12 * x1), .int (S.2 5 j22), .int x2]) (rest := [.ref (ad 0)]) hC (c_m_placeOf (by decide) hz24) q_m_placeOf a_1121 (Nat.le_of_ble_eq_true rfl) hX hKX rfl hl.1 (Nat.le_of_ble_eq_true rfl) dX11_delete_28 hS (fun H locs hX hS => ?_)
    refine lv_iconst (v := (-1)) hx hb dX11_delete_31 (by decide) ?_
    refine lv_icmp_ne (tgt := 39) hx hb dX11_delete_32 (by decide) (fun c25 => ?_) (fun c25 => ?_)
    · have hf := it_f c25 hf
      refine lv_iconst (v := 0) hx hb dX11_delete_39 (by decide) ?_
      exact Jk6 _ _ _ _ hX hS (lv_sub hl [0, 1, 2] rfl) hf
    · have hf := it_t c25 hf
      refine lv_iconst (v := 2) hx hb dX11_delete_35 (by decide) ?_
      refine lv_goto (tgt := 40) hx hb dX11_delete_36 (by decide) ?_
      exact Jk6 _ _ _ _ hX hS (lv_sub hl [0, 1, 2] rfl) hf
  · have hf := it_t c21 hf
    refine lv_iconst (v := 1) hx hb dX11_delete_9 (by decide) ?_
    refine lv_goto (tgt := 40) hx hb dX11_delete_10 (by decide) ?_
    exact Jk6 _ _ _ _ hX hS (lv_sub hl [0, 1, 2] rfl) hf

theorem q_m_isView : VWv RX11 yX11_isView cX11_isView 2 (some .boolean) 1 := ⟨a_1142, a_55, a_1141, a_21, by decide +kernel⟩
set_option maxRecDepth 100000 in
set_option maxHeartbeats 4000000 in
theorem c_m_isView {l : Launch} {D : va_G} {cA : Nat → ClassId} {A : Nat → Prop} {ad : Nat → Nat} {x1 : Int32} {S : St} {r : Int32} (hf : m_isView x1 S = some r) : Ct l D cA A yX11_isView cX11_isView 2 (some .boolean) 1 0 0 [.ref (ad 0), .int x1] (MX D cA A ad S) (some (.int r)) (MX D cA A ad S) := by
  refine Ct_of (by decide +kernel) (Nat.le_of_ble_eq_true rfl) ?_
  intro p e s m args below meth c ls hC hr hlk hnm hX hKX hl
  have hK := hKX.1
  have hx := hC.1
  have hb := hC.2.1
  have hS : va_S A s.heap s.heap [] := va_S.rf
  have hX : MX D cA A ad S s.heap := hX
  have hl : lv_has ls 2 [(0, .ref (ad 0)), (1, .int x1)] := hl
  unfold m_isView at hf
  refine lv_iload_n hx hb dX11_isView_0 rfl (lv_at hl 1 rfl) ?_
  refine lv_iconst (v := 0) hx hb dX11_isView_1 (by decide) ?_
  refine lv_aload_n hx hb dX11_isView_2 rfl (lv_at hl 0 rfl) ?_
  refine mget (v := .int (S.1 7)) hx hb hC hK hX 7 (by decide) a_975 rfl dX11_isView_3 ?_
  refine lv_iconst (v := 1) hx hb dX11_isView_6 (by decide) ?_
  refine lv_isub hx hb dX11_isView_7 ?_
  obtain ⟨z3, hz3, hf⟩ := cb_e hf
  refine mSi (As := [.int x1, .int 0, .int ((S.1 7) - 1)]) (rest := []) hC (c_m_in hz3) q_m_in a_1086 (Nat.le_of_ble_eq_true rfl) hX hKX rfl hl.1 (Nat.le_of_ble_eq_true rfl) dX11_isView_8 hS (fun H locs hX hS => ?_)
  obtain ⟨h4, hf⟩ := gd_e hf
  cases hf
  exact Ct_rz hx hb hr hlk (nz01 h4) hX hS dX11_isView_11

theorem q_m_makes : VWv RX11 yX11_makes cX11_makes 6 (some .int) 5 := ⟨a_1134, a_55, a_1133, a_20, by decide +kernel⟩
set_option maxRecDepth 100000 in
set_option maxHeartbeats 4000000 in
theorem c_m_makes {l : Launch} {D : va_G} {cA : Nat → ClassId} {A : Nat → Prop} {ad : Nat → Nat} {x1 : Int32} {x2 : Int32} {x3 : Int32} {x4 : Int32} {x5 : Int32} {S : St} {r : Int32} {S' : St} (hf : m_makes x1 x2 x3 x4 x5 S = some (r, S')) : Ct l D cA A yX11_makes cX11_makes 6 (some .int) 0 0 0 [.ref (ad 0), .int x1, .int x2, .int x3, .int x4, .int x5] (MX D cA A ad S) (some (.int r)) (MX D cA A ad S') := by
  refine Ct_of (by decide +kernel) (Nat.le_of_ble_eq_true rfl) ?_
  intro p e s m args below meth c ls hC hr hlk hnm hX hKX hl
  have hK := hKX.1
  have hx := hC.1
  have hb := hC.2.1
  have hS : va_S A s.heap s.heap [] := va_S.rf
  have hX : MX D cA A ad S s.heap := hX
  have hl : lv_has ls 6 [(0, .ref (ad 0)), (1, .int x1), (2, .int x2), (3, .int x3), (4, .int x4), (5, .int x5)] := hl
  unfold m_makes at hf
  refine lv_aload_n hx hb dX11_makes_0 rfl (lv_at hl 0 rfl) ?_
  refine mget (v := .ref (ad 8)) hx hb hC hK hX 8 (by decide) a_976 rfl dX11_makes_1 ?_
  refine lv_aload_n hx hb dX11_makes_4 rfl (lv_at hl 0 rfl) ?_
  refine mget (v := .int (S.1 7)) hx hb hC hK hX 7 (by decide) a_975 rfl dX11_makes_5 ?_
  refine lv_iload_n hx hb dX11_makes_8 rfl (lv_at hl 1 rfl) ?_
  obtain ⟨h8, j7, ej7, hf⟩ := rd_e hf
  refine mast hx hb hC hK hX hS (by decide) h8 ej7 dX11_makes_9 (fun H locs hX hS => ?_)
  obtain ⟨S9, eS9, hf⟩ := lt_e hf
  rw [← eS9] at hX
  refine lv_aload_n hx hb dX11_makes_10 rfl (lv_at hl 0 rfl) ?_
  refine mget (v := .ref (ad 9)) hx hb hC hK hX 9 (by decide) a_977 rfl dX11_makes_11 ?_
  refine lv_aload_n hx hb dX11_makes_14 rfl (lv_at hl 0 rfl) ?_
  refine mget (v := .int (S9.1 7)) hx hb hC hK hX 7 (by decide) a_975 rfl dX11_makes_15 ?_
  refine lv_iload_n hx hb dX11_makes_18 rfl (lv_at hl 2 rfl) ?_
  obtain ⟨h11, j10, ej10, hf⟩ := rd_e hf
  refine mast hx hb hC hK hX hS (by decide) h11 ej10 dX11_makes_19 (fun H locs hX hS => ?_)
  obtain ⟨S12, eS12, hf⟩ := lt_e hf
  rw [← eS12] at hX
  refine lv_aload_n hx hb dX11_makes_20 rfl (lv_at hl 0 rfl) ?_
  refine mget (v := .ref (ad 14)) hx hb hC hK hX 14 (by decide) a_982 rfl dX11_makes_21 ?_
  refine lv_aload_n hx hb dX11_makes_24 rfl (lv_at hl 0 rfl) ?_
  refine mget (v := .int (S12.1 7)) hx hb hC hK hX 7 (by decide) a_975 rfl dX11_makes_25 ?_
  refine lv_iload_n hx hb dX11_makes_28 rfl (lv_at hl 3 rfl) ?_
  obtain ⟨h14, j13, ej13, hf⟩ := rd_e hf
  refine mast hx hb hC hK hX hS (by decide) h14 ej13 dX11_makes_29 (fun H locs hX hS => ?_)
  obtain ⟨S15, eS15, hf⟩ := lt_e hf
  rw [← eS15] at hX
  refine lv_aload_n hx hb dX11_makes_30 rfl (lv_at hl 0 rfl) ?_
  refine mget (v := .ref (ad 15)) hx hb hC hK hX 15 (by decide) a_983 rfl dX11_makes_31 ?_
  refine lv_aload_n hx hb dX11_makes_34 rfl (lv_at hl 0 rfl) ?_
  refine mget (v := .int (S15.1 7)) hx hb hC hK hX 7 (by decide) a_975 rfl dX11_makes_35 ?_
  refine lv_iload hx hb dX11_makes_38 (lv_at hl 4 rfl) ?_
  obtain ⟨h17, j16, ej16, hf⟩ := rd_e hf
  refine mast hx hb hC hK hX hS (by decide) h17 ej16 dX11_makes_40 (fun H locs hX hS => ?_)
  obtain ⟨S18, eS18, hf⟩ := lt_e hf
  rw [← eS18] at hX
  refine lv_aload_n hx hb dX11_makes_41 rfl (lv_at hl 0 rfl) ?_
  refine mget (v := .ref (ad 16)) hx hb hC hK hX 16 (by decide) a_984 rfl dX11_makes_42 ?_
  refine lv_aload_n hx hb dX11_makes_45 rfl (lv_at hl 0 rfl) ?_
  refine mget (v := .int (S18.1 7)) hx hb hC hK hX 7 (by decide) a_975 rfl dX11_makes_46 ?_
  refine lv_iload hx hb dX11_makes_49 (lv_at hl 5 rfl) ?_
  obtain ⟨h20, j19, ej19, hf⟩ := rd_e hf
  refine mast hx hb hC hK hX hS (by decide) h20 ej19 dX11_makes_51 (fun H locs hX hS => ?_)
  obtain ⟨S21, eS21, hf⟩ := lt_e hf
  rw [← eS21] at hX
  refine lv_aload_n hx hb dX11_makes_52 rfl (lv_at hl 0 rfl) ?_
  refine lv_dup hx hb dX11_makes_53 rfl ?_
  refine mget (v := .int (S21.1 7)) hx hb hC hK hX 7 (by decide) a_975 rfl dX11_makes_54 ?_
  refine lv_iconst (v := 1) hx hb dX11_makes_57 (by decide) ?_
  refine lv_iadd hx hb dX11_makes_58 ?_
  refine mput_7 hx hb hC hK hX hS a_975 dX11_makes_59 (fun H locs hX hS => ?_)
  obtain ⟨S22, eS22, hf⟩ := lt_e hf
  rw [← eS22] at hX
  refine lv_aload_n hx hb dX11_makes_62 rfl (lv_at hl 0 rfl) ?_
  refine mget (v := .int (S22.1 7)) hx hb hC hK hX 7 (by decide) a_975 rfl dX11_makes_63 ?_
  refine lv_iconst (v := 1) hx hb dX11_makes_66 (by decide) ?_
  refine lv_isub hx hb dX11_makes_67 ?_
  cases hf
  exact Ct_ri hx hb hr hlk hX hS dX11_makes_68

theorem q_m_of : VWv RX11 yX11_of cX11_of 2 (some .int) 1 := ⟨a_1130, a_55, a_1128, a_1129, by decide +kernel⟩
set_option maxRecDepth 100000 in
set_option maxHeartbeats 4000000 in
theorem c_m_of {l : Launch} {D : va_G} {cA : Nat → ClassId} {A : Nat → Prop} {ad : Nat → Nat} {x1 : Int32} {S : St} {r : Int32} {S' : St} (hf : m_of x1 S = some (r, S')) : Ct l D cA A yX11_of cX11_of 2 (some .int) 2 0 0 [.ref (ad 0), .int x1] (MX D cA A ad S) (some (.int r)) (MX D cA A ad S') := by
  refine Ct_of (by decide +kernel) (Nat.le_of_ble_eq_true rfl) ?_
  intro p e s m args below meth c ls hC hr hlk hnm hX hKX hl
  have hK := hKX.1
  have hx := hC.1
  have hb := hC.2.1
  have hS : va_S A s.heap s.heap [] := va_S.rf
  have hX : MX D cA A ad S s.heap := hX
  have hl : lv_has ls 2 [(0, .ref (ad 0)), (1, .int x1)] := hl
  unfold m_of at hf
  refine lv_aload_n hx hb dX11_of_0 rfl (lv_at hl 0 rfl) ?_
  refine lv_aload_n hx hb dX11_of_1 rfl (lv_at hl 0 rfl) ?_
  refine lv_iload_n hx hb dX11_of_2 rfl (lv_at hl 1 rfl) ?_
  obtain ⟨z3, hz3, hf⟩ := cb_e hf
  refine mVi (As := [.int x1]) (rest := [.ref (ad 0)]) hC (c_m_isTable hz3) q_m_isTable a_1093 (Nat.le_of_ble_eq_true rfl) hX hKX rfl hl.1 (Nat.le_of_ble_eq_true rfl) dX11_of_3 hS (fun H locs hX hS => ?_)
  obtain ⟨k5, hk5, hf⟩ := jn1_e hf
  have Jk5 : ∀ (x4 : Int32) (H : Heap) (locs : List Loc) (ls : Array Slot), MX D cA A ad S H → va_S A s.heap H locs → lv_has ls 2 [(0, .ref (ad 0)), (1, .int x1)] → k5 x4 = some (r, S') → W p l e (RM 2 0 0) s m args below meth c H locs 0 0 (MQ below (CtQ A (some (.int r)) (MX D cA A ad S')) args s 0 0 A) (F0 m 27 ls [.int x4, .ref (ad 0)]) := by
    intro x4 H locs ls hX hS hl hf
    rw [hk5] at hf
    refine mput_0 hx hb hC hK hX hS a_968 dX11_of_27 (fun H locs hX hS => ?_)
    obtain ⟨S6, eS6, hf⟩ := lt_e hf
    rw [← eS6] at hX
    refine lv_aload_n hx hb dX11_of_30 rfl (lv_at hl 0 rfl) ?_
    refine mget (v := .int (S6.1 0)) hx hb hC hK hX 0 (by decide) a_968 rfl dX11_of_31 ?_
    refine lv_if_le (tgt := 41) hx hb dX11_of_34 (by decide) (fun c7 => ?_) (fun c7 => ?_)
    · have hf := it_t c7 hf
      refine lv_aload_n hx hb dX11_of_41 rfl (lv_at hl 0 rfl) ?_
      refine lv_iconst (v := 0) hx hb dX11_of_42 (by decide) ?_
      refine lv_iload_n hx hb dX11_of_43 rfl (lv_at hl 1 rfl) ?_
      refine lv_aload_n hx hb dX11_of_44 rfl (lv_at hl 0 rfl) ?_
      refine mget (v := .ref (ad 3)) hx hb hC hK hX 3 (by decide) a_971 rfl dX11_of_45 ?_
      refine lv_iload_n hx hb dX11_of_48 rfl (lv_at hl 1 rfl) ?_
      obtain ⟨h9, j8, ej8, hf⟩ := rd_e hf
      refine mald hx hb hC hK hX (by decide) h9 ej8 dX11_of_49 ?_
      refine lv_aload_n hx hb dX11_of_50 rfl (lv_at hl 0 rfl) ?_
      refine mget (v := .ref (ad 4)) hx hb hC hK hX 4 (by decide) a_972 rfl dX11_of_51 ?_
      refine lv_iload_n hx hb dX11_of_54 rfl (lv_at hl 1 rfl) ?_
      obtain ⟨h11, j10, ej10, hf⟩ := rd_e hf
      refine mald hx hb hC hK hX (by decide) h11 ej10 dX11_of_55 ?_
      refine lv_iconst (v := 1) hx hb dX11_of_56 (by decide) ?_
      refine lv_iload_n hx hb dX11_of_57 rfl (lv_at hl 1 rfl) ?_
      refine lv_ishl hx hb dX11_of_58 ?_
      obtain ⟨z12, S13, hz12, hf⟩ := cb2_e hf
      refine mVi (As := [.int 0, .int x1, .int (S6.2 3 j8), .int (S6.2 4 j10), .int (1 <<< (x1 &&& 31))]) (rest := []) hC (c_m_makes hz12) q_m_makes a_1131 (Nat.le_of_ble_eq_true rfl) hX hKX rfl hl.1 (Nat.le_of_ble_eq_true rfl) dX11_of_59 hS (fun H locs hX hS => ?_)
      cases hf
      exact Ct_ri hx hb hr hlk hX hS dX11_of_62
    · have hf := it_f c7 hf
      refine lv_iconst (v := 0) hx hb dX11_of_37 (by decide) ?_
      refine lv_goto (tgt := 62) hx hb dX11_of_38 (by decide) ?_
      cases hf
      exact Ct_ri hx hb hr hlk hX hS dX11_of_62
  refine lv_if_ne (tgt := 13) hx hb dX11_of_6 (by decide) (fun c14 => ?_) (fun c14 => ?_)
  · have hf := it_f c14 hf
    refine lv_aload_n hx hb dX11_of_13 rfl (lv_at hl 0 rfl) ?_
    refine mget (v := .int (S.1 7)) hx hb hC hK hX 7 (by decide) a_975 rfl dX11_of_14 ?_
    refine lv_bipush (v := 10) hx hb dX11_of_17 (by decide) ?_
    refine lv_icmp_ne (tgt := 26) hx hb dX11_of_19 (by decide) (fun c15 => ?_) (fun c15 => ?_)
    · have hf := it_f c15 hf
      refine lv_iconst (v := 0) hx hb dX11_of_26 (by decide) ?_
      exact Jk5 _ _ _ _ hX hS (lv_sub hl [0, 1] rfl) hf
    · have hf := it_t c15 hf
      refine lv_iconst (v := 2) hx hb dX11_of_22 (by decide) ?_
      refine lv_goto (tgt := 27) hx hb dX11_of_23 (by decide) ?_
      exact Jk5 _ _ _ _ hX hS (lv_sub hl [0, 1] rfl) hf
  · have hf := it_t c14 hf
    refine lv_iconst (v := 1) hx hb dX11_of_9 (by decide) ?_
    refine lv_goto (tgt := 27) hx hb dX11_of_10 (by decide) ?_
    exact Jk5 _ _ _ _ hX hS (lv_sub hl [0, 1] rfl) hf

theorem q_m_isOf : VWs yX11_isOf cX11_isOf 2 (some .boolean) 2 := ⟨a_1145, a_55, a_1144, by decide +kernel⟩
set_option maxRecDepth 100000 in
set_option maxHeartbeats 4000000 in
theorem c_m_isOf {l : Launch} {D : va_G} {cA : Nat → ClassId} {A : Nat → Prop} {ad : Nat → Nat} {x1 : Int32} {x2 : Int32} {S : St} {r : Int32} (hf : m_isOf x1 x2 = some r) : Ct l D cA A yX11_isOf cX11_isOf 2 (some .boolean) 1 0 0 [.int x1, .int x2] (MX D cA A ad S) (some (.int r)) (MX D cA A ad S) := by
  refine Ct_of (by decide +kernel) (Nat.le_of_ble_eq_true rfl) ?_
  intro p e s m args below meth c ls hC hr hlk hnm hX hKX hl
  have hK := hKX.1
  have hx := hC.1
  have hb := hC.2.1
  have hS : va_S A s.heap s.heap [] := va_S.rf
  have hX : MX D cA A ad S s.heap := hX
  have hl : lv_has ls 2 [(0, .int x1), (1, .int x2)] := hl
  unfold m_isOf at hf
  refine lv_iload_n hx hb dX11_isOf_0 rfl (lv_at hl 0 rfl) ?_
  refine lv_iconst (v := 0) hx hb dX11_isOf_1 (by decide) ?_
  refine lv_iconst (v := 5) hx hb dX11_isOf_2 (by decide) ?_
  obtain ⟨z4, hz4, hf⟩ := cb_e hf
  refine mSi (As := [.int x1, .int 0, .int 5]) (rest := []) hC (c_m_in hz4) q_m_in a_1086 (Nat.le_of_ble_eq_true rfl) hX hKX rfl hl.1 (Nat.le_of_ble_eq_true rfl) dX11_isOf_3 hS (fun H locs hX hS => ?_)
  refine lv_if_eq (tgt := 22) hx hb dX11_isOf_6 (by decide) (fun c5 => ?_) (fun c5 => ?_)
  · have hf := it_t c5 hf
    refine lv_iconst (v := 0) hx hb dX11_isOf_22 (by decide) ?_
    cases hf
    exact Ct_rz hx hb hr hlk nz0 hX hS dX11_isOf_23
  · have hf := it_f c5 hf
    refine lv_iload_n hx hb dX11_isOf_9 rfl (lv_at hl 1 rfl) ?_
    refine lv_iload_n hx hb dX11_isOf_10 rfl (lv_at hl 0 rfl) ?_
    refine lv_ishr hx hb dX11_isOf_11 ?_
    refine lv_iconst (v := 1) hx hb dX11_isOf_12 (by decide) ?_
    refine lv_iand hx hb dX11_isOf_13 ?_
    refine lv_iconst (v := 1) hx hb dX11_isOf_14 (by decide) ?_
    refine lv_icmp_ne (tgt := 22) hx hb dX11_isOf_15 (by decide) (fun c6 => ?_) (fun c6 => ?_)
    · have hf := it_f c6 hf
      refine lv_iconst (v := 0) hx hb dX11_isOf_22 (by decide) ?_
      cases hf
      exact Ct_rz hx hb hr hlk nz0 hX hS dX11_isOf_23
    · have hf := it_t c6 hf
      refine lv_iconst (v := 1) hx hb dX11_isOf_18 (by decide) ?_
      refine lv_goto (tgt := 23) hx hb dX11_isOf_19 (by decide) ?_
      cases hf
      exact Ct_rz hx hb hr hlk nz1 hX hS dX11_isOf_23

theorem q_m_select : VWv RX11 yX11_select cX11_select 5 (some .int) 4 := ⟨a_1138, a_55, a_1136, a_1137, by decide +kernel⟩
set_option maxRecDepth 100000 in
set_option maxHeartbeats 4000000 in
theorem c_m_select {l : Launch} {D : va_G} {cA : Nat → ClassId} {A : Nat → Prop} {ad : Nat → Nat} {x1 : Int32} {x2 : Int32} {x3 : Int32} {x4 : Int32} {S : St} {r : Int32} {S' : St} (hf : m_select x1 x2 x3 x4 S = some (r, S')) : Ct l D cA A yX11_select cX11_select 5 (some .int) 2 0 0 [.ref (ad 0), .int x1, .int x2, .int x3, .int x4] (MX D cA A ad S) (some (.int r)) (MX D cA A ad S') := by
  refine Ct_of (by decide +kernel) (Nat.le_of_ble_eq_true rfl) ?_
  intro p e s m args below meth c ls hC hr hlk hnm hX hKX hl
  have hK := hKX.1
  have hx := hC.1
  have hb := hC.2.1
  have hS : va_S A s.heap s.heap [] := va_S.rf
  have hX : MX D cA A ad S s.heap := hX
  have hl : lv_has ls 5 [(0, .ref (ad 0)), (1, .int x1), (2, .int x2), (3, .int x3), (4, .int x4)] := hl
  unfold m_select at hf
  refine lv_aload_n hx hb dX11_select_0 rfl (lv_at hl 0 rfl) ?_
  refine lv_aload_n hx hb dX11_select_1 rfl (lv_at hl 0 rfl) ?_
  refine lv_iload_n hx hb dX11_select_2 rfl (lv_at hl 1 rfl) ?_
  obtain ⟨z6, hz6, hf⟩ := cb_e hf
  refine mVi (As := [.int x1]) (rest := [.ref (ad 0)]) hC (c_m_isView hz6) q_m_isView a_1139 (Nat.le_of_ble_eq_true rfl) hX hKX rfl hl.1 (Nat.le_of_ble_eq_true rfl) dX11_select_3 hS (fun H locs hX hS => ?_)
  obtain ⟨k8, hk8, hf⟩ := jn1_e hf
  have Jk8 : ∀ (x7 : Int32) (H : Heap) (locs : List Loc) (ls : Array Slot), MX D cA A ad S H → va_S A s.heap H locs → lv_has ls 5 [(0, .ref (ad 0)), (1, .int x1), (2, .int x2), (3, .int x3), (4, .int x4)] → k8 x7 = some (r, S') → W p l e (RM 2 0 0) s m args below meth c H locs 0 0 (MQ below (CtQ A (some (.int r)) (MX D cA A ad S')) args s 0 0 A) (F0 m 54 ls [.int x7, .ref (ad 0)]) := by
    intro x7 H locs ls hX hS hl hf
    rw [hk8] at hf
    refine mput_0 hx hb hC hK hX hS a_968 dX11_select_54 (fun H locs hX hS => ?_)
    obtain ⟨S9, eS9, hf⟩ := lt_e hf
    rw [← eS9] at hX
    refine lv_aload_n hx hb dX11_select_57 rfl (lv_at hl 0 rfl) ?_
    refine mget (v := .int (S9.1 0)) hx hb hC hK hX 0 (by decide) a_968 rfl dX11_select_58 ?_
    refine lv_if_le (tgt := 66) hx hb dX11_select_61 (by decide) (fun c10 => ?_) (fun c10 => ?_)
    · have hf := it_t c10 hf
      refine lv_aload_n hx hb dX11_select_66 rfl (lv_at hl 0 rfl) ?_
      refine mget (v := .ref (ad 11)) hx hb hC hK hX 11 (by decide) a_979 rfl dX11_select_67 ?_
      refine lv_aload_n hx hb dX11_select_70 rfl (lv_at hl 0 rfl) ?_
      refine mget (v := .int (S9.1 7)) hx hb hC hK hX 7 (by decide) a_975 rfl dX11_select_71 ?_
      refine lv_iload_n hx hb dX11_select_74 rfl (lv_at hl 2 rfl) ?_
      obtain ⟨h12, j11, ej11, hf⟩ := rd_e hf
      refine mast hx hb hC hK hX hS (by decide) h12 ej11 dX11_select_75 (fun H locs hX hS => ?_)
      obtain ⟨S13, eS13, hf⟩ := lt_e hf
      rw [← eS13] at hX
      refine lv_aload_n hx hb dX11_select_76 rfl (lv_at hl 0 rfl) ?_
      refine mget (v := .ref (ad 12)) hx hb hC hK hX 12 (by decide) a_980 rfl dX11_select_77 ?_
      refine lv_aload_n hx hb dX11_select_80 rfl (lv_at hl 0 rfl) ?_
      refine mget (v := .int (S13.1 7)) hx hb hC hK hX 7 (by decide) a_975 rfl dX11_select_81 ?_
      refine lv_iload_n hx hb dX11_select_84 rfl (lv_at hl 3 rfl) ?_
      obtain ⟨h15, j14, ej14, hf⟩ := rd_e hf
      refine mast hx hb hC hK hX hS (by decide) h15 ej14 dX11_select_85 (fun H locs hX hS => ?_)
      obtain ⟨S16, eS16, hf⟩ := lt_e hf
      rw [← eS16] at hX
      refine lv_aload_n hx hb dX11_select_86 rfl (lv_at hl 0 rfl) ?_
      refine mget (v := .ref (ad 13)) hx hb hC hK hX 13 (by decide) a_981 rfl dX11_select_87 ?_
      refine lv_aload_n hx hb dX11_select_90 rfl (lv_at hl 0 rfl) ?_
      refine mget (v := .int (S16.1 7)) hx hb hC hK hX 7 (by decide) a_975 rfl dX11_select_91 ?_
      refine lv_iload hx hb dX11_select_94 (lv_at hl 4 rfl) ?_
      obtain ⟨h18, j17, ej17, hf⟩ := rd_e hf
      obtain ⟨h19, hf⟩ := gd_e hf
      refine mzast hx hb hC hK hX hS h19 h18 ej17 dX11_select_96 (fun H locs hX hS => ?_)
      obtain ⟨S20, eS20, hf⟩ := lt_e hf
      rw [← eS20] at hX
      refine lv_aload_n hx hb dX11_select_97 rfl (lv_at hl 0 rfl) ?_
      refine lv_iconst (v := 1) hx hb dX11_select_98 (by decide) ?_
      refine lv_iload_n hx hb dX11_select_99 rfl (lv_at hl 1 rfl) ?_
      refine lv_aload_n hx hb dX11_select_100 rfl (lv_at hl 0 rfl) ?_
      refine mget (v := .ref (ad 14)) hx hb hC hK hX 14 (by decide) a_982 rfl dX11_select_101 ?_
      refine lv_iload_n hx hb dX11_select_104 rfl (lv_at hl 1 rfl) ?_
      obtain ⟨h22, j21, ej21, hf⟩ := rd_e hf
      refine mald hx hb hC hK hX (by decide) h22 ej21 dX11_select_105 ?_
      refine lv_aload_n hx hb dX11_select_106 rfl (lv_at hl 0 rfl) ?_
      refine mget (v := .ref (ad 15)) hx hb hC hK hX 15 (by decide) a_983 rfl dX11_select_107 ?_
      refine lv_iload_n hx hb dX11_select_110 rfl (lv_at hl 1 rfl) ?_
      obtain ⟨h24, j23, ej23, hf⟩ := rd_e hf
      refine mald hx hb hC hK hX (by decide) h24 ej23 dX11_select_111 ?_
      refine lv_aload_n hx hb dX11_select_112 rfl (lv_at hl 0 rfl) ?_
      refine mget (v := .ref (ad 16)) hx hb hC hK hX 16 (by decide) a_984 rfl dX11_select_113 ?_
      refine lv_iload_n hx hb dX11_select_116 rfl (lv_at hl 1 rfl) ?_
      obtain ⟨h26, j25, ej25, hf⟩ := rd_e hf
      refine mald hx hb hC hK hX (by decide) h26 ej25 dX11_select_117 ?_
      obtain ⟨z27, S28, hz27, hf⟩ := cb2_e hf
      refine mVi (As := [.int 1, .int x1, .int (S20.2 14 j21), .int (S20.2 15 j23), .int (S20.2 16 j25)]) (rest := []) hC (c_m_makes hz27) q_m_makes a_1131 (Nat.le_of_ble_eq_true rfl) hX hKX rfl hl.1 (Nat.le_of_ble_eq_true rfl) dX11_select_118 hS (fun H locs hX hS => ?_)
      cases hf
      exact Ct_ri hx hb hr hlk hX hS dX11_select_121
    · have hf := it_f c10 hf
      refine lv_iconst (v := 0) hx hb dX11_select_64 (by decide) ?_
      cases hf
      exact Ct_ri hx hb hr hlk hX hS dX11_select_65
  refine lv_if_ne (tgt := 13) hx hb dX11_select_6 (by decide) (fun c29 => ?_) (fun c29 => ?_)
  · have hf := it_f c29 hf
    refine lv_iload_n hx hb dX11_select_13 rfl (lv_at hl 2 rfl) ?_
    refine lv_aload_n hx hb dX11_select_14 rfl (lv_at hl 0 rfl) ?_
    refine mget (v := .ref (ad 14)) hx hb hC hK hX 14 (by decide) a_982 rfl dX11_select_15 ?_
    refine lv_iload_n hx hb dX11_select_18 rfl (lv_at hl 1 rfl) ?_
    obtain ⟨h31, j30, ej30, hf⟩ := rd_e hf
    refine mald hx hb hC hK hX (by decide) h31 ej30 dX11_select_19 ?_
    obtain ⟨z32, hz32, hf⟩ := cb_e hf
    refine mSi (As := [.int x2, .int (S.2 14 j30)]) (rest := [.ref (ad 0)]) hC (c_m_isOf hz32) q_m_isOf a_1143 (Nat.le_of_ble_eq_true rfl) hX hKX rfl hl.1 (Nat.le_of_ble_eq_true rfl) dX11_select_20 hS (fun H locs hX hS => ?_)
    refine lv_if_eq (tgt := 36) hx hb dX11_select_23 (by decide) (fun c33 => ?_) (fun c33 => ?_)
    · have hf := it_t c33 hf
      refine lv_iconst (v := 2) hx hb dX11_select_36 (by decide) ?_
      refine lv_goto (tgt := 54) hx hb dX11_select_37 (by decide) ?_
      exact Jk8 _ _ _ _ hX hS (lv_sub hl [0, 1, 2, 3, 4] rfl) hf
    · have hf := it_f c33 hf
      refine lv_iload_n hx hb dX11_select_26 rfl (lv_at hl 3 rfl) ?_
      refine lv_iconst (v := 0) hx hb dX11_select_27 (by decide) ?_
      refine lv_bipush (v := 9) hx hb dX11_select_28 (by decide) ?_
      obtain ⟨z34, hz34, hf⟩ := cb_e hf
      refine mSi (As := [.int x3, .int 0, .int 9]) (rest := [.ref (ad 0)]) hC (c_m_in hz34) q_m_in a_1086 (Nat.le_of_ble_eq_true rfl) hX hKX rfl hl.1 (Nat.le_of_ble_eq_true rfl) dX11_select_30 hS (fun H locs hX hS => ?_)
      refine lv_if_ne (tgt := 40) hx hb dX11_select_33 (by decide) (fun c35 => ?_) (fun c35 => ?_)
      · have hf := it_f c35 hf
        refine lv_aload_n hx hb dX11_select_40 rfl (lv_at hl 0 rfl) ?_
        refine mget (v := .int (S.1 7)) hx hb hC hK hX 7 (by decide) a_975 rfl dX11_select_41 ?_
        refine lv_bipush (v := 10) hx hb dX11_select_44 (by decide) ?_
        refine lv_icmp_ne (tgt := 53) hx hb dX11_select_46 (by decide) (fun c36 => ?_) (fun c36 => ?_)
        · have hf := it_f c36 hf
          refine lv_iconst (v := 0) hx hb dX11_select_53 (by decide) ?_
          exact Jk8 _ _ _ _ hX hS (lv_sub hl [0, 1, 2, 3, 4] rfl) hf
        · have hf := it_t c36 hf
          refine lv_iconst (v := 3) hx hb dX11_select_49 (by decide) ?_
          refine lv_goto (tgt := 54) hx hb dX11_select_50 (by decide) ?_
          exact Jk8 _ _ _ _ hX hS (lv_sub hl [0, 1, 2, 3, 4] rfl) hf
      · have hf := it_t c35 hf
        refine lv_iconst (v := 2) hx hb dX11_select_36 (by decide) ?_
        refine lv_goto (tgt := 54) hx hb dX11_select_37 (by decide) ?_
        exact Jk8 _ _ _ _ hX hS (lv_sub hl [0, 1, 2, 3, 4] rfl) hf
  · have hf := it_t c29 hf
    refine lv_iconst (v := 1) hx hb dX11_select_9 (by decide) ?_
    refine lv_goto (tgt := 54) hx hb dX11_select_10 (by decide) ?_
    exact Jk8 _ _ _ _ hX hS (lv_sub hl [0, 1, 2, 3, 4] rfl) hf

theorem q_m_drop : VWv RX11 yX11_drop cX11_drop 4 (some .int) 3 := ⟨a_1149, a_55, a_1147, a_1148, by decide +kernel⟩
set_option maxRecDepth 100000 in
set_option maxHeartbeats 4000000 in
theorem c_m_drop {l : Launch} {D : va_G} {cA : Nat → ClassId} {A : Nat → Prop} {ad : Nat → Nat} {x1 : Int32} {x2 : Int32} {x3 : Int32} {S : St} {r : Int32} {S' : St} (hf : m_drop x1 x2 x3 S = some (r, S')) : Ct l D cA A yX11_drop cX11_drop 4 (some .int) 2 0 0 [.ref (ad 0), .int x1, .int x2, .int x3] (MX D cA A ad S) (some (.int r)) (MX D cA A ad S') := by
  refine Ct_of (by decide +kernel) (Nat.le_of_ble_eq_true rfl) ?_
  intro p e s m args below meth c ls hC hr hlk hnm hX hKX hl
  have hK := hKX.1
  have hx := hC.1
  have hb := hC.2.1
  have hS : va_S A s.heap s.heap [] := va_S.rf
  have hX : MX D cA A ad S s.heap := hX
  have hl : lv_has ls 4 [(0, .ref (ad 0)), (1, .int x1), (2, .int x2), (3, .int x3)] := hl
  unfold m_drop at hf
  refine lv_aload_n hx hb dX11_drop_0 rfl (lv_at hl 0 rfl) ?_
  refine lv_aload_n hx hb dX11_drop_1 rfl (lv_at hl 0 rfl) ?_
  refine lv_iload_n hx hb dX11_drop_2 rfl (lv_at hl 1 rfl) ?_
  obtain ⟨z5, hz5, hf⟩ := cb_e hf
  refine mVi (As := [.int x1]) (rest := [.ref (ad 0)]) hC (c_m_isView hz5) q_m_isView a_1139 (Nat.le_of_ble_eq_true rfl) hX hKX rfl hl.1 (Nat.le_of_ble_eq_true rfl) dX11_drop_3 hS (fun H locs hX hS => ?_)
  obtain ⟨k7, hk7, hf⟩ := jn1_e hf
  have Jk7 : ∀ (x6 : Int32) (H : Heap) (locs : List Loc) (ls : Array Slot), MX D cA A ad S H → va_S A s.heap H locs → lv_has ls 4 [(0, .ref (ad 0)), (1, .int x1), (2, .int x2), (3, .int x3)] → k7 x6 = some (r, S') → W p l e (RM 2 0 0) s m args below meth c H locs 0 0 (MQ below (CtQ A (some (.int r)) (MX D cA A ad S')) args s 0 0 A) (F0 m 63 ls [.int x6, .ref (ad 0)]) := by
    intro x6 H locs ls hX hS hl hf
    rw [hk7] at hf
    refine mput_0 hx hb hC hK hX hS a_968 dX11_drop_63 (fun H locs hX hS => ?_)
    obtain ⟨S8, eS8, hf⟩ := lt_e hf
    rw [← eS8] at hX
    refine lv_aload_n hx hb dX11_drop_66 rfl (lv_at hl 0 rfl) ?_
    refine mget (v := .int (S8.1 0)) hx hb hC hK hX 0 (by decide) a_968 rfl dX11_drop_67 ?_
    refine lv_if_le (tgt := 75) hx hb dX11_drop_70 (by decide) (fun c9 => ?_) (fun c9 => ?_)
    · have hf := it_t c9 hf
      refine lv_aload_n hx hb dX11_drop_75 rfl (lv_at hl 0 rfl) ?_
      refine mget (v := .ref (ad 11)) hx hb hC hK hX 11 (by decide) a_979 rfl dX11_drop_76 ?_
      refine lv_aload_n hx hb dX11_drop_79 rfl (lv_at hl 0 rfl) ?_
      refine mget (v := .int (S8.1 7)) hx hb hC hK hX 7 (by decide) a_975 rfl dX11_drop_80 ?_
      refine lv_iload_n hx hb dX11_drop_83 rfl (lv_at hl 2 rfl) ?_
      obtain ⟨h11, j10, ej10, hf⟩ := rd_e hf
      refine mast hx hb hC hK hX hS (by decide) h11 ej10 dX11_drop_84 (fun H locs hX hS => ?_)
      obtain ⟨S12, eS12, hf⟩ := lt_e hf
      rw [← eS12] at hX
      refine lv_aload_n hx hb dX11_drop_85 rfl (lv_at hl 0 rfl) ?_
      refine mget (v := .ref (ad 12)) hx hb hC hK hX 12 (by decide) a_980 rfl dX11_drop_86 ?_
      refine lv_aload_n hx hb dX11_drop_89 rfl (lv_at hl 0 rfl) ?_
      refine mget (v := .int (S12.1 7)) hx hb hC hK hX 7 (by decide) a_975 rfl dX11_drop_90 ?_
      refine lv_iload_n hx hb dX11_drop_93 rfl (lv_at hl 3 rfl) ?_
      obtain ⟨h14, j13, ej13, hf⟩ := rd_e hf
      refine mast hx hb hC hK hX hS (by decide) h14 ej13 dX11_drop_94 (fun H locs hX hS => ?_)
      obtain ⟨S15, eS15, hf⟩ := lt_e hf
      rw [← eS15] at hX
      refine lv_aload_n hx hb dX11_drop_95 rfl (lv_at hl 0 rfl) ?_
      refine lv_iconst (v := 2) hx hb dX11_drop_96 (by decide) ?_
      refine lv_iload_n hx hb dX11_drop_97 rfl (lv_at hl 1 rfl) ?_
      refine lv_aload_n hx hb dX11_drop_98 rfl (lv_at hl 0 rfl) ?_
      refine mget (v := .ref (ad 14)) hx hb hC hK hX 14 (by decide) a_982 rfl dX11_drop_99 ?_
      refine lv_iload_n hx hb dX11_drop_102 rfl (lv_at hl 1 rfl) ?_
      obtain ⟨h17, j16, ej16, hf⟩ := rd_e hf
      refine mald hx hb hC hK hX (by decide) h17 ej16 dX11_drop_103 ?_
      refine lv_iconst (v := 1) hx hb dX11_drop_104 (by decide) ?_
      refine lv_iload_n hx hb dX11_drop_105 rfl (lv_at hl 2 rfl) ?_
      refine lv_ishl hx hb dX11_drop_106 ?_
      refine lv_iconst (v := (-1)) hx hb dX11_drop_107 (by decide) ?_
      refine lv_ixor hx hb dX11_drop_108 ?_
      refine lv_iand hx hb dX11_drop_109 ?_
      refine lv_aload_n hx hb dX11_drop_110 rfl (lv_at hl 0 rfl) ?_
      refine mget (v := .ref (ad 15)) hx hb hC hK hX 15 (by decide) a_983 rfl dX11_drop_111 ?_
      refine lv_iload_n hx hb dX11_drop_114 rfl (lv_at hl 1 rfl) ?_
      obtain ⟨h19, j18, ej18, hf⟩ := rd_e hf
      refine mald hx hb hC hK hX (by decide) h19 ej18 dX11_drop_115 ?_
      refine lv_aload_n hx hb dX11_drop_116 rfl (lv_at hl 0 rfl) ?_
      refine mget (v := .ref (ad 16)) hx hb hC hK hX 16 (by decide) a_984 rfl dX11_drop_117 ?_
      refine lv_iload_n hx hb dX11_drop_120 rfl (lv_at hl 1 rfl) ?_
      obtain ⟨h21, j20, ej20, hf⟩ := rd_e hf
      refine mald hx hb hC hK hX (by decide) h21 ej20 dX11_drop_121 ?_
      obtain ⟨z22, S23, hz22, hf⟩ := cb2_e hf
      refine mVi (As := [.int 2, .int x1, .int ((S15.2 14 j16) &&& ((1 <<< (x2 &&& 31)) ^^^ (-1))), .int (S15.2 15 j18), .int (S15.2 16 j20)]) (rest := []) hC (c_m_makes hz22) q_m_makes a_1131 (Nat.le_of_ble_eq_true rfl) hX hKX rfl hl.1 (Nat.le_of_ble_eq_true rfl) dX11_drop_122 hS (fun H locs hX hS => ?_)
      cases hf
      exact Ct_ri hx hb hr hlk hX hS dX11_drop_125
    · have hf := it_f c9 hf
      refine lv_iconst (v := 0) hx hb dX11_drop_73 (by decide) ?_
      cases hf
      exact Ct_ri hx hb hr hlk hX hS dX11_drop_74
  refine lv_if_ne (tgt := 13) hx hb dX11_drop_6 (by decide) (fun c24 => ?_) (fun c24 => ?_)
  · have hf := it_f c24 hf
    refine lv_iload_n hx hb dX11_drop_13 rfl (lv_at hl 2 rfl) ?_
    refine lv_aload_n hx hb dX11_drop_14 rfl (lv_at hl 0 rfl) ?_
    refine mget (v := .ref (ad 14)) hx hb hC hK hX 14 (by decide) a_982 rfl dX11_drop_15 ?_
    refine lv_iload_n hx hb dX11_drop_18 rfl (lv_at hl 1 rfl) ?_
    obtain ⟨h26, j25, ej25, hf⟩ := rd_e hf
    refine mald hx hb hC hK hX (by decide) h26 ej25 dX11_drop_19 ?_
    refine lv_aload_n hx hb dX11_drop_20 rfl (lv_at hl 0 rfl) ?_
    refine mget (v := .ref (ad 15)) hx hb hC hK hX 15 (by decide) a_983 rfl dX11_drop_21 ?_
    refine lv_iload_n hx hb dX11_drop_24 rfl (lv_at hl 1 rfl) ?_
    obtain ⟨h28, j27, ej27, hf⟩ := rd_e hf
    refine mald hx hb hC hK hX (by decide) h28 ej27 dX11_drop_25 ?_
    refine lv_iconst (v := (-1)) hx hb dX11_drop_26 (by decide) ?_
    refine lv_ixor hx hb dX11_drop_27 ?_
    refine lv_iand hx hb dX11_drop_28 ?_
    obtain ⟨z29, hz29, hf⟩ := cb_e hf
    refine mSi (As := [.int x2, .int ((S.2 14 j25) &&& ((S.2 15 j27) ^^^ (-1)))]) (rest := [.ref (ad 0)]) hC (c_m_isOf hz29) q_m_isOf a_1143 (Nat.le_of_ble_eq_true rfl) hX hKX rfl hl.1 (Nat.le_of_ble_eq_true rfl) dX11_drop_29 hS (fun H locs hX hS => ?_)
    refine lv_if_eq (tgt := 45) hx hb dX11_drop_32 (by decide) (fun c30 => ?_) (fun c30 => ?_)
    · have hf := it_t c30 hf
      refine lv_iconst (v := 2) hx hb dX11_drop_45 (by decide) ?_
      refine lv_goto (tgt := 63) hx hb dX11_drop_46 (by decide) ?_
      exact Jk7 _ _ _ _ hX hS (lv_sub hl [0, 1, 2, 3] rfl) hf
    · have hf := it_f c30 hf
      refine lv_iload_n hx hb dX11_drop_35 rfl (lv_at hl 3 rfl) ?_
      refine lv_iconst (v := 0) hx hb dX11_drop_36 (by decide) ?_
      refine lv_bipush (v := 9) hx hb dX11_drop_37 (by decide) ?_
      obtain ⟨z31, hz31, hf⟩ := cb_e hf
      refine mSi (As := [.int x3, .int 0, .int 9]) (rest := [.ref (ad 0)]) hC (c_m_in hz31) q_m_in a_1086 (Nat.le_of_ble_eq_true rfl) hX hKX rfl hl.1 (Nat.le_of_ble_eq_true rfl) dX11_drop_39 hS (fun H locs hX hS => ?_)
      refine lv_if_ne (tgt := 49) hx hb dX11_drop_42 (by decide) (fun c32 => ?_) (fun c32 => ?_)
      · have hf := it_f c32 hf
        refine lv_aload_n hx hb dX11_drop_49 rfl (lv_at hl 0 rfl) ?_
        refine mget (v := .int (S.1 7)) hx hb hC hK hX 7 (by decide) a_975 rfl dX11_drop_50 ?_
        refine lv_bipush (v := 10) hx hb dX11_drop_53 (by decide) ?_
        refine lv_icmp_ne (tgt := 62) hx hb dX11_drop_55 (by decide) (fun c33 => ?_) (fun c33 => ?_)
        · have hf := it_f c33 hf
          refine lv_iconst (v := 0) hx hb dX11_drop_62 (by decide) ?_
          exact Jk7 _ _ _ _ hX hS (lv_sub hl [0, 1, 2, 3] rfl) hf
        · have hf := it_t c33 hf
          refine lv_iconst (v := 3) hx hb dX11_drop_58 (by decide) ?_
          refine lv_goto (tgt := 63) hx hb dX11_drop_59 (by decide) ?_
          exact Jk7 _ _ _ _ hX hS (lv_sub hl [0, 1, 2, 3] rfl) hf
      · have hf := it_t c32 hf
        refine lv_iconst (v := 2) hx hb dX11_drop_45 (by decide) ?_
        refine lv_goto (tgt := 63) hx hb dX11_drop_46 (by decide) ?_
        exact Jk7 _ _ _ _ hX hS (lv_sub hl [0, 1, 2, 3] rfl) hf
  · have hf := it_t c24 hf
    refine lv_iconst (v := 1) hx hb dX11_drop_9 (by decide) ?_
    refine lv_goto (tgt := 63) hx hb dX11_drop_10 (by decide) ?_
    exact Jk7 _ _ _ _ hX hS (lv_sub hl [0, 1, 2, 3] rfl) hf

theorem q_m_join : VWv RX11 yX11_join cX11_join 4 (some .int) 2 := ⟨a_1153, a_55, a_1151, a_1152, by decide +kernel⟩
set_option maxRecDepth 100000 in
set_option maxHeartbeats 4000000 in
theorem c_m_join {l : Launch} {D : va_G} {cA : Nat → ClassId} {A : Nat → Prop} {ad : Nat → Nat} {x1 : Int32} {x2 : Int32} {S : St} {r : Int32} {S' : St} (hf : m_join x1 x2 S = some (r, S')) : Ct l D cA A yX11_join cX11_join 4 (some .int) 2 0 0 [.ref (ad 0), .int x1, .int x2] (MX D cA A ad S) (some (.int r)) (MX D cA A ad S') := by
  refine Ct_of (by decide +kernel) (Nat.le_of_ble_eq_true rfl) ?_
  intro p e s m args below meth c ls hC hr hlk hnm hX hKX hl
  have hK := hKX.1
  have hx := hC.1
  have hb := hC.2.1
  have hS : va_S A s.heap s.heap [] := va_S.rf
  have hX : MX D cA A ad S s.heap := hX
  have hl : lv_has ls 4 [(0, .ref (ad 0)), (1, .int x1), (2, .int x2)] := hl
  unfold m_join at hf
  refine lv_aload_n hx hb dX11_join_0 rfl (lv_at hl 0 rfl) ?_
  refine lv_aload_n hx hb dX11_join_1 rfl (lv_at hl 0 rfl) ?_
  refine lv_iload_n hx hb dX11_join_2 rfl (lv_at hl 1 rfl) ?_
  obtain ⟨z4, hz4, hf⟩ := cb_e hf
  refine mVi (As := [.int x1]) (rest := [.ref (ad 0)]) hC (c_m_isView hz4) q_m_isView a_1139 (Nat.le_of_ble_eq_true rfl) hX hKX rfl hl.1 (Nat.le_of_ble_eq_true rfl) dX11_join_3 hS (fun H locs hX hS => ?_)
  obtain ⟨k6, hk6, hf⟩ := jn1_e hf
  have Jk6 : ∀ (x5 : Int32) (H : Heap) (locs : List Loc) (ls : Array Slot), MX D cA A ad S H → va_S A s.heap H locs → lv_has ls 4 [(0, .ref (ad 0)), (1, .int x1), (2, .int x2)] → k6 x5 = some (r, S') → W p l e (RM 2 0 0) s m args below meth c H locs 0 0 (MQ below (CtQ A (some (.int r)) (MX D cA A ad S')) args s 0 0 A) (F0 m 22 ls [.int x5, .ref (ad 0)]) := by
    intro x5 H locs ls hX hS hl hf
    rw [hk6] at hf
    refine mput_0 hx hb hC hK hX hS a_968 dX11_join_22 (fun H locs hX hS => ?_)
    obtain ⟨S7, eS7, hf⟩ := lt_e hf
    rw [← eS7] at hX
    refine lv_aload_n hx hb dX11_join_25 rfl (lv_at hl 0 rfl) ?_
    refine mget (v := .int (S7.1 0)) hx hb hC hK hX 0 (by decide) a_968 rfl dX11_join_26 ?_
    obtain ⟨k9, hk9, hf⟩ := jn1_e hf
    have Jk9 : ∀ (S8 : St) (H : Heap) (locs : List Loc) (ls : Array Slot), MX D cA A ad S8 H → va_S A s.heap H locs → lv_has ls 4 [(0, .ref (ad 0)), (1, .int x1), (2, .int x2)] → k9 S8 = some (r, S') → W p l e (RM 2 0 0) s m args below meth c H locs 0 0 (MQ below (CtQ A (some (.int r)) (MX D cA A ad S')) args s 0 0 A) (F0 m 98 ls []) := by
      intro S8 H locs ls hX hS hl hf
      rw [hk9] at hf
      refine lv_aload_n hx hb dX11_join_98 rfl (lv_at hl 0 rfl) ?_
      refine mget (v := .int (S8.1 0)) hx hb hC hK hX 0 (by decide) a_968 rfl dX11_join_99 ?_
      refine lv_if_le (tgt := 107) hx hb dX11_join_102 (by decide) (fun c10 => ?_) (fun c10 => ?_)
      · have hf := it_t c10 hf
        refine lv_aload_n hx hb dX11_join_107 rfl (lv_at hl 0 rfl) ?_
        refine mget (v := .ref (ad 10)) hx hb hC hK hX 10 (by decide) a_978 rfl dX11_join_108 ?_
        refine lv_aload_n hx hb dX11_join_111 rfl (lv_at hl 0 rfl) ?_
        refine mget (v := .int (S8.1 7)) hx hb hC hK hX 7 (by decide) a_975 rfl dX11_join_112 ?_
        refine lv_iload_n hx hb dX11_join_115 rfl (lv_at hl 2 rfl) ?_
        obtain ⟨h12, j11, ej11, hf⟩ := rd_e hf
        refine mast hx hb hC hK hX hS (by decide) h12 ej11 dX11_join_116 (fun H locs hX hS => ?_)
        obtain ⟨S13, eS13, hf⟩ := lt_e hf
        rw [← eS13] at hX
        refine lv_aload_n hx hb dX11_join_117 rfl (lv_at hl 0 rfl) ?_
        refine lv_iconst (v := 3) hx hb dX11_join_118 (by decide) ?_
        refine lv_iload_n hx hb dX11_join_119 rfl (lv_at hl 1 rfl) ?_
        refine lv_aload_n hx hb dX11_join_120 rfl (lv_at hl 0 rfl) ?_
        refine mget (v := .ref (ad 14)) hx hb hC hK hX 14 (by decide) a_982 rfl dX11_join_121 ?_
        refine lv_iload_n hx hb dX11_join_124 rfl (lv_at hl 1 rfl) ?_
        obtain ⟨h15, j14, ej14, hf⟩ := rd_e hf
        refine mald hx hb hC hK hX (by decide) h15 ej14 dX11_join_125 ?_
        refine lv_aload_n hx hb dX11_join_126 rfl (lv_at hl 0 rfl) ?_
        refine mget (v := .ref (ad 14)) hx hb hC hK hX 14 (by decide) a_982 rfl dX11_join_127 ?_
        refine lv_iload_n hx hb dX11_join_130 rfl (lv_at hl 2 rfl) ?_
        obtain ⟨h17, j16, ej16, hf⟩ := rd_e hf
        refine mald hx hb hC hK hX (by decide) h17 ej16 dX11_join_131 ?_
        refine lv_ior hx hb dX11_join_132 ?_
        refine lv_aload_n hx hb dX11_join_133 rfl (lv_at hl 0 rfl) ?_
        refine mget (v := .ref (ad 15)) hx hb hC hK hX 15 (by decide) a_983 rfl dX11_join_134 ?_
        refine lv_iload_n hx hb dX11_join_137 rfl (lv_at hl 1 rfl) ?_
        obtain ⟨h19, j18, ej18, hf⟩ := rd_e hf
        refine mald hx hb hC hK hX (by decide) h19 ej18 dX11_join_138 ?_
        refine lv_aload_n hx hb dX11_join_139 rfl (lv_at hl 0 rfl) ?_
        refine mget (v := .ref (ad 16)) hx hb hC hK hX 16 (by decide) a_984 rfl dX11_join_140 ?_
        refine lv_iload_n hx hb dX11_join_143 rfl (lv_at hl 1 rfl) ?_
        obtain ⟨h21, j20, ej20, hf⟩ := rd_e hf
        refine mald hx hb hC hK hX (by decide) h21 ej20 dX11_join_144 ?_
        refine lv_aload_n hx hb dX11_join_145 rfl (lv_at hl 0 rfl) ?_
        refine mget (v := .ref (ad 16)) hx hb hC hK hX 16 (by decide) a_984 rfl dX11_join_146 ?_
        refine lv_iload_n hx hb dX11_join_149 rfl (lv_at hl 2 rfl) ?_
        obtain ⟨h23, j22, ej22, hf⟩ := rd_e hf
        refine mald hx hb hC hK hX (by decide) h23 ej22 dX11_join_150 ?_
        refine lv_ior hx hb dX11_join_151 ?_
        obtain ⟨z24, S25, hz24, hf⟩ := cb2_e hf
        refine mVi (As := [.int 3, .int x1, .int ((S13.2 14 j14) ||| (S13.2 14 j16)), .int (S13.2 15 j18), .int ((S13.2 16 j20) ||| (S13.2 16 j22))]) (rest := []) hC (c_m_makes hz24) q_m_makes a_1131 (Nat.le_of_ble_eq_true rfl) hX hKX rfl hl.1 (Nat.le_of_ble_eq_true rfl) dX11_join_152 hS (fun H locs hX hS => ?_)
        cases hf
        exact Ct_ri hx hb hr hlk hX hS dX11_join_155
      · have hf := it_f c10 hf
        refine lv_iconst (v := 0) hx hb dX11_join_105 (by decide) ?_
        cases hf
        exact Ct_ri hx hb hr hlk hX hS dX11_join_106
    refine lv_if_ne (tgt := 98) hx hb dX11_join_29 (by decide) (fun c26 => ?_) (fun c26 => ?_)
    · have hf := it_f c26 hf
      exact Jk9 _ _ _ _ hX hS (lv_sub hl [0, 1, 2] rfl) hf
    · have hf := it_t c26 hf
      refine lv_aload_n hx hb dX11_join_32 rfl (lv_at hl 0 rfl) ?_
      refine mget (v := .ref (ad 16)) hx hb hC hK hX 16 (by decide) a_984 rfl dX11_join_33 ?_
      refine lv_iload_n hx hb dX11_join_36 rfl (lv_at hl 1 rfl) ?_
      obtain ⟨h28, j27, ej27, hf⟩ := rd_e hf
      refine mald hx hb hC hK hX (by decide) h28 ej27 dX11_join_37 ?_
      refine lv_aload_n hx hb dX11_join_38 rfl (lv_at hl 0 rfl) ?_
      refine mget (v := .ref (ad 16)) hx hb hC hK hX 16 (by decide) a_984 rfl dX11_join_39 ?_
      refine lv_iload_n hx hb dX11_join_42 rfl (lv_at hl 2 rfl) ?_
      obtain ⟨h30, j29, ej29, hf⟩ := rd_e hf
      refine mald hx hb hC hK hX (by decide) h30 ej29 dX11_join_43 ?_
      refine lv_iand hx hb dX11_join_44 ?_
      obtain ⟨k32, hk32, hf⟩ := jn1_e hf
      have Jk32 : ∀ (x31 : Int32) (H : Heap) (locs : List Loc) (ls : Array Slot), MX D cA A ad S7 H → va_S A s.heap H locs → lv_has ls 4 [(0, .ref (ad 0)), (1, .int x1), (2, .int x2)] → k32 x31 = some (r, S') → W p l e (RM 2 0 0) s m args below meth c H locs 0 0 (MQ below (CtQ A (some (.int r)) (MX D cA A ad S')) args s 0 0 A) (F0 m 71 ls [.int x31]) := by
        intro x31 H locs ls hX hS hl hf
        rw [hk32] at hf
        refine lv_istore_n (lv' := [(3, .int x31), (0, .ref (ad 0)), (1, .int x1), (2, .int x2)]) hx hb dX11_join_71 rfl hl (by decide) rfl (fun ls hl => ?_)
        refine lv_aload_n hx hb dX11_join_72 rfl (lv_at hl 1 rfl) ?_
        refine lv_iload_n hx hb dX11_join_73 rfl (lv_at hl 0 rfl) ?_
        refine lv_if_ne (tgt := 81) hx hb dX11_join_74 (by decide) (fun c33 => ?_) (fun c33 => ?_)
        · have hf := it_f c33 hf
          refine lv_aload_n hx hb dX11_join_81 rfl (lv_at hl 1 rfl) ?_
          refine mget (v := .int (S7.1 7)) hx hb hC hK hX 7 (by decide) a_975 rfl dX11_join_82 ?_
          refine lv_bipush (v := 10) hx hb dX11_join_85 (by decide) ?_
          refine lv_icmp_ne (tgt := 94) hx hb dX11_join_87 (by decide) (fun c34 => ?_) (fun c34 => ?_)
          · have hf := it_f c34 hf
            refine lv_iconst (v := 0) hx hb dX11_join_94 (by decide) ?_
            refine mput_0 hx hb hC hK hX hS a_968 dX11_join_95 (fun H locs hX hS => ?_)
            obtain ⟨S35, eS35, hf⟩ := lt_e hf
            rw [← eS35] at hX
            exact Jk9 _ _ _ _ hX hS (lv_sub hl [1, 2, 3] rfl) hf
          · have hf := it_t c34 hf
            refine lv_iconst (v := 3) hx hb dX11_join_90 (by decide) ?_
            refine lv_goto (tgt := 95) hx hb dX11_join_91 (by decide) ?_
            refine mput_0 hx hb hC hK hX hS a_968 dX11_join_95 (fun H locs hX hS => ?_)
            obtain ⟨S36, eS36, hf⟩ := lt_e hf
            rw [← eS36] at hX
            exact Jk9 _ _ _ _ hX hS (lv_sub hl [1, 2, 3] rfl) hf
        · have hf := it_t c33 hf
          refine lv_iconst (v := 2) hx hb dX11_join_77 (by decide) ?_
          refine lv_goto (tgt := 95) hx hb dX11_join_78 (by decide) ?_
          refine mput_0 hx hb hC hK hX hS a_968 dX11_join_95 (fun H locs hX hS => ?_)
          obtain ⟨S37, eS37, hf⟩ := lt_e hf
          rw [← eS37] at hX
          exact Jk9 _ _ _ _ hX hS (lv_sub hl [1, 2, 3] rfl) hf
      refine lv_if_ne (tgt := 70) hx hb dX11_join_45 (by decide) (fun c38 => ?_) (fun c38 => ?_)
      · have hf := it_f c38 hf
        refine lv_iconst (v := 0) hx hb dX11_join_70 (by decide) ?_
        exact Jk32 _ _ _ _ hX hS (lv_sub hl [0, 1, 2] rfl) hf
      · have hf := it_t c38 hf
        refine lv_aload_n hx hb dX11_join_48 rfl (lv_at hl 0 rfl) ?_
        refine mget (v := .ref (ad 15)) hx hb hC hK hX 15 (by decide) a_983 rfl dX11_join_49 ?_
        refine lv_iload_n hx hb dX11_join_52 rfl (lv_at hl 2 rfl) ?_
        obtain ⟨h40, j39, ej39, hf⟩ := rd_e hf
        refine mald hx hb hC hK hX (by decide) h40 ej39 dX11_join_53 ?_
        refine lv_aload_n hx hb dX11_join_54 rfl (lv_at hl 0 rfl) ?_
        refine mget (v := .ref (ad 14)) hx hb hC hK hX 14 (by decide) a_982 rfl dX11_join_55 ?_
        refine lv_iload_n hx hb dX11_join_58 rfl (lv_at hl 1 rfl) ?_
        obtain ⟨h42, j41, ej41, hf⟩ := rd_e hf
        refine mald hx hb hC hK hX (by decide) h42 ej41 dX11_join_59 ?_
        refine lv_iconst (v := (-1)) hx hb dX11_join_60 (by decide) ?_
        refine lv_ixor hx hb dX11_join_61 ?_
        refine lv_iand hx hb dX11_join_62 ?_
        refine lv_if_ne (tgt := 70) hx hb dX11_join_63 (by decide) (fun c43 => ?_) (fun c43 => ?_)
        · have hf := it_f c43 hf
          refine lv_iconst (v := 0) hx hb dX11_join_70 (by decide) ?_
          exact Jk32 _ _ _ _ hX hS (lv_sub hl [0, 1, 2] rfl) hf
        · have hf := it_t c43 hf
          refine lv_iconst (v := 1) hx hb dX11_join_66 (by decide) ?_
          refine lv_goto (tgt := 71) hx hb dX11_join_67 (by decide) ?_
          exact Jk32 _ _ _ _ hX hS (lv_sub hl [0, 1, 2] rfl) hf
  refine lv_if_eq (tgt := 21) hx hb dX11_join_6 (by decide) (fun c44 => ?_) (fun c44 => ?_)
  · have hf := it_t c44 hf
    refine lv_iconst (v := 1) hx hb dX11_join_21 (by decide) ?_
    exact Jk6 _ _ _ _ hX hS (lv_sub hl [0, 1, 2] rfl) hf
  · have hf := it_f c44 hf
    refine lv_aload_n hx hb dX11_join_9 rfl (lv_at hl 0 rfl) ?_
    refine lv_iload_n hx hb dX11_join_10 rfl (lv_at hl 2 rfl) ?_
    obtain ⟨z45, hz45, hf⟩ := cb_e hf
    refine mVi (As := [.int x2]) (rest := [.ref (ad 0)]) hC (c_m_isView hz45) q_m_isView a_1139 (Nat.le_of_ble_eq_true rfl) hX hKX rfl hl.1 (Nat.le_of_ble_eq_true rfl) dX11_join_11 hS (fun H locs hX hS => ?_)
    refine lv_if_eq (tgt := 21) hx hb dX11_join_14 (by decide) (fun c46 => ?_) (fun c46 => ?_)
    · have hf := it_t c46 hf
      refine lv_iconst (v := 1) hx hb dX11_join_21 (by decide) ?_
      exact Jk6 _ _ _ _ hX hS (lv_sub hl [0, 1, 2] rfl) hf
    · have hf := it_f c46 hf
      refine lv_iconst (v := 0) hx hb dX11_join_17 (by decide) ?_
      refine lv_goto (tgt := 22) hx hb dX11_join_18 (by decide) ?_
      exact Jk6 _ _ _ _ hX hS (lv_sub hl [0, 1, 2] rfl) hf

theorem q_m_isSelected : VWv RX11 yX11_isSelected cX11_isSelected 3 (some .boolean) 2 := ⟨a_1189, a_55, a_1188, a_27, by decide +kernel⟩
set_option maxRecDepth 100000 in
set_option maxHeartbeats 4000000 in
theorem c_m_isSelected {l : Launch} {D : va_G} {cA : Nat → ClassId} {A : Nat → Prop} {ad : Nat → Nat} {x1 : Int32} {x2 : Int32} {S : St} {r : Int32} (hf : m_isSelected x1 x2 S = some r) : Ct l D cA A yX11_isSelected cX11_isSelected 3 (some .boolean) 1 0 0 [.ref (ad 0), .int x1, .int x2] (MX D cA A ad S) (some (.int r)) (MX D cA A ad S) := by
  refine Ct_of (by decide +kernel) (Nat.le_of_ble_eq_true rfl) ?_
  intro p e s m args below meth c ls hC hr hlk hnm hX hKX hl
  have hK := hKX.1
  have hx := hC.1
  have hb := hC.2.1
  have hS : va_S A s.heap s.heap [] := va_S.rf
  have hX : MX D cA A ad S s.heap := hX
  have hl : lv_has ls 3 [(0, .ref (ad 0)), (1, .int x1), (2, .int x2)] := hl
  unfold m_isSelected at hf
  refine lv_aload_n hx hb dX11_isSelected_0 rfl (lv_at hl 0 rfl) ?_
  refine lv_iload_n hx hb dX11_isSelected_1 rfl (lv_at hl 2 rfl) ?_
  refine lv_aload_n hx hb dX11_isSelected_2 rfl (lv_at hl 0 rfl) ?_
  refine mget (v := .ref (ad 11)) hx hb hC hK hX 11 (by decide) a_979 rfl dX11_isSelected_3 ?_
  refine lv_iload_n hx hb dX11_isSelected_6 rfl (lv_at hl 1 rfl) ?_
  obtain ⟨h5, j4, ej4, hf⟩ := rd_e hf
  refine mald hx hb hC hK hX (by decide) h5 ej4 dX11_isSelected_7 ?_
  obtain ⟨z6, hz6, hf⟩ := cb_e hf
  refine mVi (As := [.int x2, .int (S.2 11 j4)]) (rest := []) hC (c_m_digit hz6) q_m_digit a_1106 (Nat.le_of_ble_eq_true rfl) hX hKX rfl hl.1 (Nat.le_of_ble_eq_true rfl) dX11_isSelected_8 hS (fun H locs hX hS => ?_)
  refine lv_aload_n hx hb dX11_isSelected_11 rfl (lv_at hl 0 rfl) ?_
  refine mget (v := .ref (ad 12)) hx hb hC hK hX 12 (by decide) a_980 rfl dX11_isSelected_12 ?_
  refine lv_iload_n hx hb dX11_isSelected_15 rfl (lv_at hl 1 rfl) ?_
  obtain ⟨h8, j7, ej7, hf⟩ := rd_e hf
  refine mald hx hb hC hK hX (by decide) h8 ej7 dX11_isSelected_16 ?_
  obtain ⟨k10, hk10, hf⟩ := jn1_e hf
  have Jk10 : ∀ (x9 : Int32) (H : Heap) (locs : List Loc) (ls : Array Slot), MX D cA A ad S H → va_S A s.heap H locs → lv_has ls 3 [(0, .ref (ad 0)), (1, .int x1)] → k10 x9 = some r → W p l e (RM 1 0 0) s m args below meth c H locs 0 0 (MQ below (CtQ A (some (.int r)) (MX D cA A ad S)) args s 0 0 A) (F0 m 25 ls [.int x9]) := by
    intro x9 H locs ls hX hS hl hf
    rw [hk10] at hf
    refine lv_aload_n hx hb dX11_isSelected_25 rfl (lv_at hl 0 rfl) ?_
    refine mget (v := .ref (ad 13)) hx hb hC hK hX 13 (by decide) a_981 rfl dX11_isSelected_26 ?_
    refine lv_iload_n hx hb dX11_isSelected_29 rfl (lv_at hl 1 rfl) ?_
    obtain ⟨h12, j11, ej11, hf⟩ := rd_e hf
    refine mzald hx hb hC hK hX h12 ej11 dX11_isSelected_30 ?_
    refine lv_icmp_ne (tgt := 38) hx hb dX11_isSelected_31 (by decide) (fun c13 => ?_) (fun c13 => ?_)
    · have hf := it_f c13 hf
      refine lv_iconst (v := 0) hx hb dX11_isSelected_38 (by decide) ?_
      cases hf
      exact Ct_rz hx hb hr hlk nz0 hX hS dX11_isSelected_39
    · have hf := it_t c13 hf
      refine lv_iconst (v := 1) hx hb dX11_isSelected_34 (by decide) ?_
      refine lv_goto (tgt := 39) hx hb dX11_isSelected_35 (by decide) ?_
      cases hf
      exact Ct_rz hx hb hr hlk nz1 hX hS dX11_isSelected_39
  refine lv_icmp_ne (tgt := 24) hx hb dX11_isSelected_17 (by decide) (fun c14 => ?_) (fun c14 => ?_)
  · have hf := it_f c14 hf
    refine lv_iconst (v := 0) hx hb dX11_isSelected_24 (by decide) ?_
    exact Jk10 _ _ _ _ hX hS (lv_sub hl [0, 1] rfl) hf
  · have hf := it_t c14 hf
    refine lv_iconst (v := 1) hx hb dX11_isSelected_20 (by decide) ?_
    refine lv_goto (tgt := 25) hx hb dX11_isSelected_21 (by decide) ?_
    exact Jk10 _ _ _ _ hX hS (lv_sub hl [0, 1] rfl) hf

theorem q_m_both : VWv RX11 yX11_both cX11_both 2 (some .int) 1 := ⟨a_1185, a_55, a_1184, a_26, by decide +kernel⟩
set_option maxRecDepth 100000 in
set_option maxHeartbeats 4000000 in
theorem c_m_both {l : Launch} {D : va_G} {cA : Nat → ClassId} {A : Nat → Prop} {ad : Nat → Nat} {x1 : Int32} {S : St} {r : Int32} (hf : m_both x1 S = some r) : Ct l D cA A yX11_both cX11_both 2 (some .int) 0 0 0 [.ref (ad 0), .int x1] (MX D cA A ad S) (some (.int r)) (MX D cA A ad S) := by
  refine Ct_of (by decide +kernel) (Nat.le_of_ble_eq_true rfl) ?_
  intro p e s m args below meth c ls hC hr hlk hnm hX hKX hl
  have hK := hKX.1
  have hx := hC.1
  have hb := hC.2.1
  have hS : va_S A s.heap s.heap [] := va_S.rf
  have hX : MX D cA A ad S s.heap := hX
  have hl : lv_has ls 2 [(0, .ref (ad 0)), (1, .int x1)] := hl
  unfold m_both at hf
  refine lv_aload_n hx hb dX11_both_0 rfl (lv_at hl 0 rfl) ?_
  refine mget (v := .ref (ad 14)) hx hb hC hK hX 14 (by decide) a_982 rfl dX11_both_1 ?_
  refine lv_aload_n hx hb dX11_both_4 rfl (lv_at hl 0 rfl) ?_
  refine mget (v := .ref (ad 9)) hx hb hC hK hX 9 (by decide) a_977 rfl dX11_both_5 ?_
  refine lv_iload_n hx hb dX11_both_8 rfl (lv_at hl 1 rfl) ?_
  obtain ⟨h4, j3, ej3, hf⟩ := rd_e hf
  refine mald hx hb hC hK hX (by decide) h4 ej3 dX11_both_9 ?_
  obtain ⟨h6, j5, ej5, hf⟩ := rd_e hf
  refine mald hx hb hC hK hX (by decide) h6 ej5 dX11_both_10 ?_
  refine lv_aload_n hx hb dX11_both_11 rfl (lv_at hl 0 rfl) ?_
  refine mget (v := .ref (ad 14)) hx hb hC hK hX 14 (by decide) a_982 rfl dX11_both_12 ?_
  refine lv_aload_n hx hb dX11_both_15 rfl (lv_at hl 0 rfl) ?_
  refine mget (v := .ref (ad 10)) hx hb hC hK hX 10 (by decide) a_978 rfl dX11_both_16 ?_
  refine lv_iload_n hx hb dX11_both_19 rfl (lv_at hl 1 rfl) ?_
  obtain ⟨h8, j7, ej7, hf⟩ := rd_e hf
  refine mald hx hb hC hK hX (by decide) h8 ej7 dX11_both_20 ?_
  obtain ⟨h10, j9, ej9, hf⟩ := rd_e hf
  refine mald hx hb hC hK hX (by decide) h10 ej9 dX11_both_21 ?_
  refine lv_iand hx hb dX11_both_22 ?_
  cases hf
  exact Ct_ri hx hb hr hlk hX hS dX11_both_23

theorem q_m_joins : VWv RX11 yX11_joins cX11_joins 6 none 2 := ⟨a_1181, a_55, a_1180, a_25, by decide +kernel⟩
set_option maxRecDepth 100000 in
set_option maxHeartbeats 4000000 in
theorem c_m_joins {l : Launch} {D : va_G} {cA : Nat → ClassId} {A : Nat → Prop} {ad : Nat → Nat} {x1 : Int32} {x2 : Int32} {S : St} {S' : St} (hf : m_joins x1 x2 S = some S') : Ct l D cA A yX11_joins cX11_joins 6 none 2 0 0 [.ref (ad 0), .int x1, .int x2] (MX D cA A ad S) none (MX D cA A ad S') := by
  refine Ct_of (by decide +kernel) (Nat.le_of_ble_eq_true rfl) ?_
  intro p e s m args below meth c ls hC hr hlk hnm hX hKX hl
  have hK := hKX.1
  have hx := hC.1
  have hb := hC.2.1
  have hS : va_S A s.heap s.heap [] := va_S.rf
  have hX : MX D cA A ad S s.heap := hX
  have hl : lv_has ls 6 [(0, .ref (ad 0)), (1, .int x1), (2, .int x2)] := hl
  unfold m_joins at hf
  refine lv_aload_n hx hb dX11_joins_0 rfl (lv_at hl 0 rfl) ?_
  refine mget (v := .ref (ad 10)) hx hb hC hK hX 10 (by decide) a_978 rfl dX11_joins_1 ?_
  refine lv_iload_n hx hb dX11_joins_4 rfl (lv_at hl 1 rfl) ?_
  obtain ⟨h5, j4, ej4, hf⟩ := rd_e hf
  refine mald hx hb hC hK hX (by decide) h5 ej4 dX11_joins_5 ?_
  refine lv_istore_n (lv' := [(3, .int (S.2 10 j4)), (0, .ref (ad 0)), (1, .int x1), (2, .int x2)]) hx hb dX11_joins_6 rfl hl (by decide) rfl (fun ls hl => ?_)
  refine lv_iconst (v := 0) hx hb dX11_joins_7 (by decide) ?_
  refine lv_istore (lv' := [(4, .int 0), (3, .int (S.2 10 j4)), (0, .ref (ad 0)), (1, .int x1), (2, .int x2)]) hx hb dX11_joins_8 hl (by decide) rfl (fun ls hl => ?_)
  obtain ⟨g8, g80, g8s, hf⟩ := lp2_e hf
  have Lg8 : ∀ (n : Nat) (x6 : Int32) (S7 : St) (H : Heap) (locs : List Loc) (ls : Array Slot), MX D cA A ad S7 H → va_S A s.heap H locs → lv_has ls 6 [(0, .ref (ad 0)), (1, .int x1), (2, .int x2), (3, .int (S.2 10 j4)), (4, .int x6)] → g8 n x6 S7 = some S' → W p l e (RM 2 0 0) s m args below meth c H locs 0 0 (MQ below (CtQ A none (MX D cA A ad S')) args s 0 0 A) (F0 m 10 ls []) := by
    intro n
    induction n with
    | zero => intro x6 S7 H locs ls hX hS hl hf; rw [g80] at hf; cases hf
    | succ n ihg8 =>
      intro x6 S7 H locs ls hX hS hl hf
      rw [g8s] at hf
      refine lv_iload hx hb dX11_joins_10 (lv_at hl 4 rfl) ?_
      refine lv_aload_n hx hb dX11_joins_12 rfl (lv_at hl 0 rfl) ?_
      refine mget (v := .ref (ad 17)) hx hb hC hK hX 17 (by decide) a_985 rfl dX11_joins_13 ?_
      refine lv_iload_n hx hb dX11_joins_16 rfl (lv_at hl 3 rfl) ?_
      obtain ⟨h10, j9, ej9, hf⟩ := rd_e hf
      refine mald hx hb hC hK hX (by decide) h10 ej9 dX11_joins_17 ?_
      refine lv_icmp_ge (tgt := 116) hx hb dX11_joins_18 (by decide) (fun c11 => ?_) (fun c11 => ?_)
      · have hf := it_t c11 hf
        cases hf
        exact Ct_rv hx hb hr hlk hX hS dX11_joins_116
      · have hf := it_f c11 hf
        refine lv_aload_n hx hb dX11_joins_21 rfl (lv_at hl 0 rfl) ?_
        refine mget (v := .ref (ad 18)) hx hb hC hK hX 18 (by decide) a_986 rfl dX11_joins_22 ?_
        refine lv_bipush (v := 40) hx hb dX11_joins_25 (by decide) ?_
        refine lv_iload_n hx hb dX11_joins_27 rfl (lv_at hl 3 rfl) ?_
        refine lv_imul hx hb dX11_joins_28 ?_
        refine lv_iload hx hb dX11_joins_29 (lv_at hl 4 rfl) ?_
        refine lv_iadd hx hb dX11_joins_31 ?_
        obtain ⟨h13, j12, ej12, hf⟩ := rd_e hf
        refine mald hx hb hC hK hX (by decide) h13 ej12 dX11_joins_32 ?_
        refine lv_istore (lv' := [(5, .int (S7.2 18 j12)), (0, .ref (ad 0)), (1, .int x1), (2, .int x2), (3, .int (S.2 10 j4)), (4, .int x6)]) hx hb dX11_joins_33 hl (by decide) rfl (fun ls hl => ?_)
        refine lv_aload_n hx hb dX11_joins_35 rfl (lv_at hl 1 rfl) ?_
        refine lv_iload_n hx hb dX11_joins_36 rfl (lv_at hl 3 rfl) ?_
        refine lv_aload_n hx hb dX11_joins_37 rfl (lv_at hl 1 rfl) ?_
        refine lv_iload_n hx hb dX11_joins_38 rfl (lv_at hl 2 rfl) ?_
        obtain ⟨z14, hz14, hf⟩ := cb_e hf
        refine mVi (As := [.int x1]) (rest := [.int x2, .ref (ad 0)]) hC (c_m_both hz14) q_m_both a_1182 (Nat.le_of_ble_eq_true rfl) hX hKX rfl hl.1 (Nat.le_of_ble_eq_true rfl) dX11_joins_39 hS (fun H locs hX hS => ?_)
        obtain ⟨z15, hz15, hf⟩ := cb_e hf
        refine mVi (As := [.int x2, .int z14]) (rest := []) hC (c_m_part hz15) q_m_part a_1102 (Nat.le_of_ble_eq_true rfl) hX hKX rfl hl.1 (Nat.le_of_ble_eq_true rfl) dX11_joins_42 hS (fun H locs hX hS => ?_)
        refine lv_aload_n hx hb dX11_joins_45 rfl (lv_at hl 1 rfl) ?_
        refine lv_iload hx hb dX11_joins_46 (lv_at hl 0 rfl) ?_
        refine lv_aload_n hx hb dX11_joins_48 rfl (lv_at hl 1 rfl) ?_
        refine lv_iload_n hx hb dX11_joins_49 rfl (lv_at hl 2 rfl) ?_
        obtain ⟨z16, hz16, hf⟩ := cb_e hf
        refine mVi (As := [.int x1]) (rest := [.int (S7.2 18 j12), .ref (ad 0), .int z15]) hC (c_m_both hz16) q_m_both a_1182 (Nat.le_of_ble_eq_true rfl) hX hKX rfl hl.1 (Nat.le_of_ble_eq_true rfl) dX11_joins_50 hS (fun H locs hX hS => ?_)
        obtain ⟨z17, hz17, hf⟩ := cb_e hf
        refine mVi (As := [.int (S7.2 18 j12), .int z16]) (rest := [.int z15]) hC (c_m_part hz17) q_m_part a_1102 (Nat.le_of_ble_eq_true rfl) hX hKX rfl hl.1 (Nat.le_of_ble_eq_true rfl) dX11_joins_53 hS (fun H locs hX hS => ?_)
        refine lv_icmp_ne (tgt := 110) hx hb dX11_joins_56 (by decide) (fun c18 => ?_) (fun c18 => ?_)
        · have hf := it_f c18 hf
          refine lv_iinc (v := (x6 + 1)) (lv' := [(4, .int (x6 + 1)), (5, .int (S7.2 18 j12)), (0, .ref (ad 0)), (1, .int x1), (2, .int x2), (3, .int (S.2 10 j4))]) hx hb dX11_joins_110 hl (k := 5) rfl rfl (by decide) rfl (fun ls hl => ?_)
          refine lv_goto (tgt := 10) hx hb dX11_joins_113 (by decide) ?_
          exact ihg8 _ _ _ _ _ hX hS (lv_sub hl [2, 3, 4, 5, 0] rfl) hf
        · have hf := it_t c18 hf
          refine lv_aload_n hx hb dX11_joins_59 rfl (lv_at hl 1 rfl) ?_
          refine mget (v := .ref (ad 17)) hx hb hC hK hX 17 (by decide) a_985 rfl dX11_joins_60 ?_
          refine lv_iload_n hx hb dX11_joins_63 rfl (lv_at hl 2 rfl) ?_
          refine lv_aload_n hx hb dX11_joins_64 rfl (lv_at hl 1 rfl) ?_
          refine mget (v := .ref (ad 18)) hx hb hC hK hX 18 (by decide) a_986 rfl dX11_joins_65 ?_
          refine lv_bipush (v := 40) hx hb dX11_joins_68 (by decide) ?_
          refine lv_iload_n hx hb dX11_joins_70 rfl (lv_at hl 2 rfl) ?_
          refine lv_imul hx hb dX11_joins_71 ?_
          refine lv_aload_n hx hb dX11_joins_72 rfl (lv_at hl 1 rfl) ?_
          refine mget (v := .ref (ad 17)) hx hb hC hK hX 17 (by decide) a_985 rfl dX11_joins_73 ?_
          refine lv_iload_n hx hb dX11_joins_76 rfl (lv_at hl 2 rfl) ?_
          obtain ⟨h20, j19, ej19, hf⟩ := rd_e hf
          refine mald hx hb hC hK hX (by decide) h20 ej19 dX11_joins_77 ?_
          refine lv_iload_n hx hb dX11_joins_78 rfl (lv_at hl 3 rfl) ?_
          refine lv_aload_n hx hb dX11_joins_79 rfl (lv_at hl 1 rfl) ?_
          refine lv_iload hx hb dX11_joins_80 (lv_at hl 0 rfl) ?_
          refine lv_aload_n hx hb dX11_joins_82 rfl (lv_at hl 1 rfl) ?_
          refine mget (v := .ref (ad 14)) hx hb hC hK hX 14 (by decide) a_982 rfl dX11_joins_83 ?_
          refine lv_iload_n hx hb dX11_joins_86 rfl (lv_at hl 4 rfl) ?_
          obtain ⟨h22, j21, ej21, hf⟩ := rd_e hf
          refine mald hx hb hC hK hX (by decide) h22 ej21 dX11_joins_87 ?_
          refine lv_aload_n hx hb dX11_joins_88 rfl (lv_at hl 1 rfl) ?_
          refine mget (v := .ref (ad 14)) hx hb hC hK hX 14 (by decide) a_982 rfl dX11_joins_89 ?_
          refine lv_aload_n hx hb dX11_joins_92 rfl (lv_at hl 1 rfl) ?_
          refine mget (v := .ref (ad 9)) hx hb hC hK hX 9 (by decide) a_977 rfl dX11_joins_93 ?_
          refine lv_iload_n hx hb dX11_joins_96 rfl (lv_at hl 2 rfl) ?_
          obtain ⟨h24, j23, ej23, hf⟩ := rd_e hf
          refine mald hx hb hC hK hX (by decide) h24 ej23 dX11_joins_97 ?_
          obtain ⟨h26, j25, ej25, hf⟩ := rd_e hf
          refine mald hx hb hC hK hX (by decide) h26 ej25 dX11_joins_98 ?_
          refine lv_iconst (v := (-1)) hx hb dX11_joins_99 (by decide) ?_
          refine lv_ixor hx hb dX11_joins_100 ?_
          refine lv_iand hx hb dX11_joins_101 ?_
          obtain ⟨z27, hz27, hf⟩ := cb_e hf
          refine mVi (As := [.int (S7.2 18 j12), .int ((S7.2 14 j21) &&& ((S7.2 14 j25) ^^^ (-1)))]) (rest := [.int x2, .int (S7.2 17 j19), .int (40 * x1), .ref (ad 18), .int x1, .ref (ad 17)]) hC (c_m_part hz27) q_m_part a_1102 (Nat.le_of_ble_eq_true rfl) hX hKX rfl hl.1 (Nat.le_of_ble_eq_true rfl) dX11_joins_102 hS (fun H locs hX hS => ?_)
          refine lv_iadd hx hb dX11_joins_105 ?_
          obtain ⟨z28, S29, hz28, hf⟩ := cb2_e hf
          refine mSi (As := [.ref (ad 18), .int (40 * x1), .int (S7.2 17 j19), .int (x2 + z27)]) (rest := [.int x1, .ref (ad 17)]) hC (c_m_lays (by decide) hz28) q_m_lays a_1114 (Nat.le_of_ble_eq_true rfl) hX hKX rfl hl.1 (Nat.le_of_ble_eq_true rfl) dX11_joins_106 hS (fun H locs hX hS => ?_)
          obtain ⟨h31, j30, ej30, hf⟩ := rd_e hf
          refine mast hx hb hC hK hX hS (by decide) h31 ej30 dX11_joins_109 (fun H locs hX hS => ?_)
          obtain ⟨S32, eS32, hf⟩ := lt_e hf
          rw [← eS32] at hX
          refine lv_iinc (v := (x6 + 1)) (lv' := [(4, .int (x6 + 1)), (5, .int (S7.2 18 j12)), (0, .ref (ad 0)), (1, .int x1), (2, .int x2), (3, .int (S.2 10 j4))]) hx hb dX11_joins_110 hl (k := 5) rfl rfl (by decide) rfl (fun ls hl => ?_)
          refine lv_goto (tgt := 10) hx hb dX11_joins_113 (by decide) ?_
          exact ihg8 _ _ _ _ _ hX hS (lv_sub hl [2, 3, 4, 5, 0] rfl) hf
  exact Lg8 FU _ _ _ _ _ hX hS (lv_sub hl [2, 3, 4, 1, 0] rfl) hf

theorem q_m_laysRow : VWv RX11 yX11_laysRow cX11_laysRow 3 none 2 := ⟨a_1177, a_55, a_1176, a_24, by decide +kernel⟩
set_option maxRecDepth 100000 in
set_option maxHeartbeats 4000000 in
theorem c_m_laysRow {l : Launch} {D : va_G} {cA : Nat → ClassId} {A : Nat → Prop} {ad : Nat → Nat} {x1 : Int32} {x2 : Int32} {S : St} {S' : St} (hf : m_laysRow x1 x2 S = some S') : Ct l D cA A yX11_laysRow cX11_laysRow 3 none 3 0 0 [.ref (ad 0), .int x1, .int x2] (MX D cA A ad S) none (MX D cA A ad S') := by
  refine Ct_of (by decide +kernel) (Nat.le_of_ble_eq_true rfl) ?_
  intro p e s m args below meth c ls hC hr hlk hnm hX hKX hl
  have hK := hKX.1
  have hx := hC.1
  have hb := hC.2.1
  have hS : va_S A s.heap s.heap [] := va_S.rf
  have hX : MX D cA A ad S s.heap := hX
  have hl : lv_has ls 3 [(0, .ref (ad 0)), (1, .int x1), (2, .int x2)] := hl
  unfold m_laysRow at hf
  refine lv_aload_n hx hb dX11_laysRow_0 rfl (lv_at hl 0 rfl) ?_
  refine mget (v := .ref (ad 8)) hx hb hC hK hX 8 (by decide) a_976 rfl dX11_laysRow_1 ?_
  refine lv_iload_n hx hb dX11_laysRow_4 rfl (lv_at hl 1 rfl) ?_
  obtain ⟨h5, j4, ej4, hf⟩ := rd_e hf
  refine mald hx hb hC hK hX (by decide) h5 ej4 dX11_laysRow_5 ?_
  refine lv_iconst (v := 3) hx hb dX11_laysRow_6 (by decide) ?_
  refine lv_icmp_ne (tgt := 19) hx hb dX11_laysRow_7 (by decide) (fun c6 => ?_) (fun c6 => ?_)
  · have hf := it_f c6 hf
    refine lv_aload_n hx hb dX11_laysRow_19 rfl (lv_at hl 0 rfl) ?_
    refine mget (v := .ref (ad 8)) hx hb hC hK hX 8 (by decide) a_976 rfl dX11_laysRow_20 ?_
    refine lv_iload_n hx hb dX11_laysRow_23 rfl (lv_at hl 1 rfl) ?_
    obtain ⟨h8, j7, ej7, hf⟩ := rd_e hf
    refine mald hx hb hC hK hX (by decide) h8 ej7 dX11_laysRow_24 ?_
    refine lv_iconst (v := 1) hx hb dX11_laysRow_25 (by decide) ?_
    obtain ⟨k9, hk9, hf⟩ := jn0_e hf
    have Jk9 : ∀  (H : Heap) (locs : List Loc) (ls : Array Slot), MX D cA A ad S H → va_S A s.heap H locs → lv_has ls 3 [(0, .ref (ad 0)), (1, .int x1), (2, .int x2)] → k9 = some S' → W p l e (RM 3 0 0) s m args below meth c H locs 0 0 (MQ below (CtQ A none (MX D cA A ad S')) args s 0 0 A) (F0 m 38 ls []) := by
      intro  H locs ls hX hS hl hf
      rw [hk9] at hf
      refine lv_aload_n hx hb dX11_laysRow_38 rfl (lv_at hl 0 rfl) ?_
      refine mget (v := .ref (ad 17)) hx hb hC hK hX 17 (by decide) a_985 rfl dX11_laysRow_39 ?_
      refine lv_iload_n hx hb dX11_laysRow_42 rfl (lv_at hl 1 rfl) ?_
      refine lv_aload_n hx hb dX11_laysRow_43 rfl (lv_at hl 0 rfl) ?_
      refine mget (v := .ref (ad 18)) hx hb hC hK hX 18 (by decide) a_986 rfl dX11_laysRow_44 ?_
      refine lv_bipush (v := 40) hx hb dX11_laysRow_47 (by decide) ?_
      refine lv_iload_n hx hb dX11_laysRow_49 rfl (lv_at hl 1 rfl) ?_
      refine lv_imul hx hb dX11_laysRow_50 ?_
      refine lv_aload_n hx hb dX11_laysRow_51 rfl (lv_at hl 0 rfl) ?_
      refine mget (v := .ref (ad 17)) hx hb hC hK hX 17 (by decide) a_985 rfl dX11_laysRow_52 ?_
      refine lv_iload_n hx hb dX11_laysRow_55 rfl (lv_at hl 1 rfl) ?_
      obtain ⟨h11, j10, ej10, hf⟩ := rd_e hf
      refine mald hx hb hC hK hX (by decide) h11 ej10 dX11_laysRow_56 ?_
      refine lv_aload_n hx hb dX11_laysRow_57 rfl (lv_at hl 0 rfl) ?_
      refine lv_iload_n hx hb dX11_laysRow_58 rfl (lv_at hl 2 rfl) ?_
      refine lv_aload_n hx hb dX11_laysRow_59 rfl (lv_at hl 0 rfl) ?_
      refine mget (v := .ref (ad 14)) hx hb hC hK hX 14 (by decide) a_982 rfl dX11_laysRow_60 ?_
      refine lv_iload_n hx hb dX11_laysRow_63 rfl (lv_at hl 1 rfl) ?_
      obtain ⟨h13, j12, ej12, hf⟩ := rd_e hf
      refine mald hx hb hC hK hX (by decide) h13 ej12 dX11_laysRow_64 ?_
      obtain ⟨z14, hz14, hf⟩ := cb_e hf
      refine mVi (As := [.int x2, .int (S.2 14 j12)]) (rest := [.int (S.2 17 j10), .int (40 * x1), .ref (ad 18), .int x1, .ref (ad 17)]) hC (c_m_part hz14) q_m_part a_1102 (Nat.le_of_ble_eq_true rfl) hX hKX rfl hl.1 (Nat.le_of_ble_eq_true rfl) dX11_laysRow_65 hS (fun H locs hX hS => ?_)
      obtain ⟨z15, S16, hz15, hf⟩ := cb2_e hf
      refine mSi (As := [.ref (ad 18), .int (40 * x1), .int (S.2 17 j10), .int z14]) (rest := [.int x1, .ref (ad 17)]) hC (c_m_lays (by decide) hz15) q_m_lays a_1114 (Nat.le_of_ble_eq_true rfl) hX hKX rfl hl.1 (Nat.le_of_ble_eq_true rfl) dX11_laysRow_68 hS (fun H locs hX hS => ?_)
      obtain ⟨h18, j17, ej17, hf⟩ := rd_e hf
      refine mast hx hb hC hK hX hS (by decide) h18 ej17 dX11_laysRow_71 (fun H locs hX hS => ?_)
      obtain ⟨S19, eS19, hf⟩ := lt_e hf
      rw [← eS19] at hX
      cases hf
      exact Ct_rv hx hb hr hlk hX hS dX11_laysRow_72
    refine lv_icmp_ne (tgt := 38) hx hb dX11_laysRow_26 (by decide) (fun c20 => ?_) (fun c20 => ?_)
    · have hf := it_f c20 hf
      exact Jk9 _ _ _ hX hS (lv_sub hl [0, 1, 2] rfl) hf
    · have hf := it_t c20 hf
      refine lv_aload_n hx hb dX11_laysRow_29 rfl (lv_at hl 0 rfl) ?_
      refine lv_iload_n hx hb dX11_laysRow_30 rfl (lv_at hl 1 rfl) ?_
      refine lv_iload_n hx hb dX11_laysRow_31 rfl (lv_at hl 2 rfl) ?_
      obtain ⟨z21, hz21, hf⟩ := cb_e hf
      refine mVi (As := [.int x1, .int x2]) (rest := []) hC (c_m_isSelected hz21) q_m_isSelected a_1186 (Nat.le_of_ble_eq_true rfl) hX hKX rfl hl.1 (Nat.le_of_ble_eq_true rfl) dX11_laysRow_32 hS (fun H locs hX hS => ?_)
      refine lv_if_eq (tgt := 72) hx hb dX11_laysRow_35 (by decide) (fun c22 => ?_) (fun c22 => ?_)
      · have hf := it_t c22 hf
        cases hf
        exact Ct_rv hx hb hr hlk hX hS dX11_laysRow_72
      · have hf := it_f c22 hf
        exact Jk9 _ _ _ hX hS (lv_sub hl [0, 1, 2] rfl) hf
  · have hf := it_t c6 hf
    refine lv_aload_n hx hb dX11_laysRow_10 rfl (lv_at hl 0 rfl) ?_
    refine lv_iload_n hx hb dX11_laysRow_11 rfl (lv_at hl 1 rfl) ?_
    refine lv_iload_n hx hb dX11_laysRow_12 rfl (lv_at hl 2 rfl) ?_
    obtain ⟨S24, hz23, hf⟩ := cb_e hf
    refine mVv (As := [.int x1, .int x2]) (rest := []) hC (c_m_joins hz23) q_m_joins a_1178 (Nat.le_of_ble_eq_true rfl) hX hKX rfl hl.1 (Nat.le_of_ble_eq_true rfl) dX11_laysRow_13 hS (fun H locs hX hS => ?_)
    refine lv_goto (tgt := 72) hx hb dX11_laysRow_16 (by decide) ?_
    cases hf
    exact Ct_rv hx hb hr hlk hX hS dX11_laysRow_72

theorem q_m_laysViews : VWv RX11 yX11_laysViews cX11_laysViews 4 none 0 := ⟨a_1173, a_55, a_1172, a_23, by decide +kernel⟩
set_option maxRecDepth 100000 in
set_option maxHeartbeats 4000000 in
theorem c_m_laysViews {l : Launch} {D : va_G} {cA : Nat → ClassId} {A : Nat → Prop} {ad : Nat → Nat}  {S : St} {S' : St} (hf : m_laysViews S = some S') : Ct l D cA A yX11_laysViews cX11_laysViews 4 none 4 0 0 [.ref (ad 0)] (MX D cA A ad S) none (MX D cA A ad S') := by
  refine Ct_of (by decide +kernel) (Nat.le_of_ble_eq_true rfl) ?_
  intro p e s m args below meth c ls hC hr hlk hnm hX hKX hl
  have hK := hKX.1
  have hx := hC.1
  have hb := hC.2.1
  have hS : va_S A s.heap s.heap [] := va_S.rf
  have hX : MX D cA A ad S s.heap := hX
  have hl : lv_has ls 4 [(0, .ref (ad 0))] := hl
  unfold m_laysViews at hf
  refine lv_iconst (v := 0) hx hb dX11_laysViews_0 (by decide) ?_
  refine lv_istore_n (lv' := [(1, .int 0), (0, .ref (ad 0))]) hx hb dX11_laysViews_1 rfl hl (by decide) rfl (fun ls hl => ?_)
  obtain ⟨g4, g40, g4s, hf⟩ := lp2_e hf
  have Lg4 : ∀ (n : Nat) (x2 : Int32) (S3 : St) (H : Heap) (locs : List Loc) (ls : Array Slot), MX D cA A ad S3 H → va_S A s.heap H locs → lv_has ls 4 [(0, .ref (ad 0)), (1, .int x2)] → g4 n x2 S3 = some S' → W p l e (RM 4 0 0) s m args below meth c H locs 0 0 (MQ below (CtQ A none (MX D cA A ad S')) args s 0 0 A) (F0 m 2 ls []) := by
    intro n
    induction n with
    | zero => intro x2 S3 H locs ls hX hS hl hf; rw [g40] at hf; cases hf
    | succ n ihg4 =>
      intro x2 S3 H locs ls hX hS hl hf
      rw [g4s] at hf
      refine lv_iload_n hx hb dX11_laysViews_2 rfl (lv_at hl 1 rfl) ?_
      refine lv_aload_n hx hb dX11_laysViews_3 rfl (lv_at hl 0 rfl) ?_
      refine mget (v := .int (S3.1 7)) hx hb hC hK hX 7 (by decide) a_975 rfl dX11_laysViews_4 ?_
      refine lv_icmp_ge (tgt := 105) hx hb dX11_laysViews_7 (by decide) (fun c5 => ?_) (fun c5 => ?_)
      · have hf := it_t c5 hf
        cases hf
        exact Ct_rv hx hb hr hlk hX hS dX11_laysViews_105
      · have hf := it_f c5 hf
        refine lv_aload_n hx hb dX11_laysViews_10 rfl (lv_at hl 0 rfl) ?_
        refine mget (v := .ref (ad 17)) hx hb hC hK hX 17 (by decide) a_985 rfl dX11_laysViews_11 ?_
        refine lv_iload_n hx hb dX11_laysViews_14 rfl (lv_at hl 1 rfl) ?_
        refine lv_iconst (v := 0) hx hb dX11_laysViews_15 (by decide) ?_
        obtain ⟨h7, j6, ej6, hf⟩ := rd_e hf
        refine mast hx hb hC hK hX hS (by decide) h7 ej6 dX11_laysViews_16 (fun H locs hX hS => ?_)
        obtain ⟨S8, eS8, hf⟩ := lt_e hf
        rw [← eS8] at hX
        refine lv_aload_n hx hb dX11_laysViews_17 rfl (lv_at hl 0 rfl) ?_
        refine mget (v := .ref (ad 9)) hx hb hC hK hX 9 (by decide) a_977 rfl dX11_laysViews_18 ?_
        refine lv_iload_n hx hb dX11_laysViews_21 rfl (lv_at hl 1 rfl) ?_
        obtain ⟨h10, j9, ej9, hf⟩ := rd_e hf
        refine mald hx hb hC hK hX (by decide) h10 ej9 dX11_laysViews_22 ?_
        refine lv_istore_n (lv' := [(2, .int (S8.2 9 j9)), (0, .ref (ad 0)), (1, .int x2)]) hx hb dX11_laysViews_23 rfl hl (by decide) rfl (fun ls hl => ?_)
        refine lv_iconst (v := 0) hx hb dX11_laysViews_24 (by decide) ?_
        refine lv_istore_n (lv' := [(3, .int 0), (2, .int (S8.2 9 j9)), (0, .ref (ad 0)), (1, .int x2)]) hx hb dX11_laysViews_25 rfl hl (by decide) rfl (fun ls hl => ?_)
        obtain ⟨g13, g130, g13s, hf⟩ := lp2_e hf
        have Lg13 : ∀ (n : Nat) (x11 : Int32) (S12 : St) (H : Heap) (locs : List Loc) (ls : Array Slot), MX D cA A ad S12 H → va_S A s.heap H locs → lv_has ls 4 [(0, .ref (ad 0)), (1, .int x2), (2, .int (S8.2 9 j9)), (3, .int x11)] → g13 n x11 S12 = some S' → W p l e (RM 4 0 0) s m args below meth c H locs 0 0 (MQ below (CtQ A none (MX D cA A ad S')) args s 0 0 A) (F0 m 26 ls []) := by
          intro n
          induction n with
          | zero => intro x11 S12 H locs ls hX hS hl hf; rw [g130] at hf; cases hf
          | succ n ihg13 =>
            intro x11 S12 H locs ls hX hS hl hf
            rw [g13s] at hf
            refine lv_iload_n hx hb dX11_laysViews_26 rfl (lv_at hl 3 rfl) ?_
            refine lv_aload_n hx hb dX11_laysViews_27 rfl (lv_at hl 0 rfl) ?_
            refine mget (v := .ref (ad 8)) hx hb hC hK hX 8 (by decide) a_976 rfl dX11_laysViews_28 ?_
            refine lv_iload_n hx hb dX11_laysViews_31 rfl (lv_at hl 1 rfl) ?_
            obtain ⟨h15, j14, ej14, hf⟩ := rd_e hf
            refine mald hx hb hC hK hX (by decide) h15 ej14 dX11_laysViews_32 ?_
            obtain ⟨k17, hk17, hf⟩ := jn1_e hf
            have Jk17 : ∀ (x16 : Int32) (H : Heap) (locs : List Loc) (ls : Array Slot), MX D cA A ad S12 H → va_S A s.heap H locs → lv_has ls 4 [(0, .ref (ad 0)), (1, .int x2), (2, .int (S8.2 9 j9)), (3, .int x11)] → k17 x16 = some S' → W p l e (RM 4 0 0) s m args below meth c H locs 0 0 (MQ below (CtQ A none (MX D cA A ad S')) args s 0 0 A) (F0 m 51 ls [.int x16, .int x11]) := by
              intro x16 H locs ls hX hS hl hf
              rw [hk17] at hf
              refine lv_icmp_ge (tgt := 99) hx hb dX11_laysViews_51 (by decide) (fun c18 => ?_) (fun c18 => ?_)
              · have hf := it_t c18 hf
                refine lv_iinc (v := (x2 + 1)) (lv' := [(1, .int (x2 + 1)), (0, .ref (ad 0)), (2, .int (S8.2 9 j9)), (3, .int x11)]) hx hb dX11_laysViews_99 hl (k := 1) rfl rfl (by decide) rfl (fun ls hl => ?_)
                refine lv_goto (tgt := 2) hx hb dX11_laysViews_102 (by decide) ?_
                exact ihg4 _ _ _ _ _ hX hS (lv_sub hl [1, 0] rfl) hf
              · have hf := it_f c18 hf
                refine lv_aload_n hx hb dX11_laysViews_54 rfl (lv_at hl 0 rfl) ?_
                refine lv_iload_n hx hb dX11_laysViews_55 rfl (lv_at hl 1 rfl) ?_
                refine lv_aload_n hx hb dX11_laysViews_56 rfl (lv_at hl 0 rfl) ?_
                refine mget (v := .ref (ad 8)) hx hb hC hK hX 8 (by decide) a_976 rfl dX11_laysViews_57 ?_
                refine lv_iload_n hx hb dX11_laysViews_60 rfl (lv_at hl 1 rfl) ?_
                obtain ⟨h20, j19, ej19, hf⟩ := rd_e hf
                refine mald hx hb hC hK hX (by decide) h20 ej19 dX11_laysViews_61 ?_
                refine lv_if_ne (tgt := 79) hx hb dX11_laysViews_62 (by decide) (fun c21 => ?_) (fun c21 => ?_)
                · have hf := it_f c21 hf
                  refine lv_aload_n hx hb dX11_laysViews_79 rfl (lv_at hl 0 rfl) ?_
                  refine mget (v := .ref (ad 18)) hx hb hC hK hX 18 (by decide) a_986 rfl dX11_laysViews_80 ?_
                  refine lv_bipush (v := 40) hx hb dX11_laysViews_83 (by decide) ?_
                  refine lv_iload_n hx hb dX11_laysViews_85 rfl (lv_at hl 2 rfl) ?_
                  refine lv_imul hx hb dX11_laysViews_86 ?_
                  refine lv_iload_n hx hb dX11_laysViews_87 rfl (lv_at hl 3 rfl) ?_
                  refine lv_iadd hx hb dX11_laysViews_88 ?_
                  obtain ⟨h23, j22, ej22, hf⟩ := rd_e hf
                  refine mald hx hb hC hK hX (by decide) h23 ej22 dX11_laysViews_89 ?_
                  obtain ⟨S25, hz24, hf⟩ := cb_e hf
                  refine mVv (As := [.int x2, .int (S12.2 18 j22)]) (rest := []) hC (c_m_laysRow hz24) q_m_laysRow a_1174 (Nat.le_of_ble_eq_true rfl) hX hKX rfl hl.1 (Nat.le_of_ble_eq_true rfl) dX11_laysViews_90 hS (fun H locs hX hS => ?_)
                  refine lv_iinc (v := (x11 + 1)) (lv' := [(3, .int (x11 + 1)), (0, .ref (ad 0)), (1, .int x2), (2, .int (S8.2 9 j9))]) hx hb dX11_laysViews_93 hl (k := 3) rfl rfl (by decide) rfl (fun ls hl => ?_)
                  refine lv_goto (tgt := 26) hx hb dX11_laysViews_96 (by decide) ?_
                  exact ihg13 _ _ _ _ _ hX hS (lv_sub hl [1, 2, 3, 0] rfl) hf
                · have hf := it_t c21 hf
                  refine lv_aload_n hx hb dX11_laysViews_65 rfl (lv_at hl 0 rfl) ?_
                  refine mget (v := .ref (ad 6)) hx hb hC hK hX 6 (by decide) a_974 rfl dX11_laysViews_66 ?_
                  refine lv_bipush (v := 12) hx hb dX11_laysViews_69 (by decide) ?_
                  refine lv_iload_n hx hb dX11_laysViews_71 rfl (lv_at hl 2 rfl) ?_
                  refine lv_imul hx hb dX11_laysViews_72 ?_
                  refine lv_iload_n hx hb dX11_laysViews_73 rfl (lv_at hl 3 rfl) ?_
                  refine lv_iadd hx hb dX11_laysViews_74 ?_
                  obtain ⟨h27, j26, ej26, hf⟩ := rd_e hf
                  refine mald hx hb hC hK hX (by decide) h27 ej26 dX11_laysViews_75 ?_
                  refine lv_goto (tgt := 90) hx hb dX11_laysViews_76 (by decide) ?_
                  obtain ⟨S29, hz28, hf⟩ := cb_e hf
                  refine mVv (As := [.int x2, .int (S12.2 6 j26)]) (rest := []) hC (c_m_laysRow hz28) q_m_laysRow a_1174 (Nat.le_of_ble_eq_true rfl) hX hKX rfl hl.1 (Nat.le_of_ble_eq_true rfl) dX11_laysViews_90 hS (fun H locs hX hS => ?_)
                  refine lv_iinc (v := (x11 + 1)) (lv' := [(3, .int (x11 + 1)), (0, .ref (ad 0)), (1, .int x2), (2, .int (S8.2 9 j9))]) hx hb dX11_laysViews_93 hl (k := 3) rfl rfl (by decide) rfl (fun ls hl => ?_)
                  refine lv_goto (tgt := 26) hx hb dX11_laysViews_96 (by decide) ?_
                  exact ihg13 _ _ _ _ _ hX hS (lv_sub hl [1, 2, 3, 0] rfl) hf
            refine lv_if_ne (tgt := 45) hx hb dX11_laysViews_33 (by decide) (fun c30 => ?_) (fun c30 => ?_)
            · have hf := it_f c30 hf
              refine lv_aload_n hx hb dX11_laysViews_45 rfl (lv_at hl 0 rfl) ?_
              refine mget (v := .ref (ad 17)) hx hb hC hK hX 17 (by decide) a_985 rfl dX11_laysViews_46 ?_
              refine lv_iload_n hx hb dX11_laysViews_49 rfl (lv_at hl 2 rfl) ?_
              obtain ⟨h32, j31, ej31, hf⟩ := rd_e hf
              refine mald hx hb hC hK hX (by decide) h32 ej31 dX11_laysViews_50 ?_
              exact Jk17 _ _ _ _ hX hS (lv_sub hl [0, 1, 2, 3] rfl) hf
            · have hf := it_t c30 hf
              refine lv_aload_n hx hb dX11_laysViews_36 rfl (lv_at hl 0 rfl) ?_
              refine mget (v := .ref (ad 5)) hx hb hC hK hX 5 (by decide) a_973 rfl dX11_laysViews_37 ?_
              refine lv_iload_n hx hb dX11_laysViews_40 rfl (lv_at hl 2 rfl) ?_
              obtain ⟨h34, j33, ej33, hf⟩ := rd_e hf
              refine mald hx hb hC hK hX (by decide) h34 ej33 dX11_laysViews_41 ?_
              refine lv_goto (tgt := 51) hx hb dX11_laysViews_42 (by decide) ?_
              exact Jk17 _ _ _ _ hX hS (lv_sub hl [0, 1, 2, 3] rfl) hf
        exact Lg13 FU _ _ _ _ _ hX hS (lv_sub hl [2, 3, 1, 0] rfl) hf
  exact Lg4 FU _ _ _ _ _ hX hS (lv_sub hl [1, 0] rfl) hf

theorem q_m_asksView : VWv RX11 yX11_asksView cX11_asksView 2 (some .boolean) 1 := ⟨a_1161, a_55, a_1160, a_22, by decide +kernel⟩
set_option maxRecDepth 100000 in
set_option maxHeartbeats 4000000 in
theorem c_m_asksView {l : Launch} {D : va_G} {cA : Nat → ClassId} {A : Nat → Prop} {ad : Nat → Nat} {x1 : Int32} {S : St} {r : Int32} {S' : St} (hf : m_asksView x1 S = some (r, S')) : Ct l D cA A yX11_asksView cX11_asksView 2 (some .boolean) 2 0 0 [.ref (ad 0), .int x1] (MX D cA A ad S) (some (.int r)) (MX D cA A ad S') := by
  refine Ct_of (by decide +kernel) (Nat.le_of_ble_eq_true rfl) ?_
  intro p e s m args below meth c ls hC hr hlk hnm hX hKX hl
  have hK := hKX.1
  have hx := hC.1
  have hb := hC.2.1
  have hS : va_S A s.heap s.heap [] := va_S.rf
  have hX : MX D cA A ad S s.heap := hX
  have hl : lv_has ls 2 [(0, .ref (ad 0)), (1, .int x1)] := hl
  unfold m_asksView at hf
  refine lv_aload_n hx hb dX11_asksView_0 rfl (lv_at hl 0 rfl) ?_
  refine lv_aload_n hx hb dX11_asksView_1 rfl (lv_at hl 0 rfl) ?_
  refine lv_iload_n hx hb dX11_asksView_2 rfl (lv_at hl 1 rfl) ?_
  obtain ⟨z3, hz3, hf⟩ := cb_e hf
  refine mVi (As := [.int x1]) (rest := [.ref (ad 0)]) hC (c_m_isView hz3) q_m_isView a_1139 (Nat.le_of_ble_eq_true rfl) hX hKX rfl hl.1 (Nat.le_of_ble_eq_true rfl) dX11_asksView_3 hS (fun H locs hX hS => ?_)
  obtain ⟨k5, hk5, hf⟩ := jn1_e hf
  have Jk5 : ∀ (x4 : Int32) (H : Heap) (locs : List Loc) (ls : Array Slot), MX D cA A ad S H → va_S A s.heap H locs → lv_has ls 2 [(0, .ref (ad 0))] → k5 x4 = some (r, S') → W p l e (RM 2 0 0) s m args below meth c H locs 0 0 (MQ below (CtQ A (some (.int r)) (MX D cA A ad S')) args s 0 0 A) (F0 m 14 ls [.int x4, .ref (ad 0)]) := by
    intro x4 H locs ls hX hS hl hf
    rw [hk5] at hf
    refine mput_0 hx hb hC hK hX hS a_968 dX11_asksView_14 (fun H locs hX hS => ?_)
    obtain ⟨S6, eS6, hf⟩ := lt_e hf
    rw [← eS6] at hX
    refine lv_aload_n hx hb dX11_asksView_17 rfl (lv_at hl 0 rfl) ?_
    refine mget (v := .int (S6.1 0)) hx hb hC hK hX 0 (by decide) a_968 rfl dX11_asksView_18 ?_
    refine lv_if_ne (tgt := 28) hx hb dX11_asksView_21 (by decide) (fun c7 => ?_) (fun c7 => ?_)
    · have hf := it_f c7 hf
      refine lv_iconst (v := 0) hx hb dX11_asksView_28 (by decide) ?_
      cases hf
      exact Ct_rz hx hb hr hlk nz0 hX hS dX11_asksView_29
    · have hf := it_t c7 hf
      refine lv_iconst (v := 1) hx hb dX11_asksView_24 (by decide) ?_
      refine lv_goto (tgt := 29) hx hb dX11_asksView_25 (by decide) ?_
      cases hf
      exact Ct_rz hx hb hr hlk nz1 hX hS dX11_asksView_29
  refine lv_if_eq (tgt := 13) hx hb dX11_asksView_6 (by decide) (fun c8 => ?_) (fun c8 => ?_)
  · have hf := it_t c8 hf
    refine lv_iconst (v := 1) hx hb dX11_asksView_13 (by decide) ?_
    exact Jk5 _ _ _ _ hX hS (lv_sub hl [0] rfl) hf
  · have hf := it_f c8 hf
    refine lv_iconst (v := 0) hx hb dX11_asksView_9 (by decide) ?_
    refine lv_goto (tgt := 14) hx hb dX11_asksView_10 (by decide) ?_
    exact Jk5 _ _ _ _ hX hS (lv_sub hl [0] rfl) hf

theorem q_m_columns : VWv RX11 yX11_columns cX11_columns 2 (some .int) 1 := ⟨a_1157, a_55, a_1155, a_1156, by decide +kernel⟩
set_option maxRecDepth 100000 in
set_option maxHeartbeats 4000000 in
theorem c_m_columns {l : Launch} {D : va_G} {cA : Nat → ClassId} {A : Nat → Prop} {ad : Nat → Nat} {x1 : Int32} {S : St} {r : Int32} {S' : St} (hf : m_columns x1 S = some (r, S')) : Ct l D cA A yX11_columns cX11_columns 2 (some .int) 3 0 0 [.ref (ad 0), .int x1] (MX D cA A ad S) (some (.int r)) (MX D cA A ad S') := by
  refine Ct_of (by decide +kernel) (Nat.le_of_ble_eq_true rfl) ?_
  intro p e s m args below meth c ls hC hr hlk hnm hX hKX hl
  have hK := hKX.1
  have hx := hC.1
  have hb := hC.2.1
  have hS : va_S A s.heap s.heap [] := va_S.rf
  have hX : MX D cA A ad S s.heap := hX
  have hl : lv_has ls 2 [(0, .ref (ad 0)), (1, .int x1)] := hl
  unfold m_columns at hf
  refine lv_aload_n hx hb dX11_columns_0 rfl (lv_at hl 0 rfl) ?_
  refine lv_iload_n hx hb dX11_columns_1 rfl (lv_at hl 1 rfl) ?_
  obtain ⟨z3, S4, hz3, hf⟩ := cb2_e hf
  refine mVi (As := [.int x1]) (rest := []) hC (c_m_asksView hz3) q_m_asksView a_1158 (Nat.le_of_ble_eq_true rfl) hX hKX rfl hl.1 (Nat.le_of_ble_eq_true rfl) dX11_columns_2 hS (fun H locs hX hS => ?_)
  refine lv_if_eq (tgt := 17) hx hb dX11_columns_5 (by decide) (fun c5 => ?_) (fun c5 => ?_)
  · have hf := it_t c5 hf
    refine lv_iconst (v := 0) hx hb dX11_columns_17 (by decide) ?_
    cases hf
    exact Ct_ri hx hb hr hlk hX hS dX11_columns_18
  · have hf := it_f c5 hf
    refine lv_aload_n hx hb dX11_columns_8 rfl (lv_at hl 0 rfl) ?_
    refine mget (v := .ref (ad 14)) hx hb hC hK hX 14 (by decide) a_982 rfl dX11_columns_9 ?_
    refine lv_iload_n hx hb dX11_columns_12 rfl (lv_at hl 1 rfl) ?_
    obtain ⟨h7, j6, ej6, hf⟩ := rd_e hf
    refine mald hx hb hC hK hX (by decide) h7 ej6 dX11_columns_13 ?_
    refine lv_goto (tgt := 18) hx hb dX11_columns_14 (by decide) ?_
    cases hf
    exact Ct_ri hx hb hr hlk hX hS dX11_columns_18

theorem q_m_key : VWv RX11 yX11_key cX11_key 2 (some .int) 1 := ⟨a_1165, a_55, a_1163, a_1164, by decide +kernel⟩
set_option maxRecDepth 100000 in
set_option maxHeartbeats 4000000 in
theorem c_m_key {l : Launch} {D : va_G} {cA : Nat → ClassId} {A : Nat → Prop} {ad : Nat → Nat} {x1 : Int32} {S : St} {r : Int32} {S' : St} (hf : m_key x1 S = some (r, S')) : Ct l D cA A yX11_key cX11_key 2 (some .int) 3 0 0 [.ref (ad 0), .int x1] (MX D cA A ad S) (some (.int r)) (MX D cA A ad S') := by
  refine Ct_of (by decide +kernel) (Nat.le_of_ble_eq_true rfl) ?_
  intro p e s m args below meth c ls hC hr hlk hnm hX hKX hl
  have hK := hKX.1
  have hx := hC.1
  have hb := hC.2.1
  have hS : va_S A s.heap s.heap [] := va_S.rf
  have hX : MX D cA A ad S s.heap := hX
  have hl : lv_has ls 2 [(0, .ref (ad 0)), (1, .int x1)] := hl
  unfold m_key at hf
  refine lv_aload_n hx hb dX11_key_0 rfl (lv_at hl 0 rfl) ?_
  refine lv_iload_n hx hb dX11_key_1 rfl (lv_at hl 1 rfl) ?_
  obtain ⟨z3, S4, hz3, hf⟩ := cb2_e hf
  refine mVi (As := [.int x1]) (rest := []) hC (c_m_asksView hz3) q_m_asksView a_1158 (Nat.le_of_ble_eq_true rfl) hX hKX rfl hl.1 (Nat.le_of_ble_eq_true rfl) dX11_key_2 hS (fun H locs hX hS => ?_)
  refine lv_if_eq (tgt := 17) hx hb dX11_key_5 (by decide) (fun c5 => ?_) (fun c5 => ?_)
  · have hf := it_t c5 hf
    refine lv_iconst (v := 0) hx hb dX11_key_17 (by decide) ?_
    cases hf
    exact Ct_ri hx hb hr hlk hX hS dX11_key_18
  · have hf := it_f c5 hf
    refine lv_aload_n hx hb dX11_key_8 rfl (lv_at hl 0 rfl) ?_
    refine mget (v := .ref (ad 15)) hx hb hC hK hX 15 (by decide) a_983 rfl dX11_key_9 ?_
    refine lv_iload_n hx hb dX11_key_12 rfl (lv_at hl 1 rfl) ?_
    obtain ⟨h7, j6, ej6, hf⟩ := rd_e hf
    refine mald hx hb hC hK hX (by decide) h7 ej6 dX11_key_13 ?_
    refine lv_goto (tgt := 18) hx hb dX11_key_14 (by decide) ?_
    cases hf
    exact Ct_ri hx hb hr hlk hX hS dX11_key_18

theorem q_m_rows : VWv RX11 yX11_rows cX11_rows 2 (some .int) 1 := ⟨a_1169, a_55, a_1167, a_1168, by decide +kernel⟩
set_option maxRecDepth 100000 in
set_option maxHeartbeats 4000000 in
theorem c_m_rows {l : Launch} {D : va_G} {cA : Nat → ClassId} {A : Nat → Prop} {ad : Nat → Nat} {x1 : Int32} {S : St} {r : Int32} {S' : St} (hf : m_rows x1 S = some (r, S')) : Ct l D cA A yX11_rows cX11_rows 2 (some .int) 5 0 0 [.ref (ad 0), .int x1] (MX D cA A ad S) (some (.int r)) (MX D cA A ad S') := by
  refine Ct_of (by decide +kernel) (Nat.le_of_ble_eq_true rfl) ?_
  intro p e s m args below meth c ls hC hr hlk hnm hX hKX hl
  have hK := hKX.1
  have hx := hC.1
  have hb := hC.2.1
  have hS : va_S A s.heap s.heap [] := va_S.rf
  have hX : MX D cA A ad S s.heap := hX
  have hl : lv_has ls 2 [(0, .ref (ad 0)), (1, .int x1)] := hl
  unfold m_rows at hf
  refine lv_aload_n hx hb dX11_rows_0 rfl (lv_at hl 0 rfl) ?_
  refine lv_iload_n hx hb dX11_rows_1 rfl (lv_at hl 1 rfl) ?_
  obtain ⟨z3, S4, hz3, hf⟩ := cb2_e hf
  refine mVi (As := [.int x1]) (rest := []) hC (c_m_asksView hz3) q_m_asksView a_1158 (Nat.le_of_ble_eq_true rfl) hX hKX rfl hl.1 (Nat.le_of_ble_eq_true rfl) dX11_rows_2 hS (fun H locs hX hS => ?_)
  refine lv_if_ne (tgt := 10) hx hb dX11_rows_5 (by decide) (fun c5 => ?_) (fun c5 => ?_)
  · have hf := it_f c5 hf
    refine lv_aload_n hx hb dX11_rows_10 rfl (lv_at hl 0 rfl) ?_
    obtain ⟨S7, hz6, hf⟩ := cb_e hf
    refine mVv (As := []) (rest := []) hC (c_m_laysViews hz6) q_m_laysViews a_1170 (Nat.le_of_ble_eq_true rfl) hX hKX rfl hl.1 (Nat.le_of_ble_eq_true rfl) dX11_rows_11 hS (fun H locs hX hS => ?_)
    refine lv_aload_n hx hb dX11_rows_14 rfl (lv_at hl 0 rfl) ?_
    refine mget (v := .ref (ad 17)) hx hb hC hK hX 17 (by decide) a_985 rfl dX11_rows_15 ?_
    refine lv_iload_n hx hb dX11_rows_18 rfl (lv_at hl 1 rfl) ?_
    obtain ⟨h9, j8, ej8, hf⟩ := rd_e hf
    refine mald hx hb hC hK hX (by decide) h9 ej8 dX11_rows_19 ?_
    cases hf
    exact Ct_ri hx hb hr hlk hX hS dX11_rows_20
  · have hf := it_t c5 hf
    refine lv_iconst (v := 0) hx hb dX11_rows_8 (by decide) ?_
    cases hf
    exact Ct_ri hx hb hr hlk hX hS dX11_rows_9

theorem q_m_row : VWv RX11 yX11_row cX11_row 3 (some .int) 2 := ⟨a_1193, a_55, a_1191, a_1192, by decide +kernel⟩
set_option maxRecDepth 100000 in
set_option maxHeartbeats 4000000 in
theorem c_m_row {l : Launch} {D : va_G} {cA : Nat → ClassId} {A : Nat → Prop} {ad : Nat → Nat} {x1 : Int32} {x2 : Int32} {S : St} {r : Int32} {S' : St} (hf : m_row x1 x2 S = some (r, S')) : Ct l D cA A yX11_row cX11_row 3 (some .int) 5 0 0 [.ref (ad 0), .int x1, .int x2] (MX D cA A ad S) (some (.int r)) (MX D cA A ad S') := by
  refine Ct_of (by decide +kernel) (Nat.le_of_ble_eq_true rfl) ?_
  intro p e s m args below meth c ls hC hr hlk hnm hX hKX hl
  have hK := hKX.1
  have hx := hC.1
  have hb := hC.2.1
  have hS : va_S A s.heap s.heap [] := va_S.rf
  have hX : MX D cA A ad S s.heap := hX
  have hl : lv_has ls 3 [(0, .ref (ad 0)), (1, .int x1), (2, .int x2)] := hl
  unfold m_row at hf
  refine lv_aload_n hx hb dX11_row_0 rfl (lv_at hl 0 rfl) ?_
  refine lv_iload_n hx hb dX11_row_1 rfl (lv_at hl 1 rfl) ?_
  obtain ⟨z4, S5, hz4, hf⟩ := cb2_e hf
  refine mVi (As := [.int x1]) (rest := []) hC (c_m_asksView hz4) q_m_asksView a_1158 (Nat.le_of_ble_eq_true rfl) hX hKX rfl hl.1 (Nat.le_of_ble_eq_true rfl) dX11_row_2 hS (fun H locs hX hS => ?_)
  refine lv_if_ne (tgt := 10) hx hb dX11_row_5 (by decide) (fun c6 => ?_) (fun c6 => ?_)
  · have hf := it_f c6 hf
    refine lv_aload_n hx hb dX11_row_10 rfl (lv_at hl 0 rfl) ?_
    obtain ⟨S8, hz7, hf⟩ := cb_e hf
    refine mVv (As := []) (rest := []) hC (c_m_laysViews hz7) q_m_laysViews a_1170 (Nat.le_of_ble_eq_true rfl) hX hKX rfl hl.1 (Nat.le_of_ble_eq_true rfl) dX11_row_11 hS (fun H locs hX hS => ?_)
    refine lv_aload_n hx hb dX11_row_14 rfl (lv_at hl 0 rfl) ?_
    refine lv_iload_n hx hb dX11_row_15 rfl (lv_at hl 2 rfl) ?_
    refine lv_iconst (v := 0) hx hb dX11_row_16 (by decide) ?_
    refine lv_aload_n hx hb dX11_row_17 rfl (lv_at hl 0 rfl) ?_
    refine mget (v := .ref (ad 17)) hx hb hC hK hX 17 (by decide) a_985 rfl dX11_row_18 ?_
    refine lv_iload_n hx hb dX11_row_21 rfl (lv_at hl 1 rfl) ?_
    obtain ⟨h10, j9, ej9, hf⟩ := rd_e hf
    refine mald hx hb hC hK hX (by decide) h10 ej9 dX11_row_22 ?_
    refine lv_iconst (v := 1) hx hb dX11_row_23 (by decide) ?_
    refine lv_isub hx hb dX11_row_24 ?_
    obtain ⟨z11, hz11, hf⟩ := cb_e hf
    refine mSi (As := [.int x2, .int 0, .int ((S8.2 17 j9) - 1)]) (rest := [.ref (ad 0)]) hC (c_m_in hz11) q_m_in a_1086 (Nat.le_of_ble_eq_true rfl) hX hKX rfl hl.1 (Nat.le_of_ble_eq_true rfl) dX11_row_25 hS (fun H locs hX hS => ?_)
    obtain ⟨k13, hk13, hf⟩ := jn1_e hf
    have Jk13 : ∀ (x12 : Int32) (H : Heap) (locs : List Loc) (ls : Array Slot), MX D cA A ad S8 H → va_S A s.heap H locs → lv_has ls 3 [(0, .ref (ad 0)), (1, .int x1), (2, .int x2)] → k13 x12 = some (r, S') → W p l e (RM 5 0 0) s m args below meth c H locs 0 0 (MQ below (CtQ A (some (.int r)) (MX D cA A ad S')) args s 0 0 A) (F0 m 36 ls [.int x12, .ref (ad 0)]) := by
      intro x12 H locs ls hX hS hl hf
      rw [hk13] at hf
      refine mput_0 hx hb hC hK hX hS a_968 dX11_row_36 (fun H locs hX hS => ?_)
      obtain ⟨S14, eS14, hf⟩ := lt_e hf
      rw [← eS14] at hX
      refine lv_aload_n hx hb dX11_row_39 rfl (lv_at hl 0 rfl) ?_
      refine mget (v := .int (S14.1 0)) hx hb hC hK hX 0 (by decide) a_968 rfl dX11_row_40 ?_
      refine lv_if_le (tgt := 50) hx hb dX11_row_43 (by decide) (fun c15 => ?_) (fun c15 => ?_)
      · have hf := it_t c15 hf
        refine lv_aload_n hx hb dX11_row_50 rfl (lv_at hl 0 rfl) ?_
        refine mget (v := .ref (ad 18)) hx hb hC hK hX 18 (by decide) a_986 rfl dX11_row_51 ?_
        refine lv_bipush (v := 40) hx hb dX11_row_54 (by decide) ?_
        refine lv_iload_n hx hb dX11_row_56 rfl (lv_at hl 1 rfl) ?_
        refine lv_imul hx hb dX11_row_57 ?_
        refine lv_iload_n hx hb dX11_row_58 rfl (lv_at hl 2 rfl) ?_
        refine lv_iadd hx hb dX11_row_59 ?_
        obtain ⟨h17, j16, ej16, hf⟩ := rd_e hf
        refine mald hx hb hC hK hX (by decide) h17 ej16 dX11_row_60 ?_
        cases hf
        exact Ct_ri hx hb hr hlk hX hS dX11_row_61
      · have hf := it_f c15 hf
        refine lv_iconst (v := 0) hx hb dX11_row_46 (by decide) ?_
        refine lv_goto (tgt := 61) hx hb dX11_row_47 (by decide) ?_
        cases hf
        exact Ct_ri hx hb hr hlk hX hS dX11_row_61
    refine lv_if_eq (tgt := 35) hx hb dX11_row_28 (by decide) (fun c18 => ?_) (fun c18 => ?_)
    · have hf := it_t c18 hf
      refine lv_iconst (v := 1) hx hb dX11_row_35 (by decide) ?_
      exact Jk13 _ _ _ _ hX hS (lv_sub hl [0, 1, 2] rfl) hf
    · have hf := it_f c18 hf
      refine lv_iconst (v := 0) hx hb dX11_row_31 (by decide) ?_
      refine lv_goto (tgt := 36) hx hb dX11_row_32 (by decide) ?_
      exact Jk13 _ _ _ _ hX hS (lv_sub hl [0, 1, 2] rfl) hf
  · have hf := it_t c6 hf
    refine lv_iconst (v := 0) hx hb dX11_row_8 (by decide) ?_
    cases hf
    exact Ct_ri hx hb hr hlk hX hS dX11_row_9

theorem q_m_open : VWv RX11 yX11_open cX11_open 3 (some .int) 1 := ⟨a_1197, a_55, a_1195, a_1196, by decide +kernel⟩
set_option maxRecDepth 100000 in
set_option maxHeartbeats 4000000 in
theorem c_m_open {l : Launch} {D : va_G} {cA : Nat → ClassId} {A : Nat → Prop} {ad : Nat → Nat} {x1 : Int32} {S : St} {r : Int32} {S' : St} (hf : m_open x1 S = some (r, S')) : Ct l D cA A yX11_open cX11_open 3 (some .int) 5 0 0 [.ref (ad 0), .int x1] (MX D cA A ad S) (some (.int r)) (MX D cA A ad S') := by
  refine Ct_of (by decide +kernel) (Nat.le_of_ble_eq_true rfl) ?_
  intro p e s m args below meth c ls hC hr hlk hnm hX hKX hl
  have hK := hKX.1
  have hx := hC.1
  have hb := hC.2.1
  have hS : va_S A s.heap s.heap [] := va_S.rf
  have hX : MX D cA A ad S s.heap := hX
  have hl : lv_has ls 3 [(0, .ref (ad 0)), (1, .int x1)] := hl
  unfold m_open at hf
  refine lv_aload_n hx hb dX11_open_0 rfl (lv_at hl 0 rfl) ?_
  refine lv_iload_n hx hb dX11_open_1 rfl (lv_at hl 1 rfl) ?_
  obtain ⟨z3, S4, hz3, hf⟩ := cb2_e hf
  refine mVi (As := [.int x1]) (rest := []) hC (c_m_asksView hz3) q_m_asksView a_1158 (Nat.le_of_ble_eq_true rfl) hX hKX rfl hl.1 (Nat.le_of_ble_eq_true rfl) dX11_open_2 hS (fun H locs hX hS => ?_)
  refine lv_if_ne (tgt := 10) hx hb dX11_open_5 (by decide) (fun c5 => ?_) (fun c5 => ?_)
  · have hf := it_f c5 hf
    refine lv_aload_n hx hb dX11_open_10 rfl (lv_at hl 0 rfl) ?_
    obtain ⟨S7, hz6, hf⟩ := cb_e hf
    refine mVv (As := []) (rest := []) hC (c_m_laysViews hz6) q_m_laysViews a_1170 (Nat.le_of_ble_eq_true rfl) hX hKX rfl hl.1 (Nat.le_of_ble_eq_true rfl) dX11_open_11 hS (fun H locs hX hS => ?_)
    refine lv_aload_n hx hb dX11_open_14 rfl (lv_at hl 0 rfl) ?_
    refine lv_iconst (v := 1) hx hb dX11_open_15 (by decide) ?_
    refine mput_21 hx hb hC hK hX hS (by decide) a_989 dX11_open_16 (fun H locs hX hS => ?_)
    obtain ⟨S8, eS8, hf⟩ := lt_e hf
    rw [← eS8] at hX
    refine lv_aload_n hx hb dX11_open_19 rfl (lv_at hl 0 rfl) ?_
    refine lv_iload_n hx hb dX11_open_20 rfl (lv_at hl 1 rfl) ?_
    refine mput_22 hx hb hC hK hX hS a_990 dX11_open_21 (fun H locs hX hS => ?_)
    obtain ⟨S9, eS9, hf⟩ := lt_e hf
    rw [← eS9] at hX
    refine lv_aload_n hx hb dX11_open_24 rfl (lv_at hl 0 rfl) ?_
    refine lv_aload_n hx hb dX11_open_25 rfl (lv_at hl 0 rfl) ?_
    refine mget (v := .ref (ad 17)) hx hb hC hK hX 17 (by decide) a_985 rfl dX11_open_26 ?_
    refine lv_iload_n hx hb dX11_open_29 rfl (lv_at hl 1 rfl) ?_
    obtain ⟨h11, j10, ej10, hf⟩ := rd_e hf
    refine mald hx hb hC hK hX (by decide) h11 ej10 dX11_open_30 ?_
    refine mput_23 hx hb hC hK hX hS a_991 dX11_open_31 (fun H locs hX hS => ?_)
    obtain ⟨S12, eS12, hf⟩ := lt_e hf
    rw [← eS12] at hX
    refine lv_iconst (v := 0) hx hb dX11_open_34 (by decide) ?_
    refine lv_istore_n (lv' := [(2, .int 0), (0, .ref (ad 0)), (1, .int x1)]) hx hb dX11_open_35 rfl hl (by decide) rfl (fun ls hl => ?_)
    obtain ⟨g15, g150, g15s, hf⟩ := lp2_e hf
    have Lg15 : ∀ (n : Nat) (x13 : Int32) (S14 : St) (H : Heap) (locs : List Loc) (ls : Array Slot), MX D cA A ad S14 H → va_S A s.heap H locs → lv_has ls 3 [(0, .ref (ad 0)), (1, .int x1), (2, .int x13)] → g15 n x13 S14 = some (r, S') → W p l e (RM 5 0 0) s m args below meth c H locs 0 0 (MQ below (CtQ A (some (.int r)) (MX D cA A ad S')) args s 0 0 A) (F0 m 36 ls []) := by
      intro n
      induction n with
      | zero => intro x13 S14 H locs ls hX hS hl hf; rw [g150] at hf; cases hf
      | succ n ihg15 =>
        intro x13 S14 H locs ls hX hS hl hf
        rw [g15s] at hf
        refine lv_iload_n hx hb dX11_open_36 rfl (lv_at hl 2 rfl) ?_
        refine lv_aload_n hx hb dX11_open_37 rfl (lv_at hl 0 rfl) ?_
        refine mget (v := .int (S14.1 23)) hx hb hC hK hX 23 (by decide) a_991 rfl dX11_open_38 ?_
        refine lv_icmp_ge (tgt := 67) hx hb dX11_open_41 (by decide) (fun c16 => ?_) (fun c16 => ?_)
        · have hf := it_t c16 hf
          refine lv_aload_n hx hb dX11_open_67 rfl (lv_at hl 0 rfl) ?_
          refine mget (v := .int (S14.1 23)) hx hb hC hK hX 23 (by decide) a_991 rfl dX11_open_68 ?_
          cases hf
          exact Ct_ri hx hb hr hlk hX hS dX11_open_71
        · have hf := it_f c16 hf
          refine lv_aload_n hx hb dX11_open_44 rfl (lv_at hl 0 rfl) ?_
          refine mget (v := .ref (ad 24)) hx hb hC hK hX 24 (by decide) a_992 rfl dX11_open_45 ?_
          refine lv_iload_n hx hb dX11_open_48 rfl (lv_at hl 2 rfl) ?_
          refine lv_aload_n hx hb dX11_open_49 rfl (lv_at hl 0 rfl) ?_
          refine mget (v := .ref (ad 18)) hx hb hC hK hX 18 (by decide) a_986 rfl dX11_open_50 ?_
          refine lv_bipush (v := 40) hx hb dX11_open_53 (by decide) ?_
          refine lv_iload_n hx hb dX11_open_55 rfl (lv_at hl 1 rfl) ?_
          refine lv_imul hx hb dX11_open_56 ?_
          refine lv_iload_n hx hb dX11_open_57 rfl (lv_at hl 2 rfl) ?_
          refine lv_iadd hx hb dX11_open_58 ?_
          obtain ⟨h18, j17, ej17, hf⟩ := rd_e hf
          refine mald hx hb hC hK hX (by decide) h18 ej17 dX11_open_59 ?_
          obtain ⟨h20, j19, ej19, hf⟩ := rd_e hf
          refine mast hx hb hC hK hX hS (by decide) h20 ej19 dX11_open_60 (fun H locs hX hS => ?_)
          obtain ⟨S21, eS21, hf⟩ := lt_e hf
          rw [← eS21] at hX
          refine lv_iinc (v := (x13 + 1)) (lv' := [(2, .int (x13 + 1)), (0, .ref (ad 0)), (1, .int x1)]) hx hb dX11_open_61 hl (k := 2) rfl rfl (by decide) rfl (fun ls hl => ?_)
          refine lv_goto (tgt := 36) hx hb dX11_open_64 (by decide) ?_
          exact ihg15 _ _ _ _ _ hX hS (lv_sub hl [1, 2, 0] rfl) hf
    exact Lg15 FU _ _ _ _ _ hX hS (lv_sub hl [1, 2, 0] rfl) hf
  · have hf := it_t c5 hf
    refine lv_iconst (v := 0) hx hb dX11_open_8 (by decide) ?_
    cases hf
    exact Ct_ri hx hb hr hlk hX hS dX11_open_9

theorem q_m_add : VWv RX11 yX11_add cX11_add 2 (some .int) 1 := ⟨a_1201, a_55, a_1199, a_1200, by decide +kernel⟩
set_option maxRecDepth 100000 in
set_option maxHeartbeats 4000000 in
theorem c_m_add {l : Launch} {D : va_G} {cA : Nat → ClassId} {A : Nat → Prop} {ad : Nat → Nat} {x1 : Int32} {S : St} {r : Int32} {S' : St} (hf : m_add x1 S = some (r, S')) : Ct l D cA A yX11_add cX11_add 2 (some .int) 3 0 0 [.ref (ad 0), .int x1] (MX D cA A ad S) (some (.int r)) (MX D cA A ad S') := by
  refine Ct_of (by decide +kernel) (Nat.le_of_ble_eq_true rfl) ?_
  intro p e s m args below meth c ls hC hr hlk hnm hX hKX hl
  have hK := hKX.1
  have hx := hC.1
  have hb := hC.2.1
  have hS : va_S A s.heap s.heap [] := va_S.rf
  have hX : MX D cA A ad S s.heap := hX
  have hl : lv_has ls 2 [(0, .ref (ad 0)), (1, .int x1)] := hl
  unfold m_add at hf
  refine lv_aload_n hx hb dX11_add_0 rfl (lv_at hl 0 rfl) ?_
  refine lv_aload_n hx hb dX11_add_1 rfl (lv_at hl 0 rfl) ?_
  refine mget (v := .int (S.1 21)) hx hb hC hK hX 21 (by decide) a_989 rfl dX11_add_2 ?_
  obtain ⟨k4, hk4, hf⟩ := jn1_e hf
  have Jk4 : ∀ (x3 : Int32) (H : Heap) (locs : List Loc) (ls : Array Slot), MX D cA A ad S H → va_S A s.heap H locs → lv_has ls 2 [(0, .ref (ad 0)), (1, .int x1)] → k4 x3 = some (r, S') → W p l e (RM 3 0 0) s m args below meth c H locs 0 0 (MQ below (CtQ A (some (.int r)) (MX D cA A ad S')) args s 0 0 A) (F0 m 60 ls [.int x3, .ref (ad 0)]) := by
    intro x3 H locs ls hX hS hl hf
    rw [hk4] at hf
    refine mput_0 hx hb hC hK hX hS a_968 dX11_add_60 (fun H locs hX hS => ?_)
    obtain ⟨S5, eS5, hf⟩ := lt_e hf
    rw [← eS5] at hX
    refine lv_aload_n hx hb dX11_add_63 rfl (lv_at hl 0 rfl) ?_
    refine mget (v := .int (S5.1 0)) hx hb hC hK hX 0 (by decide) a_968 rfl dX11_add_64 ?_
    refine lv_if_le (tgt := 72) hx hb dX11_add_67 (by decide) (fun c6 => ?_) (fun c6 => ?_)
    · have hf := it_t c6 hf
      refine lv_aload_n hx hb dX11_add_72 rfl (lv_at hl 0 rfl) ?_
      refine lv_aload_n hx hb dX11_add_73 rfl (lv_at hl 0 rfl) ?_
      refine mget (v := .ref (ad 24)) hx hb hC hK hX 24 (by decide) a_992 rfl dX11_add_74 ?_
      refine lv_iconst (v := 0) hx hb dX11_add_77 (by decide) ?_
      refine lv_aload_n hx hb dX11_add_78 rfl (lv_at hl 0 rfl) ?_
      refine mget (v := .int (S5.1 23)) hx hb hC hK hX 23 (by decide) a_991 rfl dX11_add_79 ?_
      refine lv_iload_n hx hb dX11_add_82 rfl (lv_at hl 1 rfl) ?_
      obtain ⟨z7, S8, hz7, hf⟩ := cb2_e hf
      refine mSi (As := [.ref (ad 24), .int 0, .int (S5.1 23), .int x1]) (rest := [.ref (ad 0)]) hC (c_m_lays (by decide) hz7) q_m_lays a_1114 (Nat.le_of_ble_eq_true rfl) hX hKX rfl hl.1 (Nat.le_of_ble_eq_true rfl) dX11_add_83 hS (fun H locs hX hS => ?_)
      refine mput_23 hx hb hC hK hX hS a_991 dX11_add_86 (fun H locs hX hS => ?_)
      obtain ⟨S9, eS9, hf⟩ := lt_e hf
      rw [← eS9] at hX
      refine lv_aload_n hx hb dX11_add_89 rfl (lv_at hl 0 rfl) ?_
      refine mget (v := .int (S9.1 23)) hx hb hC hK hX 23 (by decide) a_991 rfl dX11_add_90 ?_
      cases hf
      exact Ct_ri hx hb hr hlk hX hS dX11_add_93
    · have hf := it_f c6 hf
      refine lv_iconst (v := 0) hx hb dX11_add_70 (by decide) ?_
      cases hf
      exact Ct_ri hx hb hr hlk hX hS dX11_add_71
  refine lv_if_eq (tgt := 34) hx hb dX11_add_5 (by decide) (fun c10 => ?_) (fun c10 => ?_)
  · have hf := it_t c10 hf
    refine lv_iconst (v := 1) hx hb dX11_add_34 (by decide) ?_
    refine lv_goto (tgt := 60) hx hb dX11_add_35 (by decide) ?_
    exact Jk4 _ _ _ _ hX hS (lv_sub hl [0, 1] rfl) hf
  · have hf := it_f c10 hf
    refine lv_aload_n hx hb dX11_add_8 rfl (lv_at hl 0 rfl) ?_
    refine mget (v := .ref (ad 24)) hx hb hC hK hX 24 (by decide) a_992 rfl dX11_add_9 ?_
    refine lv_iconst (v := 0) hx hb dX11_add_12 (by decide) ?_
    refine lv_aload_n hx hb dX11_add_13 rfl (lv_at hl 0 rfl) ?_
    refine mget (v := .int (S.1 23)) hx hb hC hK hX 23 (by decide) a_991 rfl dX11_add_14 ?_
    refine lv_iload_n hx hb dX11_add_17 rfl (lv_at hl 1 rfl) ?_
    obtain ⟨z11, hz11, hf⟩ := cb_e hf
    refine mSi (As := [.ref (ad 24), .int 0, .int (S.1 23), .int x1]) (rest := [.ref (ad 0)]) hC (c_m_placeOf (by decide) hz11) q_m_placeOf a_1121 (Nat.le_of_ble_eq_true rfl) hX hKX rfl hl.1 (Nat.le_of_ble_eq_true rfl) dX11_add_18 hS (fun H locs hX hS => ?_)
    refine lv_iconst (v := (-1)) hx hb dX11_add_21 (by decide) ?_
    refine lv_icmp_ne (tgt := 34) hx hb dX11_add_22 (by decide) (fun c12 => ?_) (fun c12 => ?_)
    · have hf := it_f c12 hf
      refine lv_iconst (v := 1) hx hb dX11_add_34 (by decide) ?_
      refine lv_goto (tgt := 60) hx hb dX11_add_35 (by decide) ?_
      exact Jk4 _ _ _ _ hX hS (lv_sub hl [0, 1] rfl) hf
    · have hf := it_t c12 hf
      refine lv_aload_n hx hb dX11_add_25 rfl (lv_at hl 0 rfl) ?_
      refine mget (v := .int (S.1 23)) hx hb hC hK hX 23 (by decide) a_991 rfl dX11_add_26 ?_
      refine lv_bipush (v := 20) hx hb dX11_add_29 (by decide) ?_
      refine lv_icmp_ne (tgt := 38) hx hb dX11_add_31 (by decide) (fun c13 => ?_) (fun c13 => ?_)
      · have hf := it_f c13 hf
        refine lv_aload_n hx hb dX11_add_38 rfl (lv_at hl 0 rfl) ?_
        refine lv_iload_n hx hb dX11_add_39 rfl (lv_at hl 1 rfl) ?_
        refine lv_aload_n hx hb dX11_add_40 rfl (lv_at hl 0 rfl) ?_
        refine mget (v := .ref (ad 14)) hx hb hC hK hX 14 (by decide) a_982 rfl dX11_add_41 ?_
        refine lv_aload_n hx hb dX11_add_44 rfl (lv_at hl 0 rfl) ?_
        refine mget (v := .int (S.1 22)) hx hb hC hK hX 22 (by decide) a_990 rfl dX11_add_45 ?_
        obtain ⟨h15, j14, ej14, hf⟩ := rd_e hf
        refine mald hx hb hC hK hX (by decide) h15 ej14 dX11_add_48 ?_
        obtain ⟨z16, hz16, hf⟩ := cb_e hf
        refine mVi (As := [.int x1, .int (S.2 14 j14)]) (rest := [.ref (ad 0)]) hC (c_m_isRow hz16) q_m_isRow a_1097 (Nat.le_of_ble_eq_true rfl) hX hKX rfl hl.1 (Nat.le_of_ble_eq_true rfl) dX11_add_49 hS (fun H locs hX hS => ?_)
        refine lv_if_eq (tgt := 59) hx hb dX11_add_52 (by decide) (fun c17 => ?_) (fun c17 => ?_)
        · have hf := it_t c17 hf
          refine lv_iconst (v := 2) hx hb dX11_add_59 (by decide) ?_
          exact Jk4 _ _ _ _ hX hS (lv_sub hl [0, 1] rfl) hf
        · have hf := it_f c17 hf
          refine lv_iconst (v := 0) hx hb dX11_add_55 (by decide) ?_
          refine lv_goto (tgt := 60) hx hb dX11_add_56 (by decide) ?_
          exact Jk4 _ _ _ _ hX hS (lv_sub hl [0, 1] rfl) hf
      · have hf := it_t c13 hf
        refine lv_iconst (v := 1) hx hb dX11_add_34 (by decide) ?_
        refine lv_goto (tgt := 60) hx hb dX11_add_35 (by decide) ?_
        exact Jk4 _ _ _ _ hX hS (lv_sub hl [0, 1] rfl) hf

theorem q_m_takeOut : VWv RX11 yX11_takeOut cX11_takeOut 2 (some .int) 1 := ⟨a_1205, a_55, a_1203, a_1204, by decide +kernel⟩
set_option maxRecDepth 100000 in
set_option maxHeartbeats 4000000 in
theorem c_m_takeOut {l : Launch} {D : va_G} {cA : Nat → ClassId} {A : Nat → Prop} {ad : Nat → Nat} {x1 : Int32} {S : St} {r : Int32} {S' : St} (hf : m_takeOut x1 S = some (r, S')) : Ct l D cA A yX11_takeOut cX11_takeOut 2 (some .int) 1 0 0 [.ref (ad 0), .int x1] (MX D cA A ad S) (some (.int r)) (MX D cA A ad S') := by
  refine Ct_of (by decide +kernel) (Nat.le_of_ble_eq_true rfl) ?_
  intro p e s m args below meth c ls hC hr hlk hnm hX hKX hl
  have hK := hKX.1
  have hx := hC.1
  have hb := hC.2.1
  have hS : va_S A s.heap s.heap [] := va_S.rf
  have hX : MX D cA A ad S s.heap := hX
  have hl : lv_has ls 2 [(0, .ref (ad 0)), (1, .int x1)] := hl
  unfold m_takeOut at hf
  refine lv_aload_n hx hb dX11_takeOut_0 rfl (lv_at hl 0 rfl) ?_
  refine lv_aload_n hx hb dX11_takeOut_1 rfl (lv_at hl 0 rfl) ?_
  refine mget (v := .int (S.1 21)) hx hb hC hK hX 21 (by decide) a_989 rfl dX11_takeOut_2 ?_
  obtain ⟨k4, hk4, hf⟩ := jn1_e hf
  have Jk4 : ∀ (x3 : Int32) (H : Heap) (locs : List Loc) (ls : Array Slot), MX D cA A ad S H → va_S A s.heap H locs → lv_has ls 2 [(0, .ref (ad 0)), (1, .int x1)] → k4 x3 = some (r, S') → W p l e (RM 1 0 0) s m args below meth c H locs 0 0 (MQ below (CtQ A (some (.int r)) (MX D cA A ad S')) args s 0 0 A) (F0 m 34 ls [.int x3, .ref (ad 0)]) := by
    intro x3 H locs ls hX hS hl hf
    rw [hk4] at hf
    refine mput_0 hx hb hC hK hX hS a_968 dX11_takeOut_34 (fun H locs hX hS => ?_)
    obtain ⟨S5, eS5, hf⟩ := lt_e hf
    rw [← eS5] at hX
    refine lv_aload_n hx hb dX11_takeOut_37 rfl (lv_at hl 0 rfl) ?_
    refine mget (v := .int (S5.1 0)) hx hb hC hK hX 0 (by decide) a_968 rfl dX11_takeOut_38 ?_
    refine lv_if_le (tgt := 46) hx hb dX11_takeOut_41 (by decide) (fun c6 => ?_) (fun c6 => ?_)
    · have hf := it_t c6 hf
      refine lv_aload_n hx hb dX11_takeOut_46 rfl (lv_at hl 0 rfl) ?_
      refine lv_aload_n hx hb dX11_takeOut_47 rfl (lv_at hl 0 rfl) ?_
      refine mget (v := .ref (ad 24)) hx hb hC hK hX 24 (by decide) a_992 rfl dX11_takeOut_48 ?_
      refine lv_iconst (v := 0) hx hb dX11_takeOut_51 (by decide) ?_
      refine lv_aload_n hx hb dX11_takeOut_52 rfl (lv_at hl 0 rfl) ?_
      refine mget (v := .int (S5.1 23)) hx hb hC hK hX 23 (by decide) a_991 rfl dX11_takeOut_53 ?_
      refine lv_aload_n hx hb dX11_takeOut_56 rfl (lv_at hl 0 rfl) ?_
      refine mget (v := .ref (ad 24)) hx hb hC hK hX 24 (by decide) a_992 rfl dX11_takeOut_57 ?_
      refine lv_iconst (v := 0) hx hb dX11_takeOut_60 (by decide) ?_
      refine lv_aload_n hx hb dX11_takeOut_61 rfl (lv_at hl 0 rfl) ?_
      refine mget (v := .int (S5.1 23)) hx hb hC hK hX 23 (by decide) a_991 rfl dX11_takeOut_62 ?_
      refine lv_iload_n hx hb dX11_takeOut_65 rfl (lv_at hl 1 rfl) ?_
      obtain ⟨z7, hz7, hf⟩ := cb_e hf
      refine mSi (As := [.ref (ad 24), .int 0, .int (S5.1 23), .int x1]) (rest := [.int (S5.1 23), .int 0, .ref (ad 24), .ref (ad 0)]) hC (c_m_placeOf (by decide) hz7) q_m_placeOf a_1121 (Nat.le_of_ble_eq_true rfl) hX hKX rfl hl.1 (Nat.le_of_ble_eq_true rfl) dX11_takeOut_66 hS (fun H locs hX hS => ?_)
      obtain ⟨z8, S9, hz8, hf⟩ := cb2_e hf
      refine mSi (As := [.ref (ad 24), .int 0, .int (S5.1 23), .int z7]) (rest := [.ref (ad 0)]) hC (c_m_takes (by decide) hz8) q_m_takes a_1124 (Nat.le_of_ble_eq_true rfl) hX hKX rfl hl.1 (Nat.le_of_ble_eq_true rfl) dX11_takeOut_69 hS (fun H locs hX hS => ?_)
      refine mput_23 hx hb hC hK hX hS a_991 dX11_takeOut_72 (fun H locs hX hS => ?_)
      obtain ⟨S10, eS10, hf⟩ := lt_e hf
      rw [← eS10] at hX
      refine lv_aload_n hx hb dX11_takeOut_75 rfl (lv_at hl 0 rfl) ?_
      refine mget (v := .int (S10.1 23)) hx hb hC hK hX 23 (by decide) a_991 rfl dX11_takeOut_76 ?_
      cases hf
      exact Ct_ri hx hb hr hlk hX hS dX11_takeOut_79
    · have hf := it_f c6 hf
      refine lv_iconst (v := 0) hx hb dX11_takeOut_44 (by decide) ?_
      cases hf
      exact Ct_ri hx hb hr hlk hX hS dX11_takeOut_45
  refine lv_if_ne (tgt := 12) hx hb dX11_takeOut_5 (by decide) (fun c11 => ?_) (fun c11 => ?_)
  · have hf := it_f c11 hf
    refine lv_aload_n hx hb dX11_takeOut_12 rfl (lv_at hl 0 rfl) ?_
    refine mget (v := .ref (ad 24)) hx hb hC hK hX 24 (by decide) a_992 rfl dX11_takeOut_13 ?_
    refine lv_iconst (v := 0) hx hb dX11_takeOut_16 (by decide) ?_
    refine lv_aload_n hx hb dX11_takeOut_17 rfl (lv_at hl 0 rfl) ?_
    refine mget (v := .int (S.1 23)) hx hb hC hK hX 23 (by decide) a_991 rfl dX11_takeOut_18 ?_
    refine lv_iload_n hx hb dX11_takeOut_21 rfl (lv_at hl 1 rfl) ?_
    obtain ⟨z12, hz12, hf⟩ := cb_e hf
    refine mSi (As := [.ref (ad 24), .int 0, .int (S.1 23), .int x1]) (rest := [.ref (ad 0)]) hC (c_m_placeOf (by decide) hz12) q_m_placeOf a_1121 (Nat.le_of_ble_eq_true rfl) hX hKX rfl hl.1 (Nat.le_of_ble_eq_true rfl) dX11_takeOut_22 hS (fun H locs hX hS => ?_)
    refine lv_iconst (v := (-1)) hx hb dX11_takeOut_25 (by decide) ?_
    refine lv_icmp_ne (tgt := 33) hx hb dX11_takeOut_26 (by decide) (fun c13 => ?_) (fun c13 => ?_)
    · have hf := it_f c13 hf
      refine lv_iconst (v := 0) hx hb dX11_takeOut_33 (by decide) ?_
      exact Jk4 _ _ _ _ hX hS (lv_sub hl [0, 1] rfl) hf
    · have hf := it_t c13 hf
      refine lv_iconst (v := 2) hx hb dX11_takeOut_29 (by decide) ?_
      refine lv_goto (tgt := 34) hx hb dX11_takeOut_30 (by decide) ?_
      exact Jk4 _ _ _ _ hX hS (lv_sub hl [0, 1] rfl) hf
  · have hf := it_t c11 hf
    refine lv_iconst (v := 1) hx hb dX11_takeOut_8 (by decide) ?_
    refine lv_goto (tgt := 34) hx hb dX11_takeOut_9 (by decide) ?_
    exact Jk4 _ _ _ _ hX hS (lv_sub hl [0, 1] rfl) hf

theorem q_m_change : VWv RX11 yX11_change cX11_change 5 (some .int) 3 := ⟨a_1209, a_55, a_1207, a_1208, by decide +kernel⟩
set_option maxRecDepth 100000 in
set_option maxHeartbeats 4000000 in
theorem c_m_change {l : Launch} {D : va_G} {cA : Nat → ClassId} {A : Nat → Prop} {ad : Nat → Nat} {x1 : Int32} {x2 : Int32} {x3 : Int32} {S : St} {r : Int32} {S' : St} (hf : m_change x1 x2 x3 S = some (r, S')) : Ct l D cA A yX11_change cX11_change 5 (some .int) 2 0 0 [.ref (ad 0), .int x1, .int x2, .int x3] (MX D cA A ad S) (some (.int r)) (MX D cA A ad S') := by
  refine Ct_of (by decide +kernel) (Nat.le_of_ble_eq_true rfl) ?_
  intro p e s m args below meth c ls hC hr hlk hnm hX hKX hl
  have hK := hKX.1
  have hx := hC.1
  have hb := hC.2.1
  have hS : va_S A s.heap s.heap [] := va_S.rf
  have hX : MX D cA A ad S s.heap := hX
  have hl : lv_has ls 5 [(0, .ref (ad 0)), (1, .int x1), (2, .int x2), (3, .int x3)] := hl
  unfold m_change at hf
  refine lv_aload_n hx hb dX11_change_0 rfl (lv_at hl 0 rfl) ?_
  refine lv_aload_n hx hb dX11_change_1 rfl (lv_at hl 0 rfl) ?_
  refine mget (v := .int (S.1 21)) hx hb hC hK hX 21 (by decide) a_989 rfl dX11_change_2 ?_
  obtain ⟨k6, hk6, hf⟩ := jn1_e hf
  have Jk6 : ∀ (x5 : Int32) (H : Heap) (locs : List Loc) (ls : Array Slot), MX D cA A ad S H → va_S A s.heap H locs → lv_has ls 5 [(0, .ref (ad 0)), (1, .int x1), (2, .int x2), (3, .int x3)] → k6 x5 = some (r, S') → W p l e (RM 2 0 0) s m args below meth c H locs 0 0 (MQ below (CtQ A (some (.int r)) (MX D cA A ad S')) args s 0 0 A) (F0 m 64 ls [.int x5, .ref (ad 0)]) := by
    intro x5 H locs ls hX hS hl hf
    rw [hk6] at hf
    refine mput_0 hx hb hC hK hX hS a_968 dX11_change_64 (fun H locs hX hS => ?_)
    obtain ⟨S7, eS7, hf⟩ := lt_e hf
    rw [← eS7] at hX
    refine lv_aload_n hx hb dX11_change_67 rfl (lv_at hl 0 rfl) ?_
    refine mget (v := .int (S7.1 0)) hx hb hC hK hX 0 (by decide) a_968 rfl dX11_change_68 ?_
    refine lv_if_le (tgt := 76) hx hb dX11_change_71 (by decide) (fun c8 => ?_) (fun c8 => ?_)
    · have hf := it_t c8 hf
      refine lv_iload_n hx hb dX11_change_76 rfl (lv_at hl 1 rfl) ?_
      refine lv_iload_n hx hb dX11_change_77 rfl (lv_at hl 3 rfl) ?_
      refine lv_aload_n hx hb dX11_change_78 rfl (lv_at hl 0 rfl) ?_
      refine lv_iload_n hx hb dX11_change_79 rfl (lv_at hl 1 rfl) ?_
      refine lv_iload_n hx hb dX11_change_80 rfl (lv_at hl 2 rfl) ?_
      obtain ⟨z9, hz9, hf⟩ := cb_e hf
      refine mVi (As := [.int x1, .int x2]) (rest := [.int x3, .int x1]) hC (c_m_digit hz9) q_m_digit a_1106 (Nat.le_of_ble_eq_true rfl) hX hKX rfl hl.1 (Nat.le_of_ble_eq_true rfl) dX11_change_81 hS (fun H locs hX hS => ?_)
      refine lv_isub hx hb dX11_change_84 ?_
      refine lv_aload_n hx hb dX11_change_85 rfl (lv_at hl 0 rfl) ?_
      refine mget (v := .ref (ad 1)) hx hb hC hK hX 1 (by decide) a_969 rfl dX11_change_86 ?_
      refine lv_iload_n hx hb dX11_change_89 rfl (lv_at hl 2 rfl) ?_
      obtain ⟨h11, j10, ej10, hf⟩ := rd_e hf
      refine mald hx hb hC hK hX (by decide) h11 ej10 dX11_change_90 ?_
      refine lv_imul hx hb dX11_change_91 ?_
      refine lv_iadd hx hb dX11_change_92 ?_
      refine lv_istore (lv' := [(4, .int (x1 + ((x3 - z9) * (S7.2 1 j10)))), (0, .ref (ad 0)), (1, .int x1), (2, .int x2), (3, .int x3)]) hx hb dX11_change_93 hl (by decide) rfl (fun ls hl => ?_)
      refine lv_aload_n hx hb dX11_change_95 rfl (lv_at hl 1 rfl) ?_
      refine lv_iload hx hb dX11_change_96 (lv_at hl 0 rfl) ?_
      refine lv_iload_n hx hb dX11_change_98 rfl (lv_at hl 2 rfl) ?_
      obtain ⟨k13, hk13, hf⟩ := jn1_e hf
      have Jk13 : ∀ (x12 : Int32) (H : Heap) (locs : List Loc) (ls : Array Slot), MX D cA A ad S7 H → va_S A s.heap H locs → lv_has ls 5 [(0, .ref (ad 0)), (1, .int x1), (4, .int (x1 + ((x3 - z9) * (S7.2 1 j10))))] → k13 x12 = some (r, S') → W p l e (RM 2 0 0) s m args below meth c H locs 0 0 (MQ below (CtQ A (some (.int r)) (MX D cA A ad S')) args s 0 0 A) (F0 m 125 ls [.int x12, .ref (ad 0)]) := by
        intro x12 H locs ls hX hS hl hf
        rw [hk13] at hf
        refine mput_0 hx hb hC hK hX hS a_968 dX11_change_125 (fun H locs hX hS => ?_)
        obtain ⟨S14, eS14, hf⟩ := lt_e hf
        rw [← eS14] at hX
        refine lv_aload_n hx hb dX11_change_128 rfl (lv_at hl 0 rfl) ?_
        refine mget (v := .int (S14.1 0)) hx hb hC hK hX 0 (by decide) a_968 rfl dX11_change_129 ?_
        refine lv_if_le (tgt := 137) hx hb dX11_change_132 (by decide) (fun c15 => ?_) (fun c15 => ?_)
        · have hf := it_t c15 hf
          refine lv_aload_n hx hb dX11_change_137 rfl (lv_at hl 0 rfl) ?_
          refine lv_aload_n hx hb dX11_change_138 rfl (lv_at hl 0 rfl) ?_
          refine mget (v := .ref (ad 24)) hx hb hC hK hX 24 (by decide) a_992 rfl dX11_change_139 ?_
          refine lv_iconst (v := 0) hx hb dX11_change_142 (by decide) ?_
          refine lv_aload_n hx hb dX11_change_143 rfl (lv_at hl 0 rfl) ?_
          refine mget (v := .int (S14.1 23)) hx hb hC hK hX 23 (by decide) a_991 rfl dX11_change_144 ?_
          refine lv_aload_n hx hb dX11_change_147 rfl (lv_at hl 0 rfl) ?_
          refine mget (v := .ref (ad 24)) hx hb hC hK hX 24 (by decide) a_992 rfl dX11_change_148 ?_
          refine lv_iconst (v := 0) hx hb dX11_change_151 (by decide) ?_
          refine lv_aload_n hx hb dX11_change_152 rfl (lv_at hl 0 rfl) ?_
          refine mget (v := .int (S14.1 23)) hx hb hC hK hX 23 (by decide) a_991 rfl dX11_change_153 ?_
          refine lv_iload_n hx hb dX11_change_156 rfl (lv_at hl 1 rfl) ?_
          obtain ⟨z16, hz16, hf⟩ := cb_e hf
          refine mSi (As := [.ref (ad 24), .int 0, .int (S14.1 23), .int x1]) (rest := [.int (S14.1 23), .int 0, .ref (ad 24), .ref (ad 0)]) hC (c_m_placeOf (by decide) hz16) q_m_placeOf a_1121 (Nat.le_of_ble_eq_true rfl) hX hKX rfl hl.1 (Nat.le_of_ble_eq_true rfl) dX11_change_157 hS (fun H locs hX hS => ?_)
          obtain ⟨z17, S18, hz17, hf⟩ := cb2_e hf
          refine mSi (As := [.ref (ad 24), .int 0, .int (S14.1 23), .int z16]) (rest := [.ref (ad 0)]) hC (c_m_takes (by decide) hz17) q_m_takes a_1124 (Nat.le_of_ble_eq_true rfl) hX hKX rfl hl.1 (Nat.le_of_ble_eq_true rfl) dX11_change_160 hS (fun H locs hX hS => ?_)
          refine mput_23 hx hb hC hK hX hS a_991 dX11_change_163 (fun H locs hX hS => ?_)
          obtain ⟨S19, eS19, hf⟩ := lt_e hf
          rw [← eS19] at hX
          refine lv_aload_n hx hb dX11_change_166 rfl (lv_at hl 0 rfl) ?_
          refine lv_aload_n hx hb dX11_change_167 rfl (lv_at hl 0 rfl) ?_
          refine mget (v := .ref (ad 24)) hx hb hC hK hX 24 (by decide) a_992 rfl dX11_change_168 ?_
          refine lv_iconst (v := 0) hx hb dX11_change_171 (by decide) ?_
          refine lv_aload_n hx hb dX11_change_172 rfl (lv_at hl 0 rfl) ?_
          refine mget (v := .int (S19.1 23)) hx hb hC hK hX 23 (by decide) a_991 rfl dX11_change_173 ?_
          refine lv_iload hx hb dX11_change_176 (lv_at hl 2 rfl) ?_
          obtain ⟨z20, S21, hz20, hf⟩ := cb2_e hf
          refine mSi (As := [.ref (ad 24), .int 0, .int (S19.1 23), .int (x1 + ((x3 - z9) * (S7.2 1 j10)))]) (rest := [.ref (ad 0)]) hC (c_m_lays (by decide) hz20) q_m_lays a_1114 (Nat.le_of_ble_eq_true rfl) hX hKX rfl hl.1 (Nat.le_of_ble_eq_true rfl) dX11_change_178 hS (fun H locs hX hS => ?_)
          refine mput_23 hx hb hC hK hX hS a_991 dX11_change_181 (fun H locs hX hS => ?_)
          obtain ⟨S22, eS22, hf⟩ := lt_e hf
          rw [← eS22] at hX
          refine lv_iload hx hb dX11_change_184 (lv_at hl 2 rfl) ?_
          cases hf
          exact Ct_ri hx hb hr hlk hX hS dX11_change_186
        · have hf := it_f c15 hf
          refine lv_iconst (v := 0) hx hb dX11_change_135 (by decide) ?_
          cases hf
          exact Ct_ri hx hb hr hlk hX hS dX11_change_136
      refine lv_icmp_eq (tgt := 124) hx hb dX11_change_99 (by decide) (fun c23 => ?_) (fun c23 => ?_)
      · have hf := it_t c23 hf
        refine lv_iconst (v := 0) hx hb dX11_change_124 (by decide) ?_
        exact Jk13 _ _ _ _ hX hS (lv_sub hl [1, 2, 0] rfl) hf
      · have hf := it_f c23 hf
        refine lv_aload_n hx hb dX11_change_102 rfl (lv_at hl 1 rfl) ?_
        refine mget (v := .ref (ad 24)) hx hb hC hK hX 24 (by decide) a_992 rfl dX11_change_103 ?_
        refine lv_iconst (v := 0) hx hb dX11_change_106 (by decide) ?_
        refine lv_aload_n hx hb dX11_change_107 rfl (lv_at hl 1 rfl) ?_
        refine mget (v := .int (S7.1 23)) hx hb hC hK hX 23 (by decide) a_991 rfl dX11_change_108 ?_
        refine lv_iload hx hb dX11_change_111 (lv_at hl 0 rfl) ?_
        obtain ⟨z24, hz24, hf⟩ := cb_e hf
        refine mSi (As := [.ref (ad 24), .int 0, .int (S7.1 23), .int (x1 + ((x3 - z9) * (S7.2 1 j10)))]) (rest := [.ref (ad 0)]) hC (c_m_placeOf (by decide) hz24) q_m_placeOf a_1121 (Nat.le_of_ble_eq_true rfl) hX hKX rfl hl.1 (Nat.le_of_ble_eq_true rfl) dX11_change_113 hS (fun H locs hX hS => ?_)
        refine lv_iconst (v := (-1)) hx hb dX11_change_116 (by decide) ?_
        refine lv_icmp_eq (tgt := 124) hx hb dX11_change_117 (by decide) (fun c25 => ?_) (fun c25 => ?_)
        · have hf := it_t c25 hf
          refine lv_iconst (v := 0) hx hb dX11_change_124 (by decide) ?_
          exact Jk13 _ _ _ _ hX hS (lv_sub hl [1, 2, 0] rfl) hf
        · have hf := it_f c25 hf
          refine lv_iconst (v := 3) hx hb dX11_change_120 (by decide) ?_
          refine lv_goto (tgt := 125) hx hb dX11_change_121 (by decide) ?_
          exact Jk13 _ _ _ _ hX hS (lv_sub hl [1, 2, 0] rfl) hf
    · have hf := it_f c8 hf
      refine lv_iconst (v := 0) hx hb dX11_change_74 (by decide) ?_
      cases hf
      exact Ct_ri hx hb hr hlk hX hS dX11_change_75
  refine lv_if_ne (tgt := 12) hx hb dX11_change_5 (by decide) (fun c26 => ?_) (fun c26 => ?_)
  · have hf := it_f c26 hf
    refine lv_iload_n hx hb dX11_change_12 rfl (lv_at hl 2 rfl) ?_
    refine lv_aload_n hx hb dX11_change_13 rfl (lv_at hl 0 rfl) ?_
    refine mget (v := .ref (ad 14)) hx hb hC hK hX 14 (by decide) a_982 rfl dX11_change_14 ?_
    refine lv_aload_n hx hb dX11_change_17 rfl (lv_at hl 0 rfl) ?_
    refine mget (v := .int (S.1 22)) hx hb hC hK hX 22 (by decide) a_990 rfl dX11_change_18 ?_
    obtain ⟨h28, j27, ej27, hf⟩ := rd_e hf
    refine mald hx hb hC hK hX (by decide) h28 ej27 dX11_change_21 ?_
    obtain ⟨z29, hz29, hf⟩ := cb_e hf
    refine mSi (As := [.int x2, .int (S.2 14 j27)]) (rest := [.ref (ad 0)]) hC (c_m_isOf hz29) q_m_isOf a_1143 (Nat.le_of_ble_eq_true rfl) hX hKX rfl hl.1 (Nat.le_of_ble_eq_true rfl) dX11_change_22 hS (fun H locs hX hS => ?_)
    refine lv_if_eq (tgt := 38) hx hb dX11_change_25 (by decide) (fun c30 => ?_) (fun c30 => ?_)
    · have hf := it_t c30 hf
      refine lv_iconst (v := 2) hx hb dX11_change_38 (by decide) ?_
      refine lv_goto (tgt := 64) hx hb dX11_change_39 (by decide) ?_
      exact Jk6 _ _ _ _ hX hS (lv_sub hl [0, 1, 2, 3] rfl) hf
    · have hf := it_f c30 hf
      refine lv_iload_n hx hb dX11_change_28 rfl (lv_at hl 3 rfl) ?_
      refine lv_iconst (v := 0) hx hb dX11_change_29 (by decide) ?_
      refine lv_bipush (v := 9) hx hb dX11_change_30 (by decide) ?_
      obtain ⟨z31, hz31, hf⟩ := cb_e hf
      refine mSi (As := [.int x3, .int 0, .int 9]) (rest := [.ref (ad 0)]) hC (c_m_in hz31) q_m_in a_1086 (Nat.le_of_ble_eq_true rfl) hX hKX rfl hl.1 (Nat.le_of_ble_eq_true rfl) dX11_change_32 hS (fun H locs hX hS => ?_)
      refine lv_if_ne (tgt := 42) hx hb dX11_change_35 (by decide) (fun c32 => ?_) (fun c32 => ?_)
      · have hf := it_f c32 hf
        refine lv_aload_n hx hb dX11_change_42 rfl (lv_at hl 0 rfl) ?_
        refine mget (v := .ref (ad 24)) hx hb hC hK hX 24 (by decide) a_992 rfl dX11_change_43 ?_
        refine lv_iconst (v := 0) hx hb dX11_change_46 (by decide) ?_
        refine lv_aload_n hx hb dX11_change_47 rfl (lv_at hl 0 rfl) ?_
        refine mget (v := .int (S.1 23)) hx hb hC hK hX 23 (by decide) a_991 rfl dX11_change_48 ?_
        refine lv_iload_n hx hb dX11_change_51 rfl (lv_at hl 1 rfl) ?_
        obtain ⟨z33, hz33, hf⟩ := cb_e hf
        refine mSi (As := [.ref (ad 24), .int 0, .int (S.1 23), .int x1]) (rest := [.ref (ad 0)]) hC (c_m_placeOf (by decide) hz33) q_m_placeOf a_1121 (Nat.le_of_ble_eq_true rfl) hX hKX rfl hl.1 (Nat.le_of_ble_eq_true rfl) dX11_change_52 hS (fun H locs hX hS => ?_)
        refine lv_iconst (v := (-1)) hx hb dX11_change_55 (by decide) ?_
        refine lv_icmp_ne (tgt := 63) hx hb dX11_change_56 (by decide) (fun c34 => ?_) (fun c34 => ?_)
        · have hf := it_f c34 hf
          refine lv_iconst (v := 0) hx hb dX11_change_63 (by decide) ?_
          exact Jk6 _ _ _ _ hX hS (lv_sub hl [0, 1, 2, 3] rfl) hf
        · have hf := it_t c34 hf
          refine lv_iconst (v := 3) hx hb dX11_change_59 (by decide) ?_
          refine lv_goto (tgt := 64) hx hb dX11_change_60 (by decide) ?_
          exact Jk6 _ _ _ _ hX hS (lv_sub hl [0, 1, 2, 3] rfl) hf
      · have hf := it_t c32 hf
        refine lv_iconst (v := 2) hx hb dX11_change_38 (by decide) ?_
        refine lv_goto (tgt := 64) hx hb dX11_change_39 (by decide) ?_
        exact Jk6 _ _ _ _ hX hS (lv_sub hl [0, 1, 2, 3] rfl) hf
  · have hf := it_t c26 hf
    refine lv_iconst (v := 1) hx hb dX11_change_8 (by decide) ?_
    refine lv_goto (tgt := 64) hx hb dX11_change_9 (by decide) ?_
    exact Jk6 _ _ _ _ hX hS (lv_sub hl [0, 1, 2, 3] rfl) hf

theorem q_m_draftRow : VWv RX11 yX11_draftRow cX11_draftRow 2 (some .int) 1 := ⟨a_1213, a_55, a_1211, a_1212, by decide +kernel⟩
set_option maxRecDepth 100000 in
set_option maxHeartbeats 4000000 in
theorem c_m_draftRow {l : Launch} {D : va_G} {cA : Nat → ClassId} {A : Nat → Prop} {ad : Nat → Nat} {x1 : Int32} {S : St} {r : Int32} {S' : St} (hf : m_draftRow x1 S = some (r, S')) : Ct l D cA A yX11_draftRow cX11_draftRow 2 (some .int) 0 0 0 [.ref (ad 0), .int x1] (MX D cA A ad S) (some (.int r)) (MX D cA A ad S') := by
  refine Ct_of (by decide +kernel) (Nat.le_of_ble_eq_true rfl) ?_
  intro p e s m args below meth c ls hC hr hlk hnm hX hKX hl
  have hK := hKX.1
  have hx := hC.1
  have hb := hC.2.1
  have hS : va_S A s.heap s.heap [] := va_S.rf
  have hX : MX D cA A ad S s.heap := hX
  have hl : lv_has ls 2 [(0, .ref (ad 0)), (1, .int x1)] := hl
  unfold m_draftRow at hf
  refine lv_aload_n hx hb dX11_draftRow_0 rfl (lv_at hl 0 rfl) ?_
  refine lv_aload_n hx hb dX11_draftRow_1 rfl (lv_at hl 0 rfl) ?_
  refine mget (v := .int (S.1 21)) hx hb hC hK hX 21 (by decide) a_989 rfl dX11_draftRow_2 ?_
  obtain ⟨k4, hk4, hf⟩ := jn1_e hf
  have Jk4 : ∀ (x3 : Int32) (H : Heap) (locs : List Loc) (ls : Array Slot), MX D cA A ad S H → va_S A s.heap H locs → lv_has ls 2 [(0, .ref (ad 0)), (1, .int x1)] → k4 x3 = some (r, S') → W p l e (RM 0 0 0) s m args below meth c H locs 0 0 (MQ below (CtQ A (some (.int r)) (MX D cA A ad S')) args s 0 0 A) (F0 m 21 ls [.int x3, .ref (ad 0)]) := by
    intro x3 H locs ls hX hS hl hf
    rw [hk4] at hf
    refine mput_0 hx hb hC hK hX hS a_968 dX11_draftRow_21 (fun H locs hX hS => ?_)
    obtain ⟨S5, eS5, hf⟩ := lt_e hf
    rw [← eS5] at hX
    refine lv_aload_n hx hb dX11_draftRow_24 rfl (lv_at hl 0 rfl) ?_
    refine mget (v := .int (S5.1 0)) hx hb hC hK hX 0 (by decide) a_968 rfl dX11_draftRow_25 ?_
    refine lv_if_le (tgt := 35) hx hb dX11_draftRow_28 (by decide) (fun c6 => ?_) (fun c6 => ?_)
    · have hf := it_t c6 hf
      refine lv_iload_n hx hb dX11_draftRow_35 rfl (lv_at hl 1 rfl) ?_
      refine lv_aload_n hx hb dX11_draftRow_36 rfl (lv_at hl 0 rfl) ?_
      refine mget (v := .int (S5.1 23)) hx hb hC hK hX 23 (by decide) a_991 rfl dX11_draftRow_37 ?_
      refine lv_icmp_ge (tgt := 52) hx hb dX11_draftRow_40 (by decide) (fun c7 => ?_) (fun c7 => ?_)
      · have hf := it_t c7 hf
        refine lv_iconst (v := (-1)) hx hb dX11_draftRow_52 (by decide) ?_
        cases hf
        exact Ct_ri hx hb hr hlk hX hS dX11_draftRow_53
      · have hf := it_f c7 hf
        refine lv_aload_n hx hb dX11_draftRow_43 rfl (lv_at hl 0 rfl) ?_
        refine mget (v := .ref (ad 24)) hx hb hC hK hX 24 (by decide) a_992 rfl dX11_draftRow_44 ?_
        refine lv_iload_n hx hb dX11_draftRow_47 rfl (lv_at hl 1 rfl) ?_
        obtain ⟨h9, j8, ej8, hf⟩ := rd_e hf
        refine mald hx hb hC hK hX (by decide) h9 ej8 dX11_draftRow_48 ?_
        refine lv_goto (tgt := 53) hx hb dX11_draftRow_49 (by decide) ?_
        cases hf
        exact Ct_ri hx hb hr hlk hX hS dX11_draftRow_53
    · have hf := it_f c6 hf
      refine lv_iconst (v := 0) hx hb dX11_draftRow_31 (by decide) ?_
      refine lv_goto (tgt := 53) hx hb dX11_draftRow_32 (by decide) ?_
      cases hf
      exact Ct_ri hx hb hr hlk hX hS dX11_draftRow_53
  refine lv_if_ne (tgt := 12) hx hb dX11_draftRow_5 (by decide) (fun c10 => ?_) (fun c10 => ?_)
  · have hf := it_f c10 hf
    refine lv_iload_n hx hb dX11_draftRow_12 rfl (lv_at hl 1 rfl) ?_
    refine lv_if_ge (tgt := 20) hx hb dX11_draftRow_13 (by decide) (fun c11 => ?_) (fun c11 => ?_)
    · have hf := it_t c11 hf
      refine lv_iconst (v := 0) hx hb dX11_draftRow_20 (by decide) ?_
      exact Jk4 _ _ _ _ hX hS (lv_sub hl [0, 1] rfl) hf
    · have hf := it_f c11 hf
      refine lv_iconst (v := 2) hx hb dX11_draftRow_16 (by decide) ?_
      refine lv_goto (tgt := 21) hx hb dX11_draftRow_17 (by decide) ?_
      exact Jk4 _ _ _ _ hX hS (lv_sub hl [0, 1] rfl) hf
  · have hf := it_t c10 hf
    refine lv_iconst (v := 1) hx hb dX11_draftRow_8 (by decide) ?_
    refine lv_goto (tgt := 21) hx hb dX11_draftRow_9 (by decide) ?_
    exact Jk4 _ _ _ _ hX hS (lv_sub hl [0, 1] rfl) hf

theorem q_m_tells : VWv RX11 yX11_tells cX11_tells 5 none 4 := ⟨a_1249, a_55, a_1248, a_35, by decide +kernel⟩
set_option maxRecDepth 100000 in
set_option maxHeartbeats 4000000 in
theorem c_m_tells {l : Launch} {D : va_G} {cA : Nat → ClassId} {A : Nat → Prop} {ad : Nat → Nat} {x1 : Int32} {x2 : Int32} {x3 : Int32} {x4 : Int32} {S : St} {S' : St} (hf : m_tells x1 x2 x3 x4 S = some S') : Ct l D cA A yX11_tells cX11_tells 5 none 0 0 0 [.ref (ad 0), .int x1, .int x2, .int x3, .int x4] (MX D cA A ad S) none (MX D cA A ad S') := by
  refine Ct_of (by decide +kernel) (Nat.le_of_ble_eq_true rfl) ?_
  intro p e s m args below meth c ls hC hr hlk hnm hX hKX hl
  have hK := hKX.1
  have hx := hC.1
  have hb := hC.2.1
  have hS : va_S A s.heap s.heap [] := va_S.rf
  have hX : MX D cA A ad S s.heap := hX
  have hl : lv_has ls 5 [(0, .ref (ad 0)), (1, .int x1), (2, .int x2), (3, .int x3), (4, .int x4)] := hl
  unfold m_tells at hf
  refine lv_aload_n hx hb dX11_tells_0 rfl (lv_at hl 0 rfl) ?_
  refine lv_bipush (v := 10) hx hb dX11_tells_1 (by decide) ?_
  refine lv_iload_n hx hb dX11_tells_3 rfl (lv_at hl 1 rfl) ?_
  refine lv_imul hx hb dX11_tells_4 ?_
  refine lv_iload_n hx hb dX11_tells_5 rfl (lv_at hl 2 rfl) ?_
  refine lv_iadd hx hb dX11_tells_6 ?_
  refine mput_25 hx hb hC hK hX hS a_993 dX11_tells_7 (fun H locs hX hS => ?_)
  obtain ⟨S6, eS6, hf⟩ := lt_e hf
  rw [← eS6] at hX
  refine lv_aload_n hx hb dX11_tells_10 rfl (lv_at hl 0 rfl) ?_
  refine lv_iload_n hx hb dX11_tells_11 rfl (lv_at hl 3 rfl) ?_
  refine mput_26 hx hb hC hK hX hS a_994 dX11_tells_12 (fun H locs hX hS => ?_)
  obtain ⟨S7, eS7, hf⟩ := lt_e hf
  rw [← eS7] at hX
  refine lv_aload_n hx hb dX11_tells_15 rfl (lv_at hl 0 rfl) ?_
  refine lv_iload hx hb dX11_tells_16 (lv_at hl 4 rfl) ?_
  refine mput_27 hx hb hC hK hX hS a_995 dX11_tells_18 (fun H locs hX hS => ?_)
  obtain ⟨S8, eS8, hf⟩ := lt_e hf
  rw [← eS8] at hX
  cases hf
  exact Ct_rv hx hb hr hlk hX hS dX11_tells_21

theorem q_m_areAgainst : VWv RX11 yX11_areAgainst cX11_areAgainst 6 (some .boolean) 4 := ⟨a_1245, a_55, a_1244, a_34, by decide +kernel⟩
set_option maxRecDepth 100000 in
set_option maxHeartbeats 4000000 in
theorem c_m_areAgainst {l : Launch} {D : va_G} {cA : Nat → ClassId} {A : Nat → Prop} {ad : Nat → Nat} {x1 : Int32} {x2 : Int32} {x3 : Int32} {x4 : Int32} {S : St} {r : Int32} (hf : m_areAgainst x1 x2 x3 x4 S = some r) : Ct l D cA A yX11_areAgainst cX11_areAgainst 6 (some .boolean) 2 0 0 [.ref (ad 0), .int x1, .int x2, .int x3, .int x4] (MX D cA A ad S) (some (.int r)) (MX D cA A ad S) := by
  refine Ct_of (by decide +kernel) (Nat.le_of_ble_eq_true rfl) ?_
  intro p e s m args below meth c ls hC hr hlk hnm hX hKX hl
  have hK := hKX.1
  have hx := hC.1
  have hb := hC.2.1
  have hS : va_S A s.heap s.heap [] := va_S.rf
  have hX : MX D cA A ad S s.heap := hX
  have hl : lv_has ls 6 [(0, .ref (ad 0)), (1, .int x1), (2, .int x2), (3, .int x3), (4, .int x4)] := hl
  unfold m_areAgainst at hf
  refine lv_iload hx hb dX11_areAgainst_0 (lv_at hl 4 rfl) ?_
  refine lv_iconst (v := 1) hx hb dX11_areAgainst_2 (by decide) ?_
  refine lv_icmp_ne (tgt := 37) hx hb dX11_areAgainst_3 (by decide) (fun c6 => ?_) (fun c6 => ?_)
  · have hf := it_f c6 hf
    refine lv_aload_n hx hb dX11_areAgainst_37 rfl (lv_at hl 0 rfl) ?_
    refine mget (v := .ref (ad 10)) hx hb hC hK hX 10 (by decide) a_978 rfl dX11_areAgainst_38 ?_
    refine lv_iload_n hx hb dX11_areAgainst_41 rfl (lv_at hl 1 rfl) ?_
    obtain ⟨h8, j7, ej7, hf⟩ := rd_e hf
    refine mald hx hb hC hK hX (by decide) h8 ej7 dX11_areAgainst_42 ?_
    refine lv_istore (lv' := [(5, .int (S.2 10 j7)), (0, .ref (ad 0)), (1, .int x1), (2, .int x2), (3, .int x3), (4, .int x4)]) hx hb dX11_areAgainst_43 hl (by decide) rfl (fun ls hl => ?_)
    refine lv_aload_n hx hb dX11_areAgainst_45 rfl (lv_at hl 1 rfl) ?_
    refine lv_iload_n hx hb dX11_areAgainst_46 rfl (lv_at hl 3 rfl) ?_
    refine lv_aload_n hx hb dX11_areAgainst_47 rfl (lv_at hl 1 rfl) ?_
    refine mget (v := .ref (ad 15)) hx hb hC hK hX 15 (by decide) a_983 rfl dX11_areAgainst_48 ?_
    refine lv_iload hx hb dX11_areAgainst_51 (lv_at hl 0 rfl) ?_
    obtain ⟨h10, j9, ej9, hf⟩ := rd_e hf
    refine mald hx hb hC hK hX (by decide) h10 ej9 dX11_areAgainst_53 ?_
    obtain ⟨z11, hz11, hf⟩ := cb_e hf
    refine mVi (As := [.int x2, .int (S.2 15 j9)]) (rest := []) hC (c_m_part hz11) q_m_part a_1102 (Nat.le_of_ble_eq_true rfl) hX hKX rfl hl.1 (Nat.le_of_ble_eq_true rfl) dX11_areAgainst_54 hS (fun H locs hX hS => ?_)
    refine lv_aload_n hx hb dX11_areAgainst_57 rfl (lv_at hl 1 rfl) ?_
    refine lv_iload_n hx hb dX11_areAgainst_58 rfl (lv_at hl 4 rfl) ?_
    refine lv_aload_n hx hb dX11_areAgainst_59 rfl (lv_at hl 1 rfl) ?_
    refine mget (v := .ref (ad 15)) hx hb hC hK hX 15 (by decide) a_983 rfl dX11_areAgainst_60 ?_
    refine lv_iload hx hb dX11_areAgainst_63 (lv_at hl 0 rfl) ?_
    obtain ⟨h13, j12, ej12, hf⟩ := rd_e hf
    refine mald hx hb hC hK hX (by decide) h13 ej12 dX11_areAgainst_65 ?_
    obtain ⟨z14, hz14, hf⟩ := cb_e hf
    refine mVi (As := [.int x3, .int (S.2 15 j12)]) (rest := [.int z11]) hC (c_m_part hz14) q_m_part a_1102 (Nat.le_of_ble_eq_true rfl) hX hKX rfl hl.1 (Nat.le_of_ble_eq_true rfl) dX11_areAgainst_66 hS (fun H locs hX hS => ?_)
    refine lv_icmp_ne (tgt := 103) hx hb dX11_areAgainst_69 (by decide) (fun c15 => ?_) (fun c15 => ?_)
    · have hf := it_f c15 hf
      refine lv_iconst (v := 0) hx hb dX11_areAgainst_103 (by decide) ?_
      cases hf
      exact Ct_rz hx hb hr hlk nz0 hX hS dX11_areAgainst_104
    · have hf := it_t c15 hf
      refine lv_aload_n hx hb dX11_areAgainst_72 rfl (lv_at hl 1 rfl) ?_
      refine lv_iload_n hx hb dX11_areAgainst_73 rfl (lv_at hl 3 rfl) ?_
      refine lv_aload_n hx hb dX11_areAgainst_74 rfl (lv_at hl 1 rfl) ?_
      refine mget (v := .ref (ad 14)) hx hb hC hK hX 14 (by decide) a_982 rfl dX11_areAgainst_75 ?_
      refine lv_iload hx hb dX11_areAgainst_78 (lv_at hl 0 rfl) ?_
      obtain ⟨h17, j16, ej16, hf⟩ := rd_e hf
      refine mald hx hb hC hK hX (by decide) h17 ej16 dX11_areAgainst_80 ?_
      obtain ⟨z18, hz18, hf⟩ := cb_e hf
      refine mVi (As := [.int x2, .int (S.2 14 j16)]) (rest := []) hC (c_m_part hz18) q_m_part a_1102 (Nat.le_of_ble_eq_true rfl) hX hKX rfl hl.1 (Nat.le_of_ble_eq_true rfl) dX11_areAgainst_81 hS (fun H locs hX hS => ?_)
      refine lv_aload_n hx hb dX11_areAgainst_84 rfl (lv_at hl 1 rfl) ?_
      refine lv_iload_n hx hb dX11_areAgainst_85 rfl (lv_at hl 4 rfl) ?_
      refine lv_aload_n hx hb dX11_areAgainst_86 rfl (lv_at hl 1 rfl) ?_
      refine mget (v := .ref (ad 14)) hx hb hC hK hX 14 (by decide) a_982 rfl dX11_areAgainst_87 ?_
      refine lv_iload hx hb dX11_areAgainst_90 (lv_at hl 0 rfl) ?_
      obtain ⟨h20, j19, ej19, hf⟩ := rd_e hf
      refine mald hx hb hC hK hX (by decide) h20 ej19 dX11_areAgainst_92 ?_
      obtain ⟨z21, hz21, hf⟩ := cb_e hf
      refine mVi (As := [.int x3, .int (S.2 14 j19)]) (rest := [.int z18]) hC (c_m_part hz21) q_m_part a_1102 (Nat.le_of_ble_eq_true rfl) hX hKX rfl hl.1 (Nat.le_of_ble_eq_true rfl) dX11_areAgainst_93 hS (fun H locs hX hS => ?_)
      refine lv_icmp_eq (tgt := 103) hx hb dX11_areAgainst_96 (by decide) (fun c22 => ?_) (fun c22 => ?_)
      · have hf := it_t c22 hf
        refine lv_iconst (v := 0) hx hb dX11_areAgainst_103 (by decide) ?_
        cases hf
        exact Ct_rz hx hb hr hlk nz0 hX hS dX11_areAgainst_104
      · have hf := it_f c22 hf
        refine lv_iconst (v := 1) hx hb dX11_areAgainst_99 (by decide) ?_
        refine lv_goto (tgt := 104) hx hb dX11_areAgainst_100 (by decide) ?_
        cases hf
        exact Ct_rz hx hb hr hlk nz1 hX hS dX11_areAgainst_104
  · have hf := it_t c6 hf
    refine lv_aload_n hx hb dX11_areAgainst_6 rfl (lv_at hl 0 rfl) ?_
    refine lv_iload_n hx hb dX11_areAgainst_7 rfl (lv_at hl 2 rfl) ?_
    refine lv_aload_n hx hb dX11_areAgainst_8 rfl (lv_at hl 0 rfl) ?_
    refine mget (v := .ref (ad 15)) hx hb hC hK hX 15 (by decide) a_983 rfl dX11_areAgainst_9 ?_
    refine lv_iload_n hx hb dX11_areAgainst_12 rfl (lv_at hl 1 rfl) ?_
    obtain ⟨h24, j23, ej23, hf⟩ := rd_e hf
    refine mald hx hb hC hK hX (by decide) h24 ej23 dX11_areAgainst_13 ?_
    obtain ⟨z25, hz25, hf⟩ := cb_e hf
    refine mVi (As := [.int x2, .int (S.2 15 j23)]) (rest := []) hC (c_m_part hz25) q_m_part a_1102 (Nat.le_of_ble_eq_true rfl) hX hKX rfl hl.1 (Nat.le_of_ble_eq_true rfl) dX11_areAgainst_14 hS (fun H locs hX hS => ?_)
    refine lv_aload_n hx hb dX11_areAgainst_17 rfl (lv_at hl 0 rfl) ?_
    refine lv_iload_n hx hb dX11_areAgainst_18 rfl (lv_at hl 3 rfl) ?_
    refine lv_aload_n hx hb dX11_areAgainst_19 rfl (lv_at hl 0 rfl) ?_
    refine mget (v := .ref (ad 15)) hx hb hC hK hX 15 (by decide) a_983 rfl dX11_areAgainst_20 ?_
    refine lv_iload_n hx hb dX11_areAgainst_23 rfl (lv_at hl 1 rfl) ?_
    obtain ⟨h27, j26, ej26, hf⟩ := rd_e hf
    refine mald hx hb hC hK hX (by decide) h27 ej26 dX11_areAgainst_24 ?_
    obtain ⟨z28, hz28, hf⟩ := cb_e hf
    refine mVi (As := [.int x3, .int (S.2 15 j26)]) (rest := [.int z25]) hC (c_m_part hz28) q_m_part a_1102 (Nat.le_of_ble_eq_true rfl) hX hKX rfl hl.1 (Nat.le_of_ble_eq_true rfl) dX11_areAgainst_25 hS (fun H locs hX hS => ?_)
    refine lv_icmp_ne (tgt := 35) hx hb dX11_areAgainst_28 (by decide) (fun c29 => ?_) (fun c29 => ?_)
    · have hf := it_f c29 hf
      refine lv_iconst (v := 0) hx hb dX11_areAgainst_35 (by decide) ?_
      cases hf
      exact Ct_rz hx hb hr hlk nz0 hX hS dX11_areAgainst_36
    · have hf := it_t c29 hf
      refine lv_iconst (v := 1) hx hb dX11_areAgainst_31 (by decide) ?_
      refine lv_goto (tgt := 36) hx hb dX11_areAgainst_32 (by decide) ?_
      cases hf
      exact Ct_rz hx hb hr hlk nz1 hX hS dX11_areAgainst_36

theorem q_m_looksForTwo : VWv RX11 yX11_looksForTwo cX11_looksForTwo 7 none 2 := ⟨a_1241, a_55, a_1240, a_33, by decide +kernel⟩
set_option maxRecDepth 100000 in
set_option maxHeartbeats 4000000 in
theorem c_m_looksForTwo {l : Launch} {D : va_G} {cA : Nat → ClassId} {A : Nat → Prop} {ad : Nat → Nat} {x1 : Int32} {x2 : Int32} {S : St} {S' : St} (hf : m_looksForTwo x1 x2 S = some S') : Ct l D cA A yX11_looksForTwo cX11_looksForTwo 7 none 3 0 0 [.ref (ad 0), .int x1, .int x2] (MX D cA A ad S) none (MX D cA A ad S') := by
  refine Ct_of (by decide +kernel) (Nat.le_of_ble_eq_true rfl) ?_
  intro p e s m args below meth c ls hC hr hlk hnm hX hKX hl
  have hK := hKX.1
  have hx := hC.1
  have hb := hC.2.1
  have hS : va_S A s.heap s.heap [] := va_S.rf
  have hX : MX D cA A ad S s.heap := hX
  have hl : lv_has ls 7 [(0, .ref (ad 0)), (1, .int x1), (2, .int x2)] := hl
  unfold m_looksForTwo at hf
  refine lv_iconst (v := 0) hx hb dX11_looksForTwo_0 (by decide) ?_
  refine lv_istore_n (lv' := [(3, .int 0), (0, .ref (ad 0)), (1, .int x1), (2, .int x2)]) hx hb dX11_looksForTwo_1 rfl hl (by decide) rfl (fun ls hl => ?_)
  obtain ⟨g6, g60, g6s, hf⟩ := lp2_e hf
  have Lg6 : ∀ (n : Nat) (x4 : Int32) (S5 : St) (H : Heap) (locs : List Loc) (ls : Array Slot), MX D cA A ad S5 H → va_S A s.heap H locs → lv_has ls 7 [(0, .ref (ad 0)), (1, .int x1), (2, .int x2), (3, .int x4)] → g6 n x4 S5 = some S' → W p l e (RM 3 0 0) s m args below meth c H locs 0 0 (MQ below (CtQ A none (MX D cA A ad S')) args s 0 0 A) (F0 m 2 ls []) := by
    intro n
    induction n with
    | zero => intro x4 S5 H locs ls hX hS hl hf; rw [g60] at hf; cases hf
    | succ n ihg6 =>
      intro x4 S5 H locs ls hX hS hl hf
      rw [g6s] at hf
      refine lv_iload_n hx hb dX11_looksForTwo_2 rfl (lv_at hl 3 rfl) ?_
      refine lv_aload_n hx hb dX11_looksForTwo_3 rfl (lv_at hl 0 rfl) ?_
      refine mget (v := .ref (ad 19)) hx hb hC hK hX 19 (by decide) a_987 rfl dX11_looksForTwo_4 ?_
      refine lv_iload_n hx hb dX11_looksForTwo_7 rfl (lv_at hl 1 rfl) ?_
      obtain ⟨h8, j7, ej7, hf⟩ := rd_e hf
      refine mald hx hb hC hK hX (by decide) h8 ej7 dX11_looksForTwo_8 ?_
      refine lv_icmp_ge (tgt := 104) hx hb dX11_looksForTwo_9 (by decide) (fun c9 => ?_) (fun c9 => ?_)
      · have hf := it_t c9 hf
        cases hf
        exact Ct_rv hx hb hr hlk hX hS dX11_looksForTwo_104
      · have hf := it_f c9 hf
        refine lv_aload_n hx hb dX11_looksForTwo_12 rfl (lv_at hl 0 rfl) ?_
        refine mget (v := .int (S5.1 25)) hx hb hC hK hX 25 (by decide) a_993 rfl dX11_looksForTwo_13 ?_
        refine lv_if_ne (tgt := 104) hx hb dX11_looksForTwo_16 (by decide) (fun c10 => ?_) (fun c10 => ?_)
        · have hf := it_f c10 hf
          cases hf
          exact Ct_rv hx hb hr hlk hX hS dX11_looksForTwo_104
        · have hf := it_t c10 hf
          refine lv_iload_n hx hb dX11_looksForTwo_19 rfl (lv_at hl 3 rfl) ?_
          refine lv_iconst (v := 1) hx hb dX11_looksForTwo_20 (by decide) ?_
          refine lv_iadd hx hb dX11_looksForTwo_21 ?_
          refine lv_istore (lv' := [(4, .int (x4 + 1)), (0, .ref (ad 0)), (1, .int x1), (2, .int x2), (3, .int x4)]) hx hb dX11_looksForTwo_22 hl (by decide) rfl (fun ls hl => ?_)
          obtain ⟨g13, g130, g13s, hf⟩ := lp2_e hf
          have Lg13 : ∀ (n : Nat) (x11 : Int32) (S12 : St) (H : Heap) (locs : List Loc) (ls : Array Slot), MX D cA A ad S12 H → va_S A s.heap H locs → lv_has ls 7 [(0, .ref (ad 0)), (1, .int x1), (2, .int x2), (3, .int x4), (4, .int x11)] → g13 n x11 S12 = some S' → W p l e (RM 3 0 0) s m args below meth c H locs 0 0 (MQ below (CtQ A none (MX D cA A ad S')) args s 0 0 A) (F0 m 24 ls []) := by
            intro n
            induction n with
            | zero => intro x11 S12 H locs ls hX hS hl hf; rw [g130] at hf; cases hf
            | succ n ihg13 =>
              intro x11 S12 H locs ls hX hS hl hf
              rw [g13s] at hf
              refine lv_iload hx hb dX11_looksForTwo_24 (lv_at hl 4 rfl) ?_
              refine lv_aload_n hx hb dX11_looksForTwo_26 rfl (lv_at hl 0 rfl) ?_
              refine mget (v := .ref (ad 19)) hx hb hC hK hX 19 (by decide) a_987 rfl dX11_looksForTwo_27 ?_
              refine lv_iload_n hx hb dX11_looksForTwo_30 rfl (lv_at hl 1 rfl) ?_
              obtain ⟨h15, j14, ej14, hf⟩ := rd_e hf
              refine mald hx hb hC hK hX (by decide) h15 ej14 dX11_looksForTwo_31 ?_
              refine lv_icmp_ge (tgt := 98) hx hb dX11_looksForTwo_32 (by decide) (fun c16 => ?_) (fun c16 => ?_)
              · have hf := it_t c16 hf
                refine lv_iinc (v := (x4 + 1)) (lv' := [(3, .int (x4 + 1)), (0, .ref (ad 0)), (1, .int x1), (2, .int x2), (4, .int x11)]) hx hb dX11_looksForTwo_98 hl (k := 3) rfl rfl (by decide) rfl (fun ls hl => ?_)
                refine lv_goto (tgt := 2) hx hb dX11_looksForTwo_101 (by decide) ?_
                exact ihg6 _ _ _ _ _ hX hS (lv_sub hl [1, 2, 3, 0] rfl) hf
              · have hf := it_f c16 hf
                refine lv_aload_n hx hb dX11_looksForTwo_35 rfl (lv_at hl 0 rfl) ?_
                refine mget (v := .int (S12.1 25)) hx hb hC hK hX 25 (by decide) a_993 rfl dX11_looksForTwo_36 ?_
                refine lv_if_ne (tgt := 98) hx hb dX11_looksForTwo_39 (by decide) (fun c17 => ?_) (fun c17 => ?_)
                · have hf := it_f c17 hf
                  refine lv_iinc (v := (x4 + 1)) (lv' := [(3, .int (x4 + 1)), (0, .ref (ad 0)), (1, .int x1), (2, .int x2), (4, .int x11)]) hx hb dX11_looksForTwo_98 hl (k := 3) rfl rfl (by decide) rfl (fun ls hl => ?_)
                  refine lv_goto (tgt := 2) hx hb dX11_looksForTwo_101 (by decide) ?_
                  exact ihg6 _ _ _ _ _ hX hS (lv_sub hl [1, 2, 3, 0] rfl) hf
                · have hf := it_t c17 hf
                  refine lv_aload_n hx hb dX11_looksForTwo_42 rfl (lv_at hl 0 rfl) ?_
                  refine mget (v := .ref (ad 20)) hx hb hC hK hX 20 (by decide) a_988 rfl dX11_looksForTwo_43 ?_
                  refine lv_bipush (v := 40) hx hb dX11_looksForTwo_46 (by decide) ?_
                  refine lv_iload_n hx hb dX11_looksForTwo_48 rfl (lv_at hl 1 rfl) ?_
                  refine lv_imul hx hb dX11_looksForTwo_49 ?_
                  refine lv_iload_n hx hb dX11_looksForTwo_50 rfl (lv_at hl 3 rfl) ?_
                  refine lv_iadd hx hb dX11_looksForTwo_51 ?_
                  obtain ⟨h19, j18, ej18, hf⟩ := rd_e hf
                  refine mald hx hb hC hK hX (by decide) h19 ej18 dX11_looksForTwo_52 ?_
                  refine lv_istore (lv' := [(5, .int (S12.2 20 j18)), (0, .ref (ad 0)), (1, .int x1), (2, .int x2), (3, .int x4), (4, .int x11)]) hx hb dX11_looksForTwo_53 hl (by decide) rfl (fun ls hl => ?_)
                  refine lv_aload_n hx hb dX11_looksForTwo_55 rfl (lv_at hl 1 rfl) ?_
                  refine mget (v := .ref (ad 20)) hx hb hC hK hX 20 (by decide) a_988 rfl dX11_looksForTwo_56 ?_
                  refine lv_bipush (v := 40) hx hb dX11_looksForTwo_59 (by decide) ?_
                  refine lv_iload_n hx hb dX11_looksForTwo_61 rfl (lv_at hl 2 rfl) ?_
                  refine lv_imul hx hb dX11_looksForTwo_62 ?_
                  refine lv_iload hx hb dX11_looksForTwo_63 (lv_at hl 5 rfl) ?_
                  refine lv_iadd hx hb dX11_looksForTwo_65 ?_
                  obtain ⟨h21, j20, ej20, hf⟩ := rd_e hf
                  refine mald hx hb hC hK hX (by decide) h21 ej20 dX11_looksForTwo_66 ?_
                  refine lv_istore (lv' := [(6, .int (S12.2 20 j20)), (5, .int (S12.2 20 j18)), (0, .ref (ad 0)), (1, .int x1), (2, .int x2), (3, .int x4), (4, .int x11)]) hx hb dX11_looksForTwo_67 hl (by decide) rfl (fun ls hl => ?_)
                  refine lv_aload_n hx hb dX11_looksForTwo_69 rfl (lv_at hl 2 rfl) ?_
                  refine lv_iload_n hx hb dX11_looksForTwo_70 rfl (lv_at hl 3 rfl) ?_
                  refine lv_iload hx hb dX11_looksForTwo_71 (lv_at hl 1 rfl) ?_
                  refine lv_iload hx hb dX11_looksForTwo_73 (lv_at hl 0 rfl) ?_
                  refine lv_iload_n hx hb dX11_looksForTwo_75 rfl (lv_at hl 4 rfl) ?_
                  obtain ⟨z22, hz22, hf⟩ := cb_e hf
                  refine mVi (As := [.int x1, .int (S12.2 20 j18), .int (S12.2 20 j20), .int x2]) (rest := []) hC (c_m_areAgainst hz22) q_m_areAgainst a_1242 (Nat.le_of_ble_eq_true rfl) hX hKX rfl hl.1 (Nat.le_of_ble_eq_true rfl) dX11_looksForTwo_76 hS (fun H locs hX hS => ?_)
                  refine lv_if_eq (tgt := 92) hx hb dX11_looksForTwo_79 (by decide) (fun c23 => ?_) (fun c23 => ?_)
                  · have hf := it_t c23 hf
                    refine lv_iinc (v := (x11 + 1)) (lv' := [(4, .int (x11 + 1)), (6, .int (S12.2 20 j20)), (5, .int (S12.2 20 j18)), (0, .ref (ad 0)), (1, .int x1), (2, .int x2), (3, .int x4)]) hx hb dX11_looksForTwo_92 hl (k := 6) rfl rfl (by decide) rfl (fun ls hl => ?_)
                    refine lv_goto (tgt := 24) hx hb dX11_looksForTwo_95 (by decide) ?_
                    exact ihg13 _ _ _ _ _ hX hS (lv_sub hl [3, 4, 5, 6, 0] rfl) hf
                  · have hf := it_f c23 hf
                    refine lv_aload_n hx hb dX11_looksForTwo_82 rfl (lv_at hl 2 rfl) ?_
                    refine lv_iload_n hx hb dX11_looksForTwo_83 rfl (lv_at hl 3 rfl) ?_
                    refine lv_iload_n hx hb dX11_looksForTwo_84 rfl (lv_at hl 4 rfl) ?_
                    refine lv_iload hx hb dX11_looksForTwo_85 (lv_at hl 1 rfl) ?_
                    refine lv_iload hx hb dX11_looksForTwo_87 (lv_at hl 0 rfl) ?_
                    obtain ⟨S25, hz24, hf⟩ := cb_e hf
                    refine mVv (As := [.int x1, .int x2, .int (S12.2 20 j18), .int (S12.2 20 j20)]) (rest := []) hC (c_m_tells hz24) q_m_tells a_1246 (Nat.le_of_ble_eq_true rfl) hX hKX rfl hl.1 (Nat.le_of_ble_eq_true rfl) dX11_looksForTwo_89 hS (fun H locs hX hS => ?_)
                    refine lv_iinc (v := (x11 + 1)) (lv' := [(4, .int (x11 + 1)), (6, .int (S12.2 20 j20)), (5, .int (S12.2 20 j18)), (0, .ref (ad 0)), (1, .int x1), (2, .int x2), (3, .int x4)]) hx hb dX11_looksForTwo_92 hl (k := 6) rfl rfl (by decide) rfl (fun ls hl => ?_)
                    refine lv_goto (tgt := 24) hx hb dX11_looksForTwo_95 (by decide) ?_
                    exact ihg13 _ _ _ _ _ hX hS (lv_sub hl [3, 4, 5, 6, 0] rfl) hf
          exact Lg13 FU _ _ _ _ _ hX hS (lv_sub hl [1, 2, 3, 4, 0] rfl) hf
  exact Lg6 FU _ _ _ _ _ hX hS (lv_sub hl [1, 2, 3, 0] rfl) hf

theorem q_m_looks : VWv RX11 yX11_looks cX11_looks 3 none 1 := ⟨a_1237, a_55, a_1236, a_32, by decide +kernel⟩
set_option maxRecDepth 100000 in
set_option maxHeartbeats 4000000 in
theorem c_m_looks {l : Launch} {D : va_G} {cA : Nat → ClassId} {A : Nat → Prop} {ad : Nat → Nat} {x1 : Int32} {S : St} {S' : St} (hf : m_looks x1 S = some S') : Ct l D cA A yX11_looks cX11_looks 3 none 4 0 0 [.ref (ad 0), .int x1] (MX D cA A ad S) none (MX D cA A ad S') := by
  refine Ct_of (by decide +kernel) (Nat.le_of_ble_eq_true rfl) ?_
  intro p e s m args below meth c ls hC hr hlk hnm hX hKX hl
  have hK := hKX.1
  have hx := hC.1
  have hb := hC.2.1
  have hS : va_S A s.heap s.heap [] := va_S.rf
  have hX : MX D cA A ad S s.heap := hX
  have hl : lv_has ls 3 [(0, .ref (ad 0)), (1, .int x1)] := hl
  unfold m_looks at hf
  refine lv_aload_n hx hb dX11_looks_0 rfl (lv_at hl 0 rfl) ?_
  refine lv_iload_n hx hb dX11_looks_1 rfl (lv_at hl 1 rfl) ?_
  refine lv_iconst (v := 1) hx hb dX11_looks_2 (by decide) ?_
  obtain ⟨S4, hz3, hf⟩ := cb_e hf
  refine mVv (As := [.int x1, .int 1]) (rest := []) hC (c_m_looksForTwo hz3) q_m_looksForTwo a_1238 (Nat.le_of_ble_eq_true rfl) hX hKX rfl hl.1 (Nat.le_of_ble_eq_true rfl) dX11_looks_3 hS (fun H locs hX hS => ?_)
  refine lv_iconst (v := 0) hx hb dX11_looks_6 (by decide) ?_
  refine lv_istore_n (lv' := [(2, .int 0), (0, .ref (ad 0)), (1, .int x1)]) hx hb dX11_looks_7 rfl hl (by decide) rfl (fun ls hl => ?_)
  obtain ⟨g7, g70, g7s, hf⟩ := lp2_e hf
  have Lg7 : ∀ (n : Nat) (x5 : Int32) (S6 : St) (H : Heap) (locs : List Loc) (ls : Array Slot), MX D cA A ad S6 H → va_S A s.heap H locs → lv_has ls 3 [(0, .ref (ad 0)), (1, .int x1), (2, .int x5)] → g7 n x5 S6 = some S' → W p l e (RM 4 0 0) s m args below meth c H locs 0 0 (MQ below (CtQ A none (MX D cA A ad S')) args s 0 0 A) (F0 m 8 ls []) := by
    intro n
    induction n with
    | zero => intro x5 S6 H locs ls hX hS hl hf; rw [g70] at hf; cases hf
    | succ n ihg7 =>
      intro x5 S6 H locs ls hX hS hl hf
      rw [g7s] at hf
      refine lv_iload_n hx hb dX11_looks_8 rfl (lv_at hl 2 rfl) ?_
      refine lv_aload_n hx hb dX11_looks_9 rfl (lv_at hl 0 rfl) ?_
      refine mget (v := .ref (ad 19)) hx hb hC hK hX 19 (by decide) a_987 rfl dX11_looks_10 ?_
      refine lv_iload_n hx hb dX11_looks_13 rfl (lv_at hl 1 rfl) ?_
      obtain ⟨h9, j8, ej8, hf⟩ := rd_e hf
      refine mald hx hb hC hK hX (by decide) h9 ej8 dX11_looks_14 ?_
      obtain ⟨k10, hk10, hf⟩ := jn0_e hf
      have Jk10 : ∀  (H : Heap) (locs : List Loc) (ls : Array Slot), MX D cA A ad S6 H → va_S A s.heap H locs → lv_has ls 3 [(0, .ref (ad 0)), (1, .int x1)] → k10 = some S' → W p l e (RM 4 0 0) s m args below meth c H locs 0 0 (MQ below (CtQ A none (MX D cA A ad S')) args s 0 0 A) (F0 m 78 ls []) := by
        intro  H locs ls hX hS hl hf
        rw [hk10] at hf
        refine lv_aload_n hx hb dX11_looks_78 rfl (lv_at hl 0 rfl) ?_
        refine mget (v := .int (S6.1 25)) hx hb hC hK hX 25 (by decide) a_993 rfl dX11_looks_79 ?_
        obtain ⟨k12, hk12, hf⟩ := jn1_e hf
        have Jk12 : ∀ (S11 : St) (H : Heap) (locs : List Loc) (ls : Array Slot), MX D cA A ad S11 H → va_S A s.heap H locs → lv_has ls 3 [(0, .ref (ad 0)), (1, .int x1)] → k12 S11 = some S' → W p l e (RM 4 0 0) s m args below meth c H locs 0 0 (MQ below (CtQ A none (MX D cA A ad S')) args s 0 0 A) (F0 m 101 ls []) := by
          intro S11 H locs ls hX hS hl hf
          rw [hk12] at hf
          refine lv_aload_n hx hb dX11_looks_101 rfl (lv_at hl 0 rfl) ?_
          refine mget (v := .int (S11.1 25)) hx hb hC hK hX 25 (by decide) a_993 rfl dX11_looks_102 ?_
          refine lv_if_ne (tgt := 136) hx hb dX11_looks_105 (by decide) (fun c13 => ?_) (fun c13 => ?_)
          · have hf := it_f c13 hf
            cases hf
            exact Ct_rv hx hb hr hlk hX hS dX11_looks_136
          · have hf := it_t c13 hf
            refine lv_aload_n hx hb dX11_looks_108 rfl (lv_at hl 0 rfl) ?_
            refine mget (v := .ref (ad 8)) hx hb hC hK hX 8 (by decide) a_976 rfl dX11_looks_109 ?_
            refine lv_iload_n hx hb dX11_looks_112 rfl (lv_at hl 1 rfl) ?_
            obtain ⟨h15, j14, ej14, hf⟩ := rd_e hf
            refine mald hx hb hC hK hX (by decide) h15 ej14 dX11_looks_113 ?_
            refine lv_if_ne (tgt := 136) hx hb dX11_looks_114 (by decide) (fun c16 => ?_) (fun c16 => ?_)
            · have hf := it_f c16 hf
              cases hf
              exact Ct_rv hx hb hr hlk hX hS dX11_looks_136
            · have hf := it_t c16 hf
              refine lv_aload_n hx hb dX11_looks_117 rfl (lv_at hl 0 rfl) ?_
              refine mget (v := .ref (ad 19)) hx hb hC hK hX 19 (by decide) a_987 rfl dX11_looks_118 ?_
              refine lv_iload_n hx hb dX11_looks_121 rfl (lv_at hl 1 rfl) ?_
              obtain ⟨h18, j17, ej17, hf⟩ := rd_e hf
              refine mald hx hb hC hK hX (by decide) h18 ej17 dX11_looks_122 ?_
              refine lv_bipush (v := 12) hx hb dX11_looks_123 (by decide) ?_
              refine lv_icmp_le (tgt := 136) hx hb dX11_looks_125 (by decide) (fun c19 => ?_) (fun c19 => ?_)
              · have hf := it_t c19 hf
                cases hf
                exact Ct_rv hx hb hr hlk hX hS dX11_looks_136
              · have hf := it_f c19 hf
                refine lv_aload_n hx hb dX11_looks_128 rfl (lv_at hl 0 rfl) ?_
                refine lv_iload_n hx hb dX11_looks_129 rfl (lv_at hl 1 rfl) ?_
                refine lv_iconst (v := 4) hx hb dX11_looks_130 (by decide) ?_
                refine lv_iconst (v := (-1)) hx hb dX11_looks_131 (by decide) ?_
                refine lv_iconst (v := (-1)) hx hb dX11_looks_132 (by decide) ?_
                obtain ⟨S21, hz20, hf⟩ := cb_e hf
                refine mVv (As := [.int x1, .int 4, .int (-1), .int (-1)]) (rest := []) hC (c_m_tells hz20) q_m_tells a_1246 (Nat.le_of_ble_eq_true rfl) hX hKX rfl hl.1 (Nat.le_of_ble_eq_true rfl) dX11_looks_133 hS (fun H locs hX hS => ?_)
                cases hf
                exact Ct_rv hx hb hr hlk hX hS dX11_looks_136
        refine lv_if_ne (tgt := 101) hx hb dX11_looks_82 (by decide) (fun c22 => ?_) (fun c22 => ?_)
        · have hf := it_f c22 hf
          exact Jk12 _ _ _ _ hX hS (lv_sub hl [0, 1] rfl) hf
        · have hf := it_t c22 hf
          refine lv_aload_n hx hb dX11_looks_85 rfl (lv_at hl 0 rfl) ?_
          refine mget (v := .ref (ad 8)) hx hb hC hK hX 8 (by decide) a_976 rfl dX11_looks_86 ?_
          refine lv_iload_n hx hb dX11_looks_89 rfl (lv_at hl 1 rfl) ?_
          obtain ⟨h24, j23, ej23, hf⟩ := rd_e hf
          refine mald hx hb hC hK hX (by decide) h24 ej23 dX11_looks_90 ?_
          refine lv_iconst (v := 3) hx hb dX11_looks_91 (by decide) ?_
          refine lv_icmp_ne (tgt := 101) hx hb dX11_looks_92 (by decide) (fun c25 => ?_) (fun c25 => ?_)
          · have hf := it_f c25 hf
            exact Jk12 _ _ _ _ hX hS (lv_sub hl [0, 1] rfl) hf
          · have hf := it_t c25 hf
            refine lv_aload_n hx hb dX11_looks_95 rfl (lv_at hl 0 rfl) ?_
            refine lv_iload_n hx hb dX11_looks_96 rfl (lv_at hl 1 rfl) ?_
            refine lv_iconst (v := 3) hx hb dX11_looks_97 (by decide) ?_
            obtain ⟨S27, hz26, hf⟩ := cb_e hf
            refine mVv (As := [.int x1, .int 3]) (rest := []) hC (c_m_looksForTwo hz26) q_m_looksForTwo a_1238 (Nat.le_of_ble_eq_true rfl) hX hKX rfl hl.1 (Nat.le_of_ble_eq_true rfl) dX11_looks_98 hS (fun H locs hX hS => ?_)
            exact Jk12 _ _ _ _ hX hS (lv_sub hl [0, 1] rfl) hf
      refine lv_icmp_ge (tgt := 78) hx hb dX11_looks_15 (by decide) (fun c28 => ?_) (fun c28 => ?_)
      · have hf := it_t c28 hf
        exact Jk10 _ _ _ hX hS (lv_sub hl [0, 1] rfl) hf
      · have hf := it_f c28 hf
        refine lv_aload_n hx hb dX11_looks_18 rfl (lv_at hl 0 rfl) ?_
        refine mget (v := .int (S6.1 25)) hx hb hC hK hX 25 (by decide) a_993 rfl dX11_looks_19 ?_
        refine lv_if_ne (tgt := 78) hx hb dX11_looks_22 (by decide) (fun c29 => ?_) (fun c29 => ?_)
        · have hf := it_f c29 hf
          exact Jk10 _ _ _ hX hS (lv_sub hl [0, 1] rfl) hf
        · have hf := it_t c29 hf
          refine lv_aload_n hx hb dX11_looks_25 rfl (lv_at hl 0 rfl) ?_
          refine mget (v := .ref (ad 8)) hx hb hC hK hX 8 (by decide) a_976 rfl dX11_looks_26 ?_
          refine lv_iload_n hx hb dX11_looks_29 rfl (lv_at hl 1 rfl) ?_
          obtain ⟨h31, j30, ej30, hf⟩ := rd_e hf
          refine mald hx hb hC hK hX (by decide) h31 ej30 dX11_looks_30 ?_
          refine lv_iconst (v := 1) hx hb dX11_looks_31 (by decide) ?_
          refine lv_icmp_ne (tgt := 78) hx hb dX11_looks_32 (by decide) (fun c32 => ?_) (fun c32 => ?_)
          · have hf := it_f c32 hf
            exact Jk10 _ _ _ hX hS (lv_sub hl [0, 1] rfl) hf
          · have hf := it_t c32 hf
            refine lv_aload_n hx hb dX11_looks_35 rfl (lv_at hl 0 rfl) ?_
            refine lv_iload_n hx hb dX11_looks_36 rfl (lv_at hl 1 rfl) ?_
            refine lv_aload_n hx hb dX11_looks_37 rfl (lv_at hl 0 rfl) ?_
            refine mget (v := .ref (ad 20)) hx hb hC hK hX 20 (by decide) a_988 rfl dX11_looks_38 ?_
            refine lv_bipush (v := 40) hx hb dX11_looks_41 (by decide) ?_
            refine lv_iload_n hx hb dX11_looks_43 rfl (lv_at hl 1 rfl) ?_
            refine lv_imul hx hb dX11_looks_44 ?_
            refine lv_iload_n hx hb dX11_looks_45 rfl (lv_at hl 2 rfl) ?_
            refine lv_iadd hx hb dX11_looks_46 ?_
            obtain ⟨h34, j33, ej33, hf⟩ := rd_e hf
            refine mald hx hb hC hK hX (by decide) h34 ej33 dX11_looks_47 ?_
            obtain ⟨z35, hz35, hf⟩ := cb_e hf
            refine mVi (As := [.int x1, .int (S6.2 20 j33)]) (rest := []) hC (c_m_isSelected hz35) q_m_isSelected a_1186 (Nat.le_of_ble_eq_true rfl) hX hKX rfl hl.1 (Nat.le_of_ble_eq_true rfl) dX11_looks_48 hS (fun H locs hX hS => ?_)
            refine lv_if_ne (tgt := 72) hx hb dX11_looks_51 (by decide) (fun c36 => ?_) (fun c36 => ?_)
            · have hf := it_f c36 hf
              refine lv_iinc (v := (x5 + 1)) (lv' := [(2, .int (x5 + 1)), (0, .ref (ad 0)), (1, .int x1)]) hx hb dX11_looks_72 hl (k := 2) rfl rfl (by decide) rfl (fun ls hl => ?_)
              refine lv_goto (tgt := 8) hx hb dX11_looks_75 (by decide) ?_
              exact ihg7 _ _ _ _ _ hX hS (lv_sub hl [1, 2, 0] rfl) hf
            · have hf := it_t c36 hf
              refine lv_aload_n hx hb dX11_looks_54 rfl (lv_at hl 0 rfl) ?_
              refine lv_iload_n hx hb dX11_looks_55 rfl (lv_at hl 1 rfl) ?_
              refine lv_iconst (v := 2) hx hb dX11_looks_56 (by decide) ?_
              refine lv_aload_n hx hb dX11_looks_57 rfl (lv_at hl 0 rfl) ?_
              refine mget (v := .ref (ad 20)) hx hb hC hK hX 20 (by decide) a_988 rfl dX11_looks_58 ?_
              refine lv_bipush (v := 40) hx hb dX11_looks_61 (by decide) ?_
              refine lv_iload_n hx hb dX11_looks_63 rfl (lv_at hl 1 rfl) ?_
              refine lv_imul hx hb dX11_looks_64 ?_
              refine lv_iload_n hx hb dX11_looks_65 rfl (lv_at hl 2 rfl) ?_
              refine lv_iadd hx hb dX11_looks_66 ?_
              obtain ⟨h38, j37, ej37, hf⟩ := rd_e hf
              refine mald hx hb hC hK hX (by decide) h38 ej37 dX11_looks_67 ?_
              refine lv_iconst (v := (-1)) hx hb dX11_looks_68 (by decide) ?_
              obtain ⟨S40, hz39, hf⟩ := cb_e hf
              refine mVv (As := [.int x1, .int 2, .int (S6.2 20 j37), .int (-1)]) (rest := []) hC (c_m_tells hz39) q_m_tells a_1246 (Nat.le_of_ble_eq_true rfl) hX hKX rfl hl.1 (Nat.le_of_ble_eq_true rfl) dX11_looks_69 hS (fun H locs hX hS => ?_)
              refine lv_iinc (v := (x5 + 1)) (lv' := [(2, .int (x5 + 1)), (0, .ref (ad 0)), (1, .int x1)]) hx hb dX11_looks_72 hl (k := 2) rfl rfl (by decide) rfl (fun ls hl => ?_)
              refine lv_goto (tgt := 8) hx hb dX11_looks_75 (by decide) ?_
              exact ihg7 _ _ _ _ _ hX hS (lv_sub hl [1, 2, 0] rfl) hf
  exact Lg7 FU _ _ _ _ _ hX hS (lv_sub hl [1, 2, 0] rfl) hf

theorem q_m_isFree : VWv RX11 yX11_isFree cX11_isFree 3 (some .boolean) 2 := ⟨a_1269, a_55, a_1268, a_40, by decide +kernel⟩
set_option maxRecDepth 100000 in
set_option maxHeartbeats 4000000 in
theorem c_m_isFree {l : Launch} {D : va_G} {cA : Nat → ClassId} {A : Nat → Prop} {ad : Nat → Nat} {x1 : Int32} {x2 : Int32} {S : St} {r : Int32} (hf : m_isFree x1 x2 S = some r) : Ct l D cA A yX11_isFree cX11_isFree 3 (some .boolean) 3 0 0 [.ref (ad 0), .int x1, .int x2] (MX D cA A ad S) (some (.int r)) (MX D cA A ad S) := by
  refine Ct_of (by decide +kernel) (Nat.le_of_ble_eq_true rfl) ?_
  intro p e s m args below meth c ls hC hr hlk hnm hX hKX hl
  have hK := hKX.1
  have hx := hC.1
  have hb := hC.2.1
  have hS : va_S A s.heap s.heap [] := va_S.rf
  have hX : MX D cA A ad S s.heap := hX
  have hl : lv_has ls 3 [(0, .ref (ad 0)), (1, .int x1), (2, .int x2)] := hl
  unfold m_isFree at hf
  refine lv_aload_n hx hb dX11_isFree_0 rfl (lv_at hl 0 rfl) ?_
  refine lv_aload_n hx hb dX11_isFree_1 rfl (lv_at hl 0 rfl) ?_
  refine mget (v := .ref (ad 20)) hx hb hC hK hX 20 (by decide) a_988 rfl dX11_isFree_2 ?_
  refine lv_bipush (v := 40) hx hb dX11_isFree_5 (by decide) ?_
  refine lv_iload_n hx hb dX11_isFree_7 rfl (lv_at hl 1 rfl) ?_
  refine lv_imul hx hb dX11_isFree_8 ?_
  refine lv_aload_n hx hb dX11_isFree_9 rfl (lv_at hl 0 rfl) ?_
  refine mget (v := .ref (ad 19)) hx hb hC hK hX 19 (by decide) a_987 rfl dX11_isFree_10 ?_
  refine lv_iload_n hx hb dX11_isFree_13 rfl (lv_at hl 1 rfl) ?_
  obtain ⟨h5, j4, ej4, hf⟩ := rd_e hf
  refine mald hx hb hC hK hX (by decide) h5 ej4 dX11_isFree_14 ?_
  refine lv_aload_n hx hb dX11_isFree_15 rfl (lv_at hl 0 rfl) ?_
  refine mget (v := .ref (ad 15)) hx hb hC hK hX 15 (by decide) a_983 rfl dX11_isFree_16 ?_
  refine lv_iload_n hx hb dX11_isFree_19 rfl (lv_at hl 1 rfl) ?_
  obtain ⟨h7, j6, ej6, hf⟩ := rd_e hf
  refine mald hx hb hC hK hX (by decide) h7 ej6 dX11_isFree_20 ?_
  refine lv_aload_n hx hb dX11_isFree_21 rfl (lv_at hl 0 rfl) ?_
  refine lv_iload_n hx hb dX11_isFree_22 rfl (lv_at hl 2 rfl) ?_
  refine lv_aload_n hx hb dX11_isFree_23 rfl (lv_at hl 0 rfl) ?_
  refine mget (v := .ref (ad 15)) hx hb hC hK hX 15 (by decide) a_983 rfl dX11_isFree_24 ?_
  refine lv_iload_n hx hb dX11_isFree_27 rfl (lv_at hl 1 rfl) ?_
  obtain ⟨h9, j8, ej8, hf⟩ := rd_e hf
  refine mald hx hb hC hK hX (by decide) h9 ej8 dX11_isFree_28 ?_
  obtain ⟨z10, hz10, hf⟩ := cb_e hf
  refine mVi (As := [.int x2, .int (S.2 15 j8)]) (rest := [.int (S.2 15 j6), .int (S.2 19 j4), .int (40 * x1), .ref (ad 20), .ref (ad 0)]) hC (c_m_part hz10) q_m_part a_1102 (Nat.le_of_ble_eq_true rfl) hX hKX rfl hl.1 (Nat.le_of_ble_eq_true rfl) dX11_isFree_29 hS (fun H locs hX hS => ?_)
  obtain ⟨z11, hz11, hf⟩ := cb_e hf
  refine mVi (As := [.ref (ad 20), .int (40 * x1), .int (S.2 19 j4), .int (S.2 15 j6), .int z10]) (rest := []) hC (c_m_rowWith (by decide) hz11) q_m_rowWith a_1110 (Nat.le_of_ble_eq_true rfl) hX hKX rfl hl.1 (Nat.le_of_ble_eq_true rfl) dX11_isFree_32 hS (fun H locs hX hS => ?_)
  refine lv_iconst (v := (-1)) hx hb dX11_isFree_35 (by decide) ?_
  refine lv_icmp_ne (tgt := 43) hx hb dX11_isFree_36 (by decide) (fun c12 => ?_) (fun c12 => ?_)
  · have hf := it_f c12 hf
    refine lv_iconst (v := 0) hx hb dX11_isFree_43 (by decide) ?_
    cases hf
    exact Ct_rz hx hb hr hlk nz0 hX hS dX11_isFree_44
  · have hf := it_t c12 hf
    refine lv_iconst (v := 1) hx hb dX11_isFree_39 (by decide) ?_
    refine lv_goto (tgt := 44) hx hb dX11_isFree_40 (by decide) ?_
    cases hf
    exact Ct_rz hx hb hr hlk nz1 hX hS dX11_isFree_44

theorem q_m_putsRow : VWv RX11 yX11_putsRow cX11_putsRow 3 none 2 := ⟨a_1229, a_55, a_1228, a_30, by decide +kernel⟩
set_option maxRecDepth 100000 in
set_option maxHeartbeats 4000000 in
theorem c_m_putsRow {l : Launch} {D : va_G} {cA : Nat → ClassId} {A : Nat → Prop} {ad : Nat → Nat} {x1 : Int32} {x2 : Int32} {S : St} {S' : St} (hf : m_putsRow x1 x2 S = some S') : Ct l D cA A yX11_putsRow cX11_putsRow 3 none 1 0 0 [.ref (ad 0), .int x1, .int x2] (MX D cA A ad S) none (MX D cA A ad S') := by
  refine Ct_of (by decide +kernel) (Nat.le_of_ble_eq_true rfl) ?_
  intro p e s m args below meth c ls hC hr hlk hnm hX hKX hl
  have hK := hKX.1
  have hx := hC.1
  have hb := hC.2.1
  have hS : va_S A s.heap s.heap [] := va_S.rf
  have hX : MX D cA A ad S s.heap := hX
  have hl : lv_has ls 3 [(0, .ref (ad 0)), (1, .int x1), (2, .int x2)] := hl
  unfold m_putsRow at hf
  refine lv_aload_n hx hb dX11_putsRow_0 rfl (lv_at hl 0 rfl) ?_
  refine mget (v := .ref (ad 19)) hx hb hC hK hX 19 (by decide) a_987 rfl dX11_putsRow_1 ?_
  refine lv_iload_n hx hb dX11_putsRow_4 rfl (lv_at hl 1 rfl) ?_
  refine lv_aload_n hx hb dX11_putsRow_5 rfl (lv_at hl 0 rfl) ?_
  refine mget (v := .ref (ad 20)) hx hb hC hK hX 20 (by decide) a_988 rfl dX11_putsRow_6 ?_
  refine lv_bipush (v := 40) hx hb dX11_putsRow_9 (by decide) ?_
  refine lv_iload_n hx hb dX11_putsRow_11 rfl (lv_at hl 1 rfl) ?_
  refine lv_imul hx hb dX11_putsRow_12 ?_
  refine lv_aload_n hx hb dX11_putsRow_13 rfl (lv_at hl 0 rfl) ?_
  refine mget (v := .ref (ad 19)) hx hb hC hK hX 19 (by decide) a_987 rfl dX11_putsRow_14 ?_
  refine lv_iload_n hx hb dX11_putsRow_17 rfl (lv_at hl 1 rfl) ?_
  obtain ⟨h5, j4, ej4, hf⟩ := rd_e hf
  refine mald hx hb hC hK hX (by decide) h5 ej4 dX11_putsRow_18 ?_
  refine lv_iload_n hx hb dX11_putsRow_19 rfl (lv_at hl 2 rfl) ?_
  obtain ⟨z6, S7, hz6, hf⟩ := cb2_e hf
  refine mSi (As := [.ref (ad 20), .int (40 * x1), .int (S.2 19 j4), .int x2]) (rest := [.int x1, .ref (ad 19)]) hC (c_m_lays (by decide) hz6) q_m_lays a_1114 (Nat.le_of_ble_eq_true rfl) hX hKX rfl hl.1 (Nat.le_of_ble_eq_true rfl) dX11_putsRow_20 hS (fun H locs hX hS => ?_)
  obtain ⟨h9, j8, ej8, hf⟩ := rd_e hf
  refine mast hx hb hC hK hX hS (by decide) h9 ej8 dX11_putsRow_23 (fun H locs hX hS => ?_)
  obtain ⟨S10, eS10, hf⟩ := lt_e hf
  rw [← eS10] at hX
  cases hf
  exact Ct_rv hx hb hr hlk hX hS dX11_putsRow_24

theorem q_m_putsTable : VWv RX11 yX11_putsTable cX11_putsTable 4 none 1 := ⟨a_1257, a_55, a_1256, a_37, by decide +kernel⟩
set_option maxRecDepth 100000 in
set_option maxHeartbeats 4000000 in
theorem c_m_putsTable {l : Launch} {D : va_G} {cA : Nat → ClassId} {A : Nat → Prop} {ad : Nat → Nat} {x1 : Int32} {S : St} {S' : St} (hf : m_putsTable x1 S = some S') : Ct l D cA A yX11_putsTable cX11_putsTable 4 none 0 0 0 [.ref (ad 0), .int x1] (MX D cA A ad S) none (MX D cA A ad S') := by
  refine Ct_of (by decide +kernel) (Nat.le_of_ble_eq_true rfl) ?_
  intro p e s m args below meth c ls hC hr hlk hnm hX hKX hl
  have hK := hKX.1
  have hx := hC.1
  have hb := hC.2.1
  have hS : va_S A s.heap s.heap [] := va_S.rf
  have hX : MX D cA A ad S s.heap := hX
  have hl : lv_has ls 4 [(0, .ref (ad 0)), (1, .int x1)] := hl
  unfold m_putsTable at hf
  refine lv_aload_n hx hb dX11_putsTable_0 rfl (lv_at hl 0 rfl) ?_
  refine mget (v := .ref (ad 9)) hx hb hC hK hX 9 (by decide) a_977 rfl dX11_putsTable_1 ?_
  refine lv_iload_n hx hb dX11_putsTable_4 rfl (lv_at hl 1 rfl) ?_
  obtain ⟨h4, j3, ej3, hf⟩ := rd_e hf
  refine mald hx hb hC hK hX (by decide) h4 ej3 dX11_putsTable_5 ?_
  refine lv_istore_n (lv' := [(2, .int (S.2 9 j3)), (0, .ref (ad 0)), (1, .int x1)]) hx hb dX11_putsTable_6 rfl hl (by decide) rfl (fun ls hl => ?_)
  refine lv_aload_n hx hb dX11_putsTable_7 rfl (lv_at hl 1 rfl) ?_
  refine mget (v := .ref (ad 28)) hx hb hC hK hX 28 (by decide) a_996 rfl dX11_putsTable_8 ?_
  refine lv_iload_n hx hb dX11_putsTable_11 rfl (lv_at hl 0 rfl) ?_
  refine lv_aload_n hx hb dX11_putsTable_12 rfl (lv_at hl 1 rfl) ?_
  refine mget (v := .ref (ad 19)) hx hb hC hK hX 19 (by decide) a_987 rfl dX11_putsTable_13 ?_
  refine lv_iload_n hx hb dX11_putsTable_16 rfl (lv_at hl 2 rfl) ?_
  obtain ⟨h6, j5, ej5, hf⟩ := rd_e hf
  refine mald hx hb hC hK hX (by decide) h6 ej5 dX11_putsTable_17 ?_
  obtain ⟨h8, j7, ej7, hf⟩ := rd_e hf
  refine mast hx hb hC hK hX hS (by decide) h8 ej7 dX11_putsTable_18 (fun H locs hX hS => ?_)
  obtain ⟨S9, eS9, hf⟩ := lt_e hf
  rw [← eS9] at hX
  refine lv_iconst (v := 0) hx hb dX11_putsTable_19 (by decide) ?_
  refine lv_istore_n (lv' := [(3, .int 0), (2, .int (S.2 9 j3)), (0, .ref (ad 0)), (1, .int x1)]) hx hb dX11_putsTable_20 rfl hl (by decide) rfl (fun ls hl => ?_)
  obtain ⟨g12, g120, g12s, hf⟩ := lp2_e hf
  have Lg12 : ∀ (n : Nat) (x10 : Int32) (S11 : St) (H : Heap) (locs : List Loc) (ls : Array Slot), MX D cA A ad S11 H → va_S A s.heap H locs → lv_has ls 4 [(0, .ref (ad 0)), (1, .int x1), (2, .int (S.2 9 j3)), (3, .int x10)] → g12 n x10 S11 = some S' → W p l e (RM 0 0 0) s m args below meth c H locs 0 0 (MQ below (CtQ A none (MX D cA A ad S')) args s 0 0 A) (F0 m 21 ls []) := by
    intro n
    induction n with
    | zero => intro x10 S11 H locs ls hX hS hl hf; rw [g120] at hf; cases hf
    | succ n ihg12 =>
      intro x10 S11 H locs ls hX hS hl hf
      rw [g12s] at hf
      refine lv_iload_n hx hb dX11_putsTable_21 rfl (lv_at hl 3 rfl) ?_
      refine lv_aload_n hx hb dX11_putsTable_22 rfl (lv_at hl 0 rfl) ?_
      refine mget (v := .ref (ad 19)) hx hb hC hK hX 19 (by decide) a_987 rfl dX11_putsTable_23 ?_
      refine lv_iload_n hx hb dX11_putsTable_26 rfl (lv_at hl 1 rfl) ?_
      obtain ⟨h14, j13, ej13, hf⟩ := rd_e hf
      refine mald hx hb hC hK hX (by decide) h14 ej13 dX11_putsTable_27 ?_
      refine lv_icmp_ge (tgt := 59) hx hb dX11_putsTable_28 (by decide) (fun c15 => ?_) (fun c15 => ?_)
      · have hf := it_t c15 hf
        cases hf
        exact Ct_rv hx hb hr hlk hX hS dX11_putsTable_59
      · have hf := it_f c15 hf
        refine lv_aload_n hx hb dX11_putsTable_31 rfl (lv_at hl 0 rfl) ?_
        refine mget (v := .ref (ad 29)) hx hb hC hK hX 29 (by decide) a_997 rfl dX11_putsTable_32 ?_
        refine lv_bipush (v := 12) hx hb dX11_putsTable_35 (by decide) ?_
        refine lv_iload_n hx hb dX11_putsTable_37 rfl (lv_at hl 2 rfl) ?_
        refine lv_imul hx hb dX11_putsTable_38 ?_
        refine lv_iload_n hx hb dX11_putsTable_39 rfl (lv_at hl 3 rfl) ?_
        refine lv_iadd hx hb dX11_putsTable_40 ?_
        refine lv_aload_n hx hb dX11_putsTable_41 rfl (lv_at hl 0 rfl) ?_
        refine mget (v := .ref (ad 20)) hx hb hC hK hX 20 (by decide) a_988 rfl dX11_putsTable_42 ?_
        refine lv_bipush (v := 40) hx hb dX11_putsTable_45 (by decide) ?_
        refine lv_iload_n hx hb dX11_putsTable_47 rfl (lv_at hl 1 rfl) ?_
        refine lv_imul hx hb dX11_putsTable_48 ?_
        refine lv_iload_n hx hb dX11_putsTable_49 rfl (lv_at hl 3 rfl) ?_
        refine lv_iadd hx hb dX11_putsTable_50 ?_
        obtain ⟨h17, j16, ej16, hf⟩ := rd_e hf
        refine mald hx hb hC hK hX (by decide) h17 ej16 dX11_putsTable_51 ?_
        obtain ⟨h19, j18, ej18, hf⟩ := rd_e hf
        refine mast hx hb hC hK hX hS (by decide) h19 ej18 dX11_putsTable_52 (fun H locs hX hS => ?_)
        obtain ⟨S20, eS20, hf⟩ := lt_e hf
        rw [← eS20] at hX
        refine lv_iinc (v := (x10 + 1)) (lv' := [(3, .int (x10 + 1)), (0, .ref (ad 0)), (1, .int x1), (2, .int (S.2 9 j3))]) hx hb dX11_putsTable_53 hl (k := 3) rfl rfl (by decide) rfl (fun ls hl => ?_)
        refine lv_goto (tgt := 21) hx hb dX11_putsTable_56 (by decide) ?_
        exact ihg12 _ _ _ _ _ hX hS (lv_sub hl [1, 2, 3, 0] rfl) hf
  exact Lg12 FU _ _ _ _ _ hX hS (lv_sub hl [2, 3, 1, 0] rfl) hf

theorem q_m_putsOne : VWv RX11 yX11_putsOne cX11_putsOne 6 none 1 := ⟨a_1273, a_55, a_1272, a_41, by decide +kernel⟩
set_option maxRecDepth 100000 in
set_option maxHeartbeats 4000000 in
theorem c_m_putsOne {l : Launch} {D : va_G} {cA : Nat → ClassId} {A : Nat → Prop} {ad : Nat → Nat} {x1 : Int32} {S : St} {S' : St} (hf : m_putsOne x1 S = some S') : Ct l D cA A yX11_putsOne cX11_putsOne 6 none 4 0 0 [.ref (ad 0), .int x1] (MX D cA A ad S) none (MX D cA A ad S') := by
  refine Ct_of (by decide +kernel) (Nat.le_of_ble_eq_true rfl) ?_
  intro p e s m args below meth c ls hC hr hlk hnm hX hKX hl
  have hK := hKX.1
  have hx := hC.1
  have hb := hC.2.1
  have hS : va_S A s.heap s.heap [] := va_S.rf
  have hX : MX D cA A ad S s.heap := hX
  have hl : lv_has ls 6 [(0, .ref (ad 0)), (1, .int x1)] := hl
  unfold m_putsOne at hf
  refine lv_aload_n hx hb dX11_putsOne_0 rfl (lv_at hl 0 rfl) ?_
  refine mget (v := .ref (ad 9)) hx hb hC hK hX 9 (by decide) a_977 rfl dX11_putsOne_1 ?_
  refine lv_iload_n hx hb dX11_putsOne_4 rfl (lv_at hl 1 rfl) ?_
  obtain ⟨h4, j3, ej3, hf⟩ := rd_e hf
  refine mald hx hb hC hK hX (by decide) h4 ej3 dX11_putsOne_5 ?_
  refine lv_istore_n (lv' := [(2, .int (S.2 9 j3)), (0, .ref (ad 0)), (1, .int x1)]) hx hb dX11_putsOne_6 rfl hl (by decide) rfl (fun ls hl => ?_)
  refine lv_aload_n hx hb dX11_putsOne_7 rfl (lv_at hl 1 rfl) ?_
  refine mget (v := .ref (ad 19)) hx hb hC hK hX 19 (by decide) a_987 rfl dX11_putsOne_8 ?_
  refine lv_iload_n hx hb dX11_putsOne_11 rfl (lv_at hl 0 rfl) ?_
  refine lv_iconst (v := 0) hx hb dX11_putsOne_12 (by decide) ?_
  obtain ⟨h6, j5, ej5, hf⟩ := rd_e hf
  refine mast hx hb hC hK hX hS (by decide) h6 ej5 dX11_putsOne_13 (fun H locs hX hS => ?_)
  obtain ⟨S7, eS7, hf⟩ := lt_e hf
  rw [← eS7] at hX
  refine lv_iconst (v := 0) hx hb dX11_putsOne_14 (by decide) ?_
  refine lv_istore_n (lv' := [(3, .int 0), (2, .int (S.2 9 j3)), (0, .ref (ad 0)), (1, .int x1)]) hx hb dX11_putsOne_15 rfl hl (by decide) rfl (fun ls hl => ?_)
  obtain ⟨g10, g100, g10s, hf⟩ := lp2_e hf
  have Lg10 : ∀ (n : Nat) (x8 : Int32) (S9 : St) (H : Heap) (locs : List Loc) (ls : Array Slot), MX D cA A ad S9 H → va_S A s.heap H locs → lv_has ls 6 [(0, .ref (ad 0)), (1, .int x1), (2, .int (S.2 9 j3)), (3, .int x8)] → g10 n x8 S9 = some S' → W p l e (RM 4 0 0) s m args below meth c H locs 0 0 (MQ below (CtQ A none (MX D cA A ad S')) args s 0 0 A) (F0 m 16 ls []) := by
    intro n
    induction n with
    | zero => intro x8 S9 H locs ls hX hS hl hf; rw [g100] at hf; cases hf
    | succ n ihg10 =>
      intro x8 S9 H locs ls hX hS hl hf
      rw [g10s] at hf
      refine lv_iload_n hx hb dX11_putsOne_16 rfl (lv_at hl 3 rfl) ?_
      refine lv_aload_n hx hb dX11_putsOne_17 rfl (lv_at hl 0 rfl) ?_
      refine mget (v := .ref (ad 19)) hx hb hC hK hX 19 (by decide) a_987 rfl dX11_putsOne_18 ?_
      refine lv_iload_n hx hb dX11_putsOne_21 rfl (lv_at hl 1 rfl) ?_
      obtain ⟨h12, j11, ej11, hf⟩ := rd_e hf
      refine mald hx hb hC hK hX (by decide) h12 ej11 dX11_putsOne_22 ?_
      refine lv_icmp_ge (tgt := 144) hx hb dX11_putsOne_23 (by decide) (fun c13 => ?_) (fun c13 => ?_)
      · have hf := it_t c13 hf
        refine lv_iconst (v := 0) hx hb dX11_putsOne_144 (by decide) ?_
        refine lv_istore_n (lv' := [(3, .int 0), (0, .ref (ad 0)), (1, .int x1), (2, .int (S.2 9 j3))]) hx hb dX11_putsOne_145 rfl hl (by decide) rfl (fun ls hl => ?_)
        obtain ⟨g16, g160, g16s, hf⟩ := lp2_e hf
        have Lg16 : ∀ (n : Nat) (x14 : Int32) (S15 : St) (H : Heap) (locs : List Loc) (ls : Array Slot), MX D cA A ad S15 H → va_S A s.heap H locs → lv_has ls 6 [(0, .ref (ad 0)), (1, .int x1), (2, .int (S.2 9 j3)), (3, .int x14)] → g16 n x14 S15 = some S' → W p l e (RM 4 0 0) s m args below meth c H locs 0 0 (MQ below (CtQ A none (MX D cA A ad S')) args s 0 0 A) (F0 m 146 ls []) := by
          intro n
          induction n with
          | zero => intro x14 S15 H locs ls hX hS hl hf; rw [g160] at hf; cases hf
          | succ n ihg16 =>
            intro x14 S15 H locs ls hX hS hl hf
            rw [g16s] at hf
            refine lv_iload_n hx hb dX11_putsOne_146 rfl (lv_at hl 3 rfl) ?_
            refine lv_aload_n hx hb dX11_putsOne_147 rfl (lv_at hl 0 rfl) ?_
            refine mget (v := .ref (ad 17)) hx hb hC hK hX 17 (by decide) a_985 rfl dX11_putsOne_148 ?_
            refine lv_iload_n hx hb dX11_putsOne_151 rfl (lv_at hl 2 rfl) ?_
            obtain ⟨h18, j17, ej17, hf⟩ := rd_e hf
            refine mald hx hb hC hK hX (by decide) h18 ej17 dX11_putsOne_152 ?_
            refine lv_icmp_ge (tgt := 212) hx hb dX11_putsOne_153 (by decide) (fun c19 => ?_) (fun c19 => ?_)
            · have hf := it_t c19 hf
              cases hf
              exact Ct_rv hx hb hr hlk hX hS dX11_putsOne_212
            · have hf := it_f c19 hf
              refine lv_aload_n hx hb dX11_putsOne_156 rfl (lv_at hl 0 rfl) ?_
              refine mget (v := .ref (ad 8)) hx hb hC hK hX 8 (by decide) a_976 rfl dX11_putsOne_157 ?_
              refine lv_iload_n hx hb dX11_putsOne_160 rfl (lv_at hl 1 rfl) ?_
              obtain ⟨h21, j20, ej20, hf⟩ := rd_e hf
              refine mald hx hb hC hK hX (by decide) h21 ej20 dX11_putsOne_161 ?_
              refine lv_iconst (v := 1) hx hb dX11_putsOne_162 (by decide) ?_
              refine lv_icmp_ne (tgt := 212) hx hb dX11_putsOne_163 (by decide) (fun c22 => ?_) (fun c22 => ?_)
              · have hf := it_f c22 hf
                cases hf
                exact Ct_rv hx hb hr hlk hX hS dX11_putsOne_212
              · have hf := it_t c22 hf
                refine lv_aload_n hx hb dX11_putsOne_166 rfl (lv_at hl 0 rfl) ?_
                refine mget (v := .ref (ad 18)) hx hb hC hK hX 18 (by decide) a_986 rfl dX11_putsOne_167 ?_
                refine lv_bipush (v := 40) hx hb dX11_putsOne_170 (by decide) ?_
                refine lv_iload_n hx hb dX11_putsOne_172 rfl (lv_at hl 2 rfl) ?_
                refine lv_imul hx hb dX11_putsOne_173 ?_
                refine lv_iload_n hx hb dX11_putsOne_174 rfl (lv_at hl 3 rfl) ?_
                refine lv_iadd hx hb dX11_putsOne_175 ?_
                obtain ⟨h24, j23, ej23, hf⟩ := rd_e hf
                refine mald hx hb hC hK hX (by decide) h24 ej23 dX11_putsOne_176 ?_
                refine lv_istore (lv' := [(4, .int (S15.2 18 j23)), (0, .ref (ad 0)), (1, .int x1), (2, .int (S.2 9 j3)), (3, .int x14)]) hx hb dX11_putsOne_177 hl (by decide) rfl (fun ls hl => ?_)
                refine lv_aload_n hx hb dX11_putsOne_179 rfl (lv_at hl 1 rfl) ?_
                refine lv_iload_n hx hb dX11_putsOne_180 rfl (lv_at hl 2 rfl) ?_
                refine lv_iload hx hb dX11_putsOne_181 (lv_at hl 0 rfl) ?_
                obtain ⟨z25, hz25, hf⟩ := cb_e hf
                refine mVi (As := [.int x1, .int (S15.2 18 j23)]) (rest := []) hC (c_m_isSelected hz25) q_m_isSelected a_1186 (Nat.le_of_ble_eq_true rfl) hX hKX rfl hl.1 (Nat.le_of_ble_eq_true rfl) dX11_putsOne_183 hS (fun H locs hX hS => ?_)
                refine lv_if_ne (tgt := 206) hx hb dX11_putsOne_186 (by decide) (fun c26 => ?_) (fun c26 => ?_)
                · have hf := it_f c26 hf
                  refine lv_iinc (v := (x14 + 1)) (lv' := [(3, .int (x14 + 1)), (4, .int (S15.2 18 j23)), (0, .ref (ad 0)), (1, .int x1), (2, .int (S.2 9 j3))]) hx hb dX11_putsOne_206 hl (k := 4) rfl rfl (by decide) rfl (fun ls hl => ?_)
                  refine lv_goto (tgt := 146) hx hb dX11_putsOne_209 (by decide) ?_
                  exact ihg16 _ _ _ _ _ hX hS (lv_sub hl [2, 3, 4, 0] rfl) hf
                · have hf := it_t c26 hf
                  refine lv_aload_n hx hb dX11_putsOne_189 rfl (lv_at hl 1 rfl) ?_
                  refine lv_iload_n hx hb dX11_putsOne_190 rfl (lv_at hl 2 rfl) ?_
                  refine lv_iload hx hb dX11_putsOne_191 (lv_at hl 0 rfl) ?_
                  obtain ⟨z27, hz27, hf⟩ := cb_e hf
                  refine mVi (As := [.int x1, .int (S15.2 18 j23)]) (rest := []) hC (c_m_isFree hz27) q_m_isFree a_1266 (Nat.le_of_ble_eq_true rfl) hX hKX rfl hl.1 (Nat.le_of_ble_eq_true rfl) dX11_putsOne_193 hS (fun H locs hX hS => ?_)
                  refine lv_if_eq (tgt := 206) hx hb dX11_putsOne_196 (by decide) (fun c28 => ?_) (fun c28 => ?_)
                  · have hf := it_t c28 hf
                    refine lv_iinc (v := (x14 + 1)) (lv' := [(3, .int (x14 + 1)), (4, .int (S15.2 18 j23)), (0, .ref (ad 0)), (1, .int x1), (2, .int (S.2 9 j3))]) hx hb dX11_putsOne_206 hl (k := 4) rfl rfl (by decide) rfl (fun ls hl => ?_)
                    refine lv_goto (tgt := 146) hx hb dX11_putsOne_209 (by decide) ?_
                    exact ihg16 _ _ _ _ _ hX hS (lv_sub hl [2, 3, 4, 0] rfl) hf
                  · have hf := it_f c28 hf
                    refine lv_aload_n hx hb dX11_putsOne_199 rfl (lv_at hl 1 rfl) ?_
                    refine lv_iload_n hx hb dX11_putsOne_200 rfl (lv_at hl 3 rfl) ?_
                    refine lv_iload hx hb dX11_putsOne_201 (lv_at hl 0 rfl) ?_
                    obtain ⟨S30, hz29, hf⟩ := cb_e hf
                    refine mVv (As := [.int (S.2 9 j3), .int (S15.2 18 j23)]) (rest := []) hC (c_m_putsRow hz29) q_m_putsRow a_1226 (Nat.le_of_ble_eq_true rfl) hX hKX rfl hl.1 (Nat.le_of_ble_eq_true rfl) dX11_putsOne_203 hS (fun H locs hX hS => ?_)
                    refine lv_iinc (v := (x14 + 1)) (lv' := [(3, .int (x14 + 1)), (4, .int (S15.2 18 j23)), (0, .ref (ad 0)), (1, .int x1), (2, .int (S.2 9 j3))]) hx hb dX11_putsOne_206 hl (k := 4) rfl rfl (by decide) rfl (fun ls hl => ?_)
                    refine lv_goto (tgt := 146) hx hb dX11_putsOne_209 (by decide) ?_
                    exact ihg16 _ _ _ _ _ hX hS (lv_sub hl [2, 3, 4, 0] rfl) hf
        exact Lg16 FU _ _ _ _ _ hX hS (lv_sub hl [1, 2, 3, 0] rfl) hf
      · have hf := it_f c13 hf
        refine lv_aload_n hx hb dX11_putsOne_26 rfl (lv_at hl 0 rfl) ?_
        refine mget (v := .ref (ad 20)) hx hb hC hK hX 20 (by decide) a_988 rfl dX11_putsOne_27 ?_
        refine lv_bipush (v := 40) hx hb dX11_putsOne_30 (by decide) ?_
        refine lv_iload_n hx hb dX11_putsOne_32 rfl (lv_at hl 1 rfl) ?_
        refine lv_imul hx hb dX11_putsOne_33 ?_
        refine lv_iload_n hx hb dX11_putsOne_34 rfl (lv_at hl 3 rfl) ?_
        refine lv_iadd hx hb dX11_putsOne_35 ?_
        obtain ⟨h32, j31, ej31, hf⟩ := rd_e hf
        refine mald hx hb hC hK hX (by decide) h32 ej31 dX11_putsOne_36 ?_
        refine lv_istore (lv' := [(4, .int (S9.2 20 j31)), (0, .ref (ad 0)), (1, .int x1), (2, .int (S.2 9 j3)), (3, .int x8)]) hx hb dX11_putsOne_37 hl (by decide) rfl (fun ls hl => ?_)
        refine lv_aload_n hx hb dX11_putsOne_39 rfl (lv_at hl 1 rfl) ?_
        refine mget (v := .ref (ad 8)) hx hb hC hK hX 8 (by decide) a_976 rfl dX11_putsOne_40 ?_
        refine lv_iload_n hx hb dX11_putsOne_43 rfl (lv_at hl 2 rfl) ?_
        obtain ⟨h34, j33, ej33, hf⟩ := rd_e hf
        refine mald hx hb hC hK hX (by decide) h34 ej33 dX11_putsOne_44 ?_
        refine lv_iconst (v := 2) hx hb dX11_putsOne_45 (by decide) ?_
        obtain ⟨k36, hk36, hf⟩ := jn1_e hf
        have Jk36 : ∀ (x35 : Int32) (H : Heap) (locs : List Loc) (ls : Array Slot), MX D cA A ad S9 H → va_S A s.heap H locs → lv_has ls 6 [(0, .ref (ad 0)), (1, .int x1), (2, .int (S.2 9 j3)), (3, .int x8), (4, .int x35)] → k36 x35 = some S' → W p l e (RM 4 0 0) s m args below meth c H locs 0 0 (MQ below (CtQ A none (MX D cA A ad S')) args s 0 0 A) (F0 m 131 ls []) := by
          intro x35 H locs ls hX hS hl hf
          rw [hk36] at hf
          refine lv_aload_n hx hb dX11_putsOne_131 rfl (lv_at hl 0 rfl) ?_
          refine lv_iload_n hx hb dX11_putsOne_132 rfl (lv_at hl 2 rfl) ?_
          refine lv_iload hx hb dX11_putsOne_133 (lv_at hl 4 rfl) ?_
          obtain ⟨S38, hz37, hf⟩ := cb_e hf
          refine mVv (As := [.int (S.2 9 j3), .int x35]) (rest := []) hC (c_m_putsRow hz37) q_m_putsRow a_1226 (Nat.le_of_ble_eq_true rfl) hX hKX rfl hl.1 (Nat.le_of_ble_eq_true rfl) dX11_putsOne_135 hS (fun H locs hX hS => ?_)
          refine lv_iinc (v := (x8 + 1)) (lv' := [(3, .int (x8 + 1)), (0, .ref (ad 0)), (1, .int x1), (2, .int (S.2 9 j3)), (4, .int x35)]) hx hb dX11_putsOne_138 hl (k := 3) rfl rfl (by decide) rfl (fun ls hl => ?_)
          refine lv_goto (tgt := 16) hx hb dX11_putsOne_141 (by decide) ?_
          exact ihg10 _ _ _ _ _ hX hS (lv_sub hl [1, 2, 3, 0] rfl) hf
        refine lv_icmp_ne (tgt := 131) hx hb dX11_putsOne_46 (by decide) (fun c39 => ?_) (fun c39 => ?_)
        · have hf := it_f c39 hf
          exact Jk36 _ _ _ _ hX hS (lv_sub hl [1, 2, 3, 4, 0] rfl) hf
        · have hf := it_t c39 hf
          refine lv_aload_n hx hb dX11_putsOne_49 rfl (lv_at hl 1 rfl) ?_
          refine lv_aload_n hx hb dX11_putsOne_50 rfl (lv_at hl 1 rfl) ?_
          refine mget (v := .ref (ad 18)) hx hb hC hK hX 18 (by decide) a_986 rfl dX11_putsOne_51 ?_
          refine lv_bipush (v := 40) hx hb dX11_putsOne_54 (by decide) ?_
          refine lv_iload_n hx hb dX11_putsOne_56 rfl (lv_at hl 3 rfl) ?_
          refine lv_imul hx hb dX11_putsOne_57 ?_
          refine lv_aload_n hx hb dX11_putsOne_58 rfl (lv_at hl 1 rfl) ?_
          refine mget (v := .ref (ad 17)) hx hb hC hK hX 17 (by decide) a_985 rfl dX11_putsOne_59 ?_
          refine lv_iload_n hx hb dX11_putsOne_62 rfl (lv_at hl 3 rfl) ?_
          obtain ⟨h41, j40, ej40, hf⟩ := rd_e hf
          refine mald hx hb hC hK hX (by decide) h41 ej40 dX11_putsOne_63 ?_
          refine lv_aload_n hx hb dX11_putsOne_64 rfl (lv_at hl 1 rfl) ?_
          refine mget (v := .ref (ad 15)) hx hb hC hK hX 15 (by decide) a_983 rfl dX11_putsOne_65 ?_
          refine lv_iload_n hx hb dX11_putsOne_68 rfl (lv_at hl 2 rfl) ?_
          obtain ⟨h43, j42, ej42, hf⟩ := rd_e hf
          refine mald hx hb hC hK hX (by decide) h43 ej42 dX11_putsOne_69 ?_
          refine lv_aload_n hx hb dX11_putsOne_70 rfl (lv_at hl 1 rfl) ?_
          refine lv_iload hx hb dX11_putsOne_71 (lv_at hl 0 rfl) ?_
          refine lv_aload_n hx hb dX11_putsOne_73 rfl (lv_at hl 1 rfl) ?_
          refine mget (v := .ref (ad 15)) hx hb hC hK hX 15 (by decide) a_983 rfl dX11_putsOne_74 ?_
          refine lv_iload_n hx hb dX11_putsOne_77 rfl (lv_at hl 2 rfl) ?_
          obtain ⟨h45, j44, ej44, hf⟩ := rd_e hf
          refine mald hx hb hC hK hX (by decide) h45 ej44 dX11_putsOne_78 ?_
          obtain ⟨z46, hz46, hf⟩ := cb_e hf
          refine mVi (As := [.int (S9.2 20 j31), .int (S9.2 15 j44)]) (rest := [.int (S9.2 15 j42), .int (S9.2 17 j40), .int (40 * (S.2 9 j3)), .ref (ad 18), .ref (ad 0)]) hC (c_m_part hz46) q_m_part a_1102 (Nat.le_of_ble_eq_true rfl) hX hKX rfl hl.1 (Nat.le_of_ble_eq_true rfl) dX11_putsOne_79 hS (fun H locs hX hS => ?_)
          obtain ⟨z47, hz47, hf⟩ := cb_e hf
          refine mVi (As := [.ref (ad 18), .int (40 * (S.2 9 j3)), .int (S9.2 17 j40), .int (S9.2 15 j42), .int z46]) (rest := []) hC (c_m_rowWith (by decide) hz47) q_m_rowWith a_1110 (Nat.le_of_ble_eq_true rfl) hX hKX rfl hl.1 (Nat.le_of_ble_eq_true rfl) dX11_putsOne_82 hS (fun H locs hX hS => ?_)
          refine lv_istore (lv' := [(5, .int z47), (4, .int (S9.2 20 j31)), (0, .ref (ad 0)), (1, .int x1), (2, .int (S.2 9 j3)), (3, .int x8)]) hx hb dX11_putsOne_85 hl (by decide) rfl (fun ls hl => ?_)
          refine lv_iload hx hb dX11_putsOne_87 (lv_at hl 1 rfl) ?_
          refine lv_iload hx hb dX11_putsOne_89 (lv_at hl 0 rfl) ?_
          refine lv_iconst (v := (-1)) hx hb dX11_putsOne_91 (by decide) ?_
          obtain ⟨k49, hk49, hf⟩ := jn1_e hf
          have Jk49 : ∀ (x48 : Int32) (H : Heap) (locs : List Loc) (ls : Array Slot), MX D cA A ad S9 H → va_S A s.heap H locs → lv_has ls 6 [(0, .ref (ad 0)), (1, .int x1), (2, .int (S.2 9 j3)), (3, .int x8)] → k49 x48 = some S' → W p l e (RM 4 0 0) s m args below meth c H locs 0 0 (MQ below (CtQ A none (MX D cA A ad S')) args s 0 0 A) (F0 m 116 ls [.int x48, .int (S9.2 20 j31)]) := by
            intro x48 H locs ls hX hS hl hf
            rw [hk49] at hf
            refine lv_aload_n hx hb dX11_putsOne_116 rfl (lv_at hl 0 rfl) ?_
            refine mget (v := .ref (ad 1)) hx hb hC hK hX 1 (by decide) a_969 rfl dX11_putsOne_117 ?_
            refine lv_aload_n hx hb dX11_putsOne_120 rfl (lv_at hl 0 rfl) ?_
            refine mget (v := .ref (ad 11)) hx hb hC hK hX 11 (by decide) a_979 rfl dX11_putsOne_121 ?_
            refine lv_iload_n hx hb dX11_putsOne_124 rfl (lv_at hl 1 rfl) ?_
            obtain ⟨h51, j50, ej50, hf⟩ := rd_e hf
            refine mald hx hb hC hK hX (by decide) h51 ej50 dX11_putsOne_125 ?_
            obtain ⟨h53, j52, ej52, hf⟩ := rd_e hf
            refine mald hx hb hC hK hX (by decide) h53 ej52 dX11_putsOne_126 ?_
            refine lv_imul hx hb dX11_putsOne_127 ?_
            refine lv_iadd hx hb dX11_putsOne_128 ?_
            refine lv_istore (lv' := [(4, .int ((S9.2 20 j31) + (x48 * (S9.2 1 j52)))), (0, .ref (ad 0)), (1, .int x1), (2, .int (S.2 9 j3)), (3, .int x8)]) hx hb dX11_putsOne_129 hl (by decide) rfl (fun ls hl => ?_)
            exact Jk36 _ _ _ _ hX hS (lv_sub hl [1, 2, 3, 4, 0] rfl) hf
          refine lv_icmp_ne (tgt := 104) hx hb dX11_putsOne_92 (by decide) (fun c54 => ?_) (fun c54 => ?_)
          · have hf := it_f c54 hf
            refine lv_aload_n hx hb dX11_putsOne_104 rfl (lv_at hl 2 rfl) ?_
            refine lv_iload hx hb dX11_putsOne_105 (lv_at hl 0 rfl) ?_
            refine lv_aload_n hx hb dX11_putsOne_107 rfl (lv_at hl 2 rfl) ?_
            refine mget (v := .ref (ad 11)) hx hb hC hK hX 11 (by decide) a_979 rfl dX11_putsOne_108 ?_
            refine lv_iload_n hx hb dX11_putsOne_111 rfl (lv_at hl 3 rfl) ?_
            obtain ⟨h56, j55, ej55, hf⟩ := rd_e hf
            refine mald hx hb hC hK hX (by decide) h56 ej55 dX11_putsOne_112 ?_
            obtain ⟨z57, hz57, hf⟩ := cb_e hf
            refine mVi (As := [.int z47, .int (S9.2 11 j55)]) (rest := [.int (S9.2 20 j31)]) hC (c_m_digit hz57) q_m_digit a_1106 (Nat.le_of_ble_eq_true rfl) hX hKX rfl hl.1 (Nat.le_of_ble_eq_true rfl) dX11_putsOne_113 hS (fun H locs hX hS => ?_)
            exact Jk49 _ _ _ _ hX hS (lv_sub hl [2, 3, 4, 5] rfl) hf
          · have hf := it_t c54 hf
            refine lv_aload_n hx hb dX11_putsOne_95 rfl (lv_at hl 2 rfl) ?_
            refine mget (v := .ref (ad 12)) hx hb hC hK hX 12 (by decide) a_980 rfl dX11_putsOne_96 ?_
            refine lv_iload_n hx hb dX11_putsOne_99 rfl (lv_at hl 3 rfl) ?_
            obtain ⟨h59, j58, ej58, hf⟩ := rd_e hf
            refine mald hx hb hC hK hX (by decide) h59 ej58 dX11_putsOne_100 ?_
            refine lv_goto (tgt := 116) hx hb dX11_putsOne_101 (by decide) ?_
            exact Jk49 _ _ _ _ hX hS (lv_sub hl [2, 3, 4, 5] rfl) hf
  exact Lg10 FU _ _ _ _ _ hX hS (lv_sub hl [2, 3, 1, 0] rfl) hf

theorem q_m_putsRight : VWv RX11 yX11_putsRight cX11_putsRight 7 none 1 := ⟨a_1261, a_55, a_1260, a_38, by decide +kernel⟩
set_option maxRecDepth 100000 in
set_option maxHeartbeats 4000000 in
theorem c_m_putsRight {l : Launch} {D : va_G} {cA : Nat → ClassId} {A : Nat → Prop} {ad : Nat → Nat} {x1 : Int32} {S : St} {S' : St} (hf : m_putsRight x1 S = some S') : Ct l D cA A yX11_putsRight cX11_putsRight 7 none 3 0 0 [.ref (ad 0), .int x1] (MX D cA A ad S) none (MX D cA A ad S') := by
  refine Ct_of (by decide +kernel) (Nat.le_of_ble_eq_true rfl) ?_
  intro p e s m args below meth c ls hC hr hlk hnm hX hKX hl
  have hK := hKX.1
  have hx := hC.1
  have hb := hC.2.1
  have hS : va_S A s.heap s.heap [] := va_S.rf
  have hX : MX D cA A ad S s.heap := hX
  have hl : lv_has ls 7 [(0, .ref (ad 0)), (1, .int x1)] := hl
  unfold m_putsRight at hf
  refine lv_aload_n hx hb dX11_putsRight_0 rfl (lv_at hl 0 rfl) ?_
  refine mget (v := .ref (ad 10)) hx hb hC hK hX 10 (by decide) a_978 rfl dX11_putsRight_1 ?_
  refine lv_iload_n hx hb dX11_putsRight_4 rfl (lv_at hl 1 rfl) ?_
  obtain ⟨h4, j3, ej3, hf⟩ := rd_e hf
  refine mald hx hb hC hK hX (by decide) h4 ej3 dX11_putsRight_5 ?_
  refine lv_istore_n (lv' := [(2, .int (S.2 10 j3)), (0, .ref (ad 0)), (1, .int x1)]) hx hb dX11_putsRight_6 rfl hl (by decide) rfl (fun ls hl => ?_)
  refine lv_aload_n hx hb dX11_putsRight_7 rfl (lv_at hl 1 rfl) ?_
  refine mget (v := .ref (ad 19)) hx hb hC hK hX 19 (by decide) a_987 rfl dX11_putsRight_8 ?_
  refine lv_iload_n hx hb dX11_putsRight_11 rfl (lv_at hl 0 rfl) ?_
  refine lv_iconst (v := 0) hx hb dX11_putsRight_12 (by decide) ?_
  obtain ⟨h6, j5, ej5, hf⟩ := rd_e hf
  refine mast hx hb hC hK hX hS (by decide) h6 ej5 dX11_putsRight_13 (fun H locs hX hS => ?_)
  obtain ⟨S7, eS7, hf⟩ := lt_e hf
  rw [← eS7] at hX
  refine lv_iconst (v := 0) hx hb dX11_putsRight_14 (by decide) ?_
  refine lv_istore_n (lv' := [(3, .int 0), (2, .int (S.2 10 j3)), (0, .ref (ad 0)), (1, .int x1)]) hx hb dX11_putsRight_15 rfl hl (by decide) rfl (fun ls hl => ?_)
  obtain ⟨g10, g100, g10s, hf⟩ := lp2_e hf
  have Lg10 : ∀ (n : Nat) (x8 : Int32) (S9 : St) (H : Heap) (locs : List Loc) (ls : Array Slot), MX D cA A ad S9 H → va_S A s.heap H locs → lv_has ls 7 [(0, .ref (ad 0)), (1, .int x1), (2, .int (S.2 10 j3)), (3, .int x8)] → g10 n x8 S9 = some S' → W p l e (RM 3 0 0) s m args below meth c H locs 0 0 (MQ below (CtQ A none (MX D cA A ad S')) args s 0 0 A) (F0 m 16 ls []) := by
    intro n
    induction n with
    | zero => intro x8 S9 H locs ls hX hS hl hf; rw [g100] at hf; cases hf
    | succ n ihg10 =>
      intro x8 S9 H locs ls hX hS hl hf
      rw [g10s] at hf
      refine lv_iload_n hx hb dX11_putsRight_16 rfl (lv_at hl 3 rfl) ?_
      refine lv_aload_n hx hb dX11_putsRight_17 rfl (lv_at hl 0 rfl) ?_
      refine mget (v := .ref (ad 19)) hx hb hC hK hX 19 (by decide) a_987 rfl dX11_putsRight_18 ?_
      refine lv_iload_n hx hb dX11_putsRight_21 rfl (lv_at hl 1 rfl) ?_
      obtain ⟨h12, j11, ej11, hf⟩ := rd_e hf
      refine mald hx hb hC hK hX (by decide) h12 ej11 dX11_putsRight_22 ?_
      refine lv_icmp_ge (tgt := 58) hx hb dX11_putsRight_23 (by decide) (fun c13 => ?_) (fun c13 => ?_)
      · have hf := it_t c13 hf
        refine lv_aload_n hx hb dX11_putsRight_58 rfl (lv_at hl 0 rfl) ?_
        refine mget (v := .ref (ad 19)) hx hb hC hK hX 19 (by decide) a_987 rfl dX11_putsRight_59 ?_
        refine lv_iload_n hx hb dX11_putsRight_62 rfl (lv_at hl 2 rfl) ?_
        obtain ⟨h15, j14, ej14, hf⟩ := rd_e hf
        refine mald hx hb hC hK hX (by decide) h15 ej14 dX11_putsRight_63 ?_
        refine lv_istore_n (lv' := [(3, .int (S9.2 19 j14)), (0, .ref (ad 0)), (1, .int x1), (2, .int (S.2 10 j3))]) hx hb dX11_putsRight_64 rfl hl (by decide) rfl (fun ls hl => ?_)
        refine lv_iconst (v := 0) hx hb dX11_putsRight_65 (by decide) ?_
        refine lv_istore (lv' := [(4, .int 0), (3, .int (S9.2 19 j14)), (0, .ref (ad 0)), (1, .int x1), (2, .int (S.2 10 j3))]) hx hb dX11_putsRight_66 hl (by decide) rfl (fun ls hl => ?_)
        refine lv_iconst (v := 0) hx hb dX11_putsRight_68 (by decide) ?_
        refine lv_istore (lv' := [(5, .int 0), (4, .int 0), (3, .int (S9.2 19 j14)), (0, .ref (ad 0)), (1, .int x1), (2, .int (S.2 10 j3))]) hx hb dX11_putsRight_69 hl (by decide) rfl (fun ls hl => ?_)
        obtain ⟨g19, g190, g19s, hf⟩ := lp3_e hf
        have Lg19 : ∀ (n : Nat) (x16 : Int32) (x17 : Int32) (S18 : St) (H : Heap) (locs : List Loc) (ls : Array Slot), MX D cA A ad S18 H → va_S A s.heap H locs → lv_has ls 7 [(0, .ref (ad 0)), (2, .int (S.2 10 j3)), (3, .int (S9.2 19 j14)), (4, .int x16), (5, .int x17)] → g19 n x16 x17 S18 = some S' → W p l e (RM 3 0 0) s m args below meth c H locs 0 0 (MQ below (CtQ A none (MX D cA A ad S')) args s 0 0 A) (F0 m 71 ls []) := by
          intro n
          induction n with
          | zero => intro x16 x17 S18 H locs ls hX hS hl hf; rw [g190] at hf; cases hf
          | succ n ihg19 =>
            intro x16 x17 S18 H locs ls hX hS hl hf
            rw [g19s] at hf
            refine lv_iload hx hb dX11_putsRight_71 (lv_at hl 4 rfl) ?_
            refine lv_aload_n hx hb dX11_putsRight_73 rfl (lv_at hl 0 rfl) ?_
            refine mget (v := .ref (ad 17)) hx hb hC hK hX 17 (by decide) a_985 rfl dX11_putsRight_74 ?_
            refine lv_iload_n hx hb dX11_putsRight_77 rfl (lv_at hl 1 rfl) ?_
            obtain ⟨h21, j20, ej20, hf⟩ := rd_e hf
            refine mald hx hb hC hK hX (by decide) h21 ej20 dX11_putsRight_78 ?_
            refine lv_icmp_ge (tgt := 149) hx hb dX11_putsRight_79 (by decide) (fun c22 => ?_) (fun c22 => ?_)
            · have hf := it_t c22 hf
              refine lv_iconst (v := 0) hx hb dX11_putsRight_149 (by decide) ?_
              refine lv_istore (lv' := [(5, .int 0), (0, .ref (ad 0)), (2, .int (S.2 10 j3)), (3, .int (S9.2 19 j14)), (4, .int x16)]) hx hb dX11_putsRight_150 hl (by decide) rfl (fun ls hl => ?_)
              obtain ⟨g25, g250, g25s, hf⟩ := lp2_e hf
              have Lg25 : ∀ (n : Nat) (x23 : Int32) (S24 : St) (H : Heap) (locs : List Loc) (ls : Array Slot), MX D cA A ad S24 H → va_S A s.heap H locs → lv_has ls 7 [(0, .ref (ad 0)), (2, .int (S.2 10 j3)), (4, .int x16), (5, .int x23)] → g25 n x23 S24 = some S' → W p l e (RM 3 0 0) s m args below meth c H locs 0 0 (MQ below (CtQ A none (MX D cA A ad S')) args s 0 0 A) (F0 m 152 ls []) := by
                intro n
                induction n with
                | zero => intro x23 S24 H locs ls hX hS hl hf; rw [g250] at hf; cases hf
                | succ n ihg25 =>
                  intro x23 S24 H locs ls hX hS hl hf
                  rw [g25s] at hf
                  refine lv_iload hx hb dX11_putsRight_152 (lv_at hl 3 rfl) ?_
                  refine lv_iload hx hb dX11_putsRight_154 (lv_at hl 2 rfl) ?_
                  refine lv_icmp_ge (tgt := 177) hx hb dX11_putsRight_156 (by decide) (fun c26 => ?_) (fun c26 => ?_)
                  · have hf := it_t c26 hf
                    cases hf
                    exact Ct_rv hx hb hr hlk hX hS dX11_putsRight_177
                  · have hf := it_f c26 hf
                    refine lv_aload_n hx hb dX11_putsRight_159 rfl (lv_at hl 0 rfl) ?_
                    refine lv_iload_n hx hb dX11_putsRight_160 rfl (lv_at hl 1 rfl) ?_
                    refine lv_aload_n hx hb dX11_putsRight_161 rfl (lv_at hl 0 rfl) ?_
                    refine mget (v := .ref (ad 35)) hx hb hC hK hX 35 (by decide) a_1003 rfl dX11_putsRight_162 ?_
                    refine lv_iload hx hb dX11_putsRight_165 (lv_at hl 3 rfl) ?_
                    obtain ⟨h28, j27, ej27, hf⟩ := rd_e hf
                    refine mald hx hb hC hK hX (by decide) h28 ej27 dX11_putsRight_167 ?_
                    obtain ⟨S30, hz29, hf⟩ := cb_e hf
                    refine mVv (As := [.int (S.2 10 j3), .int (S24.2 35 j27)]) (rest := []) hC (c_m_putsRow hz29) q_m_putsRow a_1226 (Nat.le_of_ble_eq_true rfl) hX hKX rfl hl.1 (Nat.le_of_ble_eq_true rfl) dX11_putsRight_168 hS (fun H locs hX hS => ?_)
                    refine lv_iinc (v := (x23 + 1)) (lv' := [(5, .int (x23 + 1)), (0, .ref (ad 0)), (2, .int (S.2 10 j3)), (4, .int x16)]) hx hb dX11_putsRight_171 hl (k := 3) rfl rfl (by decide) rfl (fun ls hl => ?_)
                    refine lv_goto (tgt := 152) hx hb dX11_putsRight_174 (by decide) ?_
                    exact ihg25 _ _ _ _ _ hX hS (lv_sub hl [1, 2, 3, 0] rfl) hf
              exact Lg25 FU _ _ _ _ _ hX hS (lv_sub hl [1, 2, 4, 0] rfl) hf
            · have hf := it_f c22 hf
              refine lv_aload_n hx hb dX11_putsRight_82 rfl (lv_at hl 0 rfl) ?_
              refine mget (v := .ref (ad 18)) hx hb hC hK hX 18 (by decide) a_986 rfl dX11_putsRight_83 ?_
              refine lv_bipush (v := 40) hx hb dX11_putsRight_86 (by decide) ?_
              refine lv_iload_n hx hb dX11_putsRight_88 rfl (lv_at hl 1 rfl) ?_
              refine lv_imul hx hb dX11_putsRight_89 ?_
              refine lv_iload hx hb dX11_putsRight_90 (lv_at hl 4 rfl) ?_
              refine lv_iadd hx hb dX11_putsRight_92 ?_
              obtain ⟨h32, j31, ej31, hf⟩ := rd_e hf
              refine mald hx hb hC hK hX (by decide) h32 ej31 dX11_putsRight_93 ?_
              refine lv_istore (lv' := [(6, .int (S18.2 18 j31)), (0, .ref (ad 0)), (2, .int (S.2 10 j3)), (3, .int (S9.2 19 j14)), (4, .int x16), (5, .int x17)]) hx hb dX11_putsRight_94 hl (by decide) rfl (fun ls hl => ?_)
              refine lv_aload_n hx hb dX11_putsRight_96 rfl (lv_at hl 1 rfl) ?_
              refine lv_aload_n hx hb dX11_putsRight_97 rfl (lv_at hl 1 rfl) ?_
              refine mget (v := .ref (ad 20)) hx hb hC hK hX 20 (by decide) a_988 rfl dX11_putsRight_98 ?_
              refine lv_bipush (v := 40) hx hb dX11_putsRight_101 (by decide) ?_
              refine lv_iload_n hx hb dX11_putsRight_103 rfl (lv_at hl 2 rfl) ?_
              refine lv_imul hx hb dX11_putsRight_104 ?_
              refine lv_iload_n hx hb dX11_putsRight_105 rfl (lv_at hl 3 rfl) ?_
              refine lv_aload_n hx hb dX11_putsRight_106 rfl (lv_at hl 1 rfl) ?_
              refine mget (v := .ref (ad 15)) hx hb hC hK hX 15 (by decide) a_983 rfl dX11_putsRight_107 ?_
              refine lv_iload_n hx hb dX11_putsRight_110 rfl (lv_at hl 2 rfl) ?_
              obtain ⟨h34, j33, ej33, hf⟩ := rd_e hf
              refine mald hx hb hC hK hX (by decide) h34 ej33 dX11_putsRight_111 ?_
              refine lv_aload_n hx hb dX11_putsRight_112 rfl (lv_at hl 1 rfl) ?_
              refine lv_iload hx hb dX11_putsRight_113 (lv_at hl 0 rfl) ?_
              refine lv_aload_n hx hb dX11_putsRight_115 rfl (lv_at hl 1 rfl) ?_
              refine mget (v := .ref (ad 15)) hx hb hC hK hX 15 (by decide) a_983 rfl dX11_putsRight_116 ?_
              refine lv_iload_n hx hb dX11_putsRight_119 rfl (lv_at hl 2 rfl) ?_
              obtain ⟨h36, j35, ej35, hf⟩ := rd_e hf
              refine mald hx hb hC hK hX (by decide) h36 ej35 dX11_putsRight_120 ?_
              obtain ⟨z37, hz37, hf⟩ := cb_e hf
              refine mVi (As := [.int (S18.2 18 j31), .int (S18.2 15 j35)]) (rest := [.int (S18.2 15 j33), .int (S9.2 19 j14), .int (40 * (S.2 10 j3)), .ref (ad 20), .ref (ad 0)]) hC (c_m_part hz37) q_m_part a_1102 (Nat.le_of_ble_eq_true rfl) hX hKX rfl hl.1 (Nat.le_of_ble_eq_true rfl) dX11_putsRight_121 hS (fun H locs hX hS => ?_)
              obtain ⟨z38, hz38, hf⟩ := cb_e hf
              refine mVi (As := [.ref (ad 20), .int (40 * (S.2 10 j3)), .int (S9.2 19 j14), .int (S18.2 15 j33), .int z37]) (rest := []) hC (c_m_rowWith (by decide) hz38) q_m_rowWith a_1110 (Nat.le_of_ble_eq_true rfl) hX hKX rfl hl.1 (Nat.le_of_ble_eq_true rfl) dX11_putsRight_124 hS (fun H locs hX hS => ?_)
              refine lv_iconst (v := (-1)) hx hb dX11_putsRight_127 (by decide) ?_
              refine lv_icmp_ne (tgt := 143) hx hb dX11_putsRight_128 (by decide) (fun c39 => ?_) (fun c39 => ?_)
              · have hf := it_f c39 hf
                refine lv_iinc (v := (x17 + 1)) (lv' := [(5, .int (x17 + 1)), (6, .int (S18.2 18 j31)), (0, .ref (ad 0)), (2, .int (S.2 10 j3)), (3, .int (S9.2 19 j14)), (4, .int x16)]) hx hb dX11_putsRight_143 hl (k := 5) rfl rfl (by decide) rfl (fun ls hl => ?_)
                refine lv_goto (tgt := 71) hx hb dX11_putsRight_146 (by decide) ?_
                exact ihg19 _ _ _ _ _ _ hX hS (lv_sub hl [2, 3, 4, 5, 0] rfl) hf
              · have hf := it_t c39 hf
                refine lv_aload_n hx hb dX11_putsRight_131 rfl (lv_at hl 1 rfl) ?_
                refine mget (v := .ref (ad 35)) hx hb hC hK hX 35 (by decide) a_1003 rfl dX11_putsRight_132 ?_
                refine lv_iload hx hb dX11_putsRight_135 (lv_at hl 4 rfl) ?_
                refine lv_iload hx hb dX11_putsRight_137 (lv_at hl 0 rfl) ?_
                obtain ⟨h41, j40, ej40, hf⟩ := rd_e hf
                refine mast hx hb hC hK hX hS (by decide) h41 ej40 dX11_putsRight_139 (fun H locs hX hS => ?_)
                obtain ⟨S42, eS42, hf⟩ := lt_e hf
                rw [← eS42] at hX
                refine lv_iinc (v := (x16 + 1)) (lv' := [(4, .int (x16 + 1)), (6, .int (S18.2 18 j31)), (0, .ref (ad 0)), (2, .int (S.2 10 j3)), (3, .int (S9.2 19 j14)), (5, .int x17)]) hx hb dX11_putsRight_140 hl (k := 4) rfl rfl (by decide) rfl (fun ls hl => ?_)
                refine lv_iinc (v := (x17 + 1)) (lv' := [(5, .int (x17 + 1)), (4, .int (x16 + 1)), (6, .int (S18.2 18 j31)), (0, .ref (ad 0)), (2, .int (S.2 10 j3)), (3, .int (S9.2 19 j14))]) hx hb dX11_putsRight_143 hl (k := 5) rfl rfl (by decide) rfl (fun ls hl => ?_)
                refine lv_goto (tgt := 71) hx hb dX11_putsRight_146 (by decide) ?_
                exact ihg19 _ _ _ _ _ _ hX hS (lv_sub hl [3, 4, 5, 1, 0] rfl) hf
        exact Lg19 FU _ _ _ _ _ _ hX hS (lv_sub hl [3, 5, 2, 1, 0] rfl) hf
      · have hf := it_f c13 hf
        refine lv_aload_n hx hb dX11_putsRight_26 rfl (lv_at hl 0 rfl) ?_
        refine lv_iload_n hx hb dX11_putsRight_27 rfl (lv_at hl 2 rfl) ?_
        refine lv_aload_n hx hb dX11_putsRight_28 rfl (lv_at hl 0 rfl) ?_
        refine lv_aload_n hx hb dX11_putsRight_29 rfl (lv_at hl 0 rfl) ?_
        refine mget (v := .ref (ad 20)) hx hb hC hK hX 20 (by decide) a_988 rfl dX11_putsRight_30 ?_
        refine lv_bipush (v := 40) hx hb dX11_putsRight_33 (by decide) ?_
        refine lv_iload_n hx hb dX11_putsRight_35 rfl (lv_at hl 1 rfl) ?_
        refine lv_imul hx hb dX11_putsRight_36 ?_
        refine lv_iload_n hx hb dX11_putsRight_37 rfl (lv_at hl 3 rfl) ?_
        refine lv_iadd hx hb dX11_putsRight_38 ?_
        obtain ⟨h44, j43, ej43, hf⟩ := rd_e hf
        refine mald hx hb hC hK hX (by decide) h44 ej43 dX11_putsRight_39 ?_
        refine lv_aload_n hx hb dX11_putsRight_40 rfl (lv_at hl 0 rfl) ?_
        refine mget (v := .ref (ad 14)) hx hb hC hK hX 14 (by decide) a_982 rfl dX11_putsRight_41 ?_
        refine lv_iload_n hx hb dX11_putsRight_44 rfl (lv_at hl 2 rfl) ?_
        obtain ⟨h46, j45, ej45, hf⟩ := rd_e hf
        refine mald hx hb hC hK hX (by decide) h46 ej45 dX11_putsRight_45 ?_
        obtain ⟨z47, hz47, hf⟩ := cb_e hf
        refine mVi (As := [.int (S9.2 20 j43), .int (S9.2 14 j45)]) (rest := [.int (S.2 10 j3), .ref (ad 0)]) hC (c_m_part hz47) q_m_part a_1102 (Nat.le_of_ble_eq_true rfl) hX hKX rfl hl.1 (Nat.le_of_ble_eq_true rfl) dX11_putsRight_46 hS (fun H locs hX hS => ?_)
        obtain ⟨S49, hz48, hf⟩ := cb_e hf
        refine mVv (As := [.int (S.2 10 j3), .int z47]) (rest := []) hC (c_m_putsRow hz48) q_m_putsRow a_1226 (Nat.le_of_ble_eq_true rfl) hX hKX rfl hl.1 (Nat.le_of_ble_eq_true rfl) dX11_putsRight_49 hS (fun H locs hX hS => ?_)
        refine lv_iinc (v := (x8 + 1)) (lv' := [(3, .int (x8 + 1)), (0, .ref (ad 0)), (1, .int x1), (2, .int (S.2 10 j3))]) hx hb dX11_putsRight_52 hl (k := 3) rfl rfl (by decide) rfl (fun ls hl => ?_)
        refine lv_goto (tgt := 16) hx hb dX11_putsRight_55 (by decide) ?_
        exact ihg10 _ _ _ _ _ hX hS (lv_sub hl [1, 2, 3, 0] rfl) hf
  exact Lg10 FU _ _ _ _ _ hX hS (lv_sub hl [2, 3, 1, 0] rfl) hf

theorem q_m_putsLeft : VWv RX11 yX11_putsLeft cX11_putsLeft 7 none 1 := ⟨a_1265, a_55, a_1264, a_39, by decide +kernel⟩
set_option maxRecDepth 100000 in
set_option maxHeartbeats 4000000 in
theorem c_m_putsLeft {l : Launch} {D : va_G} {cA : Nat → ClassId} {A : Nat → Prop} {ad : Nat → Nat} {x1 : Int32} {S : St} {S' : St} (hf : m_putsLeft x1 S = some S') : Ct l D cA A yX11_putsLeft cX11_putsLeft 7 none 4 0 0 [.ref (ad 0), .int x1] (MX D cA A ad S) none (MX D cA A ad S') := by
  refine Ct_of (by decide +kernel) (Nat.le_of_ble_eq_true rfl) ?_
  intro p e s m args below meth c ls hC hr hlk hnm hX hKX hl
  have hK := hKX.1
  have hx := hC.1
  have hb := hC.2.1
  have hS : va_S A s.heap s.heap [] := va_S.rf
  have hX : MX D cA A ad S s.heap := hX
  have hl : lv_has ls 7 [(0, .ref (ad 0)), (1, .int x1)] := hl
  unfold m_putsLeft at hf
  refine lv_aload_n hx hb dX11_putsLeft_0 rfl (lv_at hl 0 rfl) ?_
  refine mget (v := .ref (ad 9)) hx hb hC hK hX 9 (by decide) a_977 rfl dX11_putsLeft_1 ?_
  refine lv_iload_n hx hb dX11_putsLeft_4 rfl (lv_at hl 1 rfl) ?_
  obtain ⟨h4, j3, ej3, hf⟩ := rd_e hf
  refine mald hx hb hC hK hX (by decide) h4 ej3 dX11_putsLeft_5 ?_
  refine lv_istore_n (lv' := [(2, .int (S.2 9 j3)), (0, .ref (ad 0)), (1, .int x1)]) hx hb dX11_putsLeft_6 rfl hl (by decide) rfl (fun ls hl => ?_)
  refine lv_aload_n hx hb dX11_putsLeft_7 rfl (lv_at hl 1 rfl) ?_
  refine mget (v := .ref (ad 10)) hx hb hC hK hX 10 (by decide) a_978 rfl dX11_putsLeft_8 ?_
  refine lv_iload_n hx hb dX11_putsLeft_11 rfl (lv_at hl 2 rfl) ?_
  obtain ⟨h6, j5, ej5, hf⟩ := rd_e hf
  refine mald hx hb hC hK hX (by decide) h6 ej5 dX11_putsLeft_12 ?_
  refine lv_istore_n (lv' := [(3, .int (S.2 10 j5)), (2, .int (S.2 9 j3)), (0, .ref (ad 0)), (1, .int x1)]) hx hb dX11_putsLeft_13 rfl hl (by decide) rfl (fun ls hl => ?_)
  refine lv_aload_n hx hb dX11_putsLeft_14 rfl (lv_at hl 2 rfl) ?_
  refine mget (v := .ref (ad 19)) hx hb hC hK hX 19 (by decide) a_987 rfl dX11_putsLeft_15 ?_
  refine lv_iload_n hx hb dX11_putsLeft_18 rfl (lv_at hl 1 rfl) ?_
  refine lv_iconst (v := 0) hx hb dX11_putsLeft_19 (by decide) ?_
  obtain ⟨h8, j7, ej7, hf⟩ := rd_e hf
  refine mast hx hb hC hK hX hS (by decide) h8 ej7 dX11_putsLeft_20 (fun H locs hX hS => ?_)
  obtain ⟨S9, eS9, hf⟩ := lt_e hf
  rw [← eS9] at hX
  refine lv_iconst (v := 0) hx hb dX11_putsLeft_21 (by decide) ?_
  refine lv_istore (lv' := [(4, .int 0), (3, .int (S.2 10 j5)), (2, .int (S.2 9 j3)), (0, .ref (ad 0)), (1, .int x1)]) hx hb dX11_putsLeft_22 hl (by decide) rfl (fun ls hl => ?_)
  obtain ⟨g12, g120, g12s, hf⟩ := lp2_e hf
  have Lg12 : ∀ (n : Nat) (x10 : Int32) (S11 : St) (H : Heap) (locs : List Loc) (ls : Array Slot), MX D cA A ad S11 H → va_S A s.heap H locs → lv_has ls 7 [(0, .ref (ad 0)), (1, .int x1), (2, .int (S.2 9 j3)), (3, .int (S.2 10 j5)), (4, .int x10)] → g12 n x10 S11 = some S' → W p l e (RM 4 0 0) s m args below meth c H locs 0 0 (MQ below (CtQ A none (MX D cA A ad S')) args s 0 0 A) (F0 m 24 ls []) := by
    intro n
    induction n with
    | zero => intro x10 S11 H locs ls hX hS hl hf; rw [g120] at hf; cases hf
    | succ n ihg12 =>
      intro x10 S11 H locs ls hX hS hl hf
      rw [g12s] at hf
      refine lv_iload hx hb dX11_putsLeft_24 (lv_at hl 4 rfl) ?_
      refine lv_aload_n hx hb dX11_putsLeft_26 rfl (lv_at hl 0 rfl) ?_
      refine mget (v := .ref (ad 19)) hx hb hC hK hX 19 (by decide) a_987 rfl dX11_putsLeft_27 ?_
      refine lv_iload_n hx hb dX11_putsLeft_30 rfl (lv_at hl 1 rfl) ?_
      obtain ⟨h14, j13, ej13, hf⟩ := rd_e hf
      refine mald hx hb hC hK hX (by decide) h14 ej13 dX11_putsLeft_31 ?_
      refine lv_icmp_ge (tgt := 68) hx hb dX11_putsLeft_32 (by decide) (fun c15 => ?_) (fun c15 => ?_)
      · have hf := it_t c15 hf
        refine lv_iconst (v := 0) hx hb dX11_putsLeft_68 (by decide) ?_
        refine lv_istore (lv' := [(4, .int 0), (0, .ref (ad 0)), (1, .int x1), (2, .int (S.2 9 j3)), (3, .int (S.2 10 j5))]) hx hb dX11_putsLeft_69 hl (by decide) rfl (fun ls hl => ?_)
        obtain ⟨g18, g180, g18s, hf⟩ := lp2_e hf
        have Lg18 : ∀ (n : Nat) (x16 : Int32) (S17 : St) (H : Heap) (locs : List Loc) (ls : Array Slot), MX D cA A ad S17 H → va_S A s.heap H locs → lv_has ls 7 [(0, .ref (ad 0)), (1, .int x1), (2, .int (S.2 9 j3)), (3, .int (S.2 10 j5)), (4, .int x16)] → g18 n x16 S17 = some S' → W p l e (RM 4 0 0) s m args below meth c H locs 0 0 (MQ below (CtQ A none (MX D cA A ad S')) args s 0 0 A) (F0 m 71 ls []) := by
          intro n
          induction n with
          | zero => intro x16 S17 H locs ls hX hS hl hf; rw [g180] at hf; cases hf
          | succ n ihg18 =>
            intro x16 S17 H locs ls hX hS hl hf
            rw [g18s] at hf
            refine lv_iload hx hb dX11_putsLeft_71 (lv_at hl 4 rfl) ?_
            refine lv_aload_n hx hb dX11_putsLeft_73 rfl (lv_at hl 0 rfl) ?_
            refine mget (v := .ref (ad 17)) hx hb hC hK hX 17 (by decide) a_985 rfl dX11_putsLeft_74 ?_
            refine lv_iload_n hx hb dX11_putsLeft_77 rfl (lv_at hl 2 rfl) ?_
            obtain ⟨h20, j19, ej19, hf⟩ := rd_e hf
            refine mald hx hb hC hK hX (by decide) h20 ej19 dX11_putsLeft_78 ?_
            refine lv_icmp_ge (tgt := 169) hx hb dX11_putsLeft_79 (by decide) (fun c21 => ?_) (fun c21 => ?_)
            · have hf := it_t c21 hf
              cases hf
              exact Ct_rv hx hb hr hlk hX hS dX11_putsLeft_169
            · have hf := it_f c21 hf
              refine lv_aload_n hx hb dX11_putsLeft_82 rfl (lv_at hl 0 rfl) ?_
              refine mget (v := .ref (ad 18)) hx hb hC hK hX 18 (by decide) a_986 rfl dX11_putsLeft_83 ?_
              refine lv_bipush (v := 40) hx hb dX11_putsLeft_86 (by decide) ?_
              refine lv_iload_n hx hb dX11_putsLeft_88 rfl (lv_at hl 2 rfl) ?_
              refine lv_imul hx hb dX11_putsLeft_89 ?_
              refine lv_iload hx hb dX11_putsLeft_90 (lv_at hl 4 rfl) ?_
              refine lv_iadd hx hb dX11_putsLeft_92 ?_
              obtain ⟨h23, j22, ej22, hf⟩ := rd_e hf
              refine mald hx hb hC hK hX (by decide) h23 ej22 dX11_putsLeft_93 ?_
              refine lv_istore (lv' := [(5, .int (S17.2 18 j22)), (0, .ref (ad 0)), (1, .int x1), (2, .int (S.2 9 j3)), (3, .int (S.2 10 j5)), (4, .int x16)]) hx hb dX11_putsLeft_94 hl (by decide) rfl (fun ls hl => ?_)
              refine lv_aload_n hx hb dX11_putsLeft_96 rfl (lv_at hl 1 rfl) ?_
              refine lv_aload_n hx hb dX11_putsLeft_97 rfl (lv_at hl 1 rfl) ?_
              refine mget (v := .ref (ad 20)) hx hb hC hK hX 20 (by decide) a_988 rfl dX11_putsLeft_98 ?_
              refine lv_bipush (v := 40) hx hb dX11_putsLeft_101 (by decide) ?_
              refine lv_iload_n hx hb dX11_putsLeft_103 rfl (lv_at hl 4 rfl) ?_
              refine lv_imul hx hb dX11_putsLeft_104 ?_
              refine lv_aload_n hx hb dX11_putsLeft_105 rfl (lv_at hl 1 rfl) ?_
              refine mget (v := .ref (ad 19)) hx hb hC hK hX 19 (by decide) a_987 rfl dX11_putsLeft_106 ?_
              refine lv_iload_n hx hb dX11_putsLeft_109 rfl (lv_at hl 4 rfl) ?_
              obtain ⟨h25, j24, ej24, hf⟩ := rd_e hf
              refine mald hx hb hC hK hX (by decide) h25 ej24 dX11_putsLeft_110 ?_
              refine lv_aload_n hx hb dX11_putsLeft_111 rfl (lv_at hl 1 rfl) ?_
              refine lv_iload_n hx hb dX11_putsLeft_112 rfl (lv_at hl 2 rfl) ?_
              obtain ⟨z26, hz26, hf⟩ := cb_e hf
              refine mVi (As := [.int x1]) (rest := [.int (S17.2 19 j24), .int (40 * (S.2 10 j5)), .ref (ad 20), .ref (ad 0)]) hC (c_m_both hz26) q_m_both a_1182 (Nat.le_of_ble_eq_true rfl) hX hKX rfl hl.1 (Nat.le_of_ble_eq_true rfl) dX11_putsLeft_113 hS (fun H locs hX hS => ?_)
              refine lv_aload_n hx hb dX11_putsLeft_116 rfl (lv_at hl 1 rfl) ?_
              refine lv_iload hx hb dX11_putsLeft_117 (lv_at hl 0 rfl) ?_
              refine lv_aload_n hx hb dX11_putsLeft_119 rfl (lv_at hl 1 rfl) ?_
              refine lv_iload_n hx hb dX11_putsLeft_120 rfl (lv_at hl 2 rfl) ?_
              obtain ⟨z27, hz27, hf⟩ := cb_e hf
              refine mVi (As := [.int x1]) (rest := [.int (S17.2 18 j22), .ref (ad 0), .int z26, .int (S17.2 19 j24), .int (40 * (S.2 10 j5)), .ref (ad 20), .ref (ad 0)]) hC (c_m_both hz27) q_m_both a_1182 (Nat.le_of_ble_eq_true rfl) hX hKX rfl hl.1 (Nat.le_of_ble_eq_true rfl) dX11_putsLeft_121 hS (fun H locs hX hS => ?_)
              obtain ⟨z28, hz28, hf⟩ := cb_e hf
              refine mVi (As := [.int (S17.2 18 j22), .int z27]) (rest := [.int z26, .int (S17.2 19 j24), .int (40 * (S.2 10 j5)), .ref (ad 20), .ref (ad 0)]) hC (c_m_part hz28) q_m_part a_1102 (Nat.le_of_ble_eq_true rfl) hX hKX rfl hl.1 (Nat.le_of_ble_eq_true rfl) dX11_putsLeft_124 hS (fun H locs hX hS => ?_)
              obtain ⟨z29, hz29, hf⟩ := cb_e hf
              refine mVi (As := [.ref (ad 20), .int (40 * (S.2 10 j5)), .int (S17.2 19 j24), .int z26, .int z28]) (rest := []) hC (c_m_rowWith (by decide) hz29) q_m_rowWith a_1110 (Nat.le_of_ble_eq_true rfl) hX hKX rfl hl.1 (Nat.le_of_ble_eq_true rfl) dX11_putsLeft_127 hS (fun H locs hX hS => ?_)
              refine lv_iconst (v := (-1)) hx hb dX11_putsLeft_130 (by decide) ?_
              obtain ⟨k31, hk31, hf⟩ := jn1_e hf
              have Jk31 : ∀ (x30 : Int32) (H : Heap) (locs : List Loc) (ls : Array Slot), MX D cA A ad S17 H → va_S A s.heap H locs → lv_has ls 7 [(0, .ref (ad 0)), (1, .int x1), (2, .int (S.2 9 j3)), (3, .int (S.2 10 j5)), (4, .int x16), (5, .int (S17.2 18 j22))] → k31 x30 = some S' → W p l e (RM 4 0 0) s m args below meth c H locs 0 0 (MQ below (CtQ A none (MX D cA A ad S')) args s 0 0 A) (F0 m 139 ls [.int x30]) := by
                intro x30 H locs ls hX hS hl hf
                rw [hk31] at hf
                refine lv_istore (lv' := [(6, .int x30), (0, .ref (ad 0)), (1, .int x1), (2, .int (S.2 9 j3)), (3, .int (S.2 10 j5)), (4, .int x16), (5, .int (S17.2 18 j22))]) hx hb dX11_putsLeft_139 hl (by decide) rfl (fun ls hl => ?_)
                refine lv_aload_n hx hb dX11_putsLeft_141 rfl (lv_at hl 1 rfl) ?_
                refine lv_iload_n hx hb dX11_putsLeft_142 rfl (lv_at hl 2 rfl) ?_
                refine lv_iload hx hb dX11_putsLeft_143 (lv_at hl 6 rfl) ?_
                obtain ⟨z32, hz32, hf⟩ := cb_e hf
                refine mVi (As := [.int x1, .int (S17.2 18 j22)]) (rest := []) hC (c_m_isFree hz32) q_m_isFree a_1266 (Nat.le_of_ble_eq_true rfl) hX hKX rfl hl.1 (Nat.le_of_ble_eq_true rfl) dX11_putsLeft_145 hS (fun H locs hX hS => ?_)
                refine lv_if_eq (tgt := 163) hx hb dX11_putsLeft_148 (by decide) (fun c33 => ?_) (fun c33 => ?_)
                · have hf := it_t c33 hf
                  refine lv_iinc (v := (x16 + 1)) (lv' := [(4, .int (x16 + 1)), (6, .int x30), (0, .ref (ad 0)), (1, .int x1), (2, .int (S.2 9 j3)), (3, .int (S.2 10 j5)), (5, .int (S17.2 18 j22))]) hx hb dX11_putsLeft_163 hl (k := 5) rfl rfl (by decide) rfl (fun ls hl => ?_)
                  refine lv_goto (tgt := 71) hx hb dX11_putsLeft_166 (by decide) ?_
                  exact ihg18 _ _ _ _ _ hX hS (lv_sub hl [2, 3, 4, 5, 0] rfl) hf
                · have hf := it_f c33 hf
                  refine lv_iload hx hb dX11_putsLeft_151 (lv_at hl 0 rfl) ?_
                  refine lv_if_ne (tgt := 163) hx hb dX11_putsLeft_153 (by decide) (fun c34 => ?_) (fun c34 => ?_)
                  · have hf := it_f c34 hf
                    refine lv_iinc (v := (x16 + 1)) (lv' := [(4, .int (x16 + 1)), (6, .int x30), (0, .ref (ad 0)), (1, .int x1), (2, .int (S.2 9 j3)), (3, .int (S.2 10 j5)), (5, .int (S17.2 18 j22))]) hx hb dX11_putsLeft_163 hl (k := 5) rfl rfl (by decide) rfl (fun ls hl => ?_)
                    refine lv_goto (tgt := 71) hx hb dX11_putsLeft_166 (by decide) ?_
                    exact ihg18 _ _ _ _ _ hX hS (lv_sub hl [2, 3, 4, 5, 0] rfl) hf
                  · have hf := it_t c34 hf
                    refine lv_aload_n hx hb dX11_putsLeft_156 rfl (lv_at hl 1 rfl) ?_
                    refine lv_iload_n hx hb dX11_putsLeft_157 rfl (lv_at hl 3 rfl) ?_
                    refine lv_iload hx hb dX11_putsLeft_158 (lv_at hl 6 rfl) ?_
                    obtain ⟨S36, hz35, hf⟩ := cb_e hf
                    refine mVv (As := [.int (S.2 9 j3), .int (S17.2 18 j22)]) (rest := []) hC (c_m_putsRow hz35) q_m_putsRow a_1226 (Nat.le_of_ble_eq_true rfl) hX hKX rfl hl.1 (Nat.le_of_ble_eq_true rfl) dX11_putsLeft_160 hS (fun H locs hX hS => ?_)
                    refine lv_iinc (v := (x16 + 1)) (lv' := [(4, .int (x16 + 1)), (6, .int x30), (0, .ref (ad 0)), (1, .int x1), (2, .int (S.2 9 j3)), (3, .int (S.2 10 j5)), (5, .int (S17.2 18 j22))]) hx hb dX11_putsLeft_163 hl (k := 5) rfl rfl (by decide) rfl (fun ls hl => ?_)
                    refine lv_goto (tgt := 71) hx hb dX11_putsLeft_166 (by decide) ?_
                    exact ihg18 _ _ _ _ _ hX hS (lv_sub hl [2, 3, 4, 5, 0] rfl) hf
              refine lv_icmp_eq (tgt := 138) hx hb dX11_putsLeft_131 (by decide) (fun c37 => ?_) (fun c37 => ?_)
              · have hf := it_t c37 hf
                refine lv_iconst (v := 0) hx hb dX11_putsLeft_138 (by decide) ?_
                exact Jk31 _ _ _ _ hX hS (lv_sub hl [1, 2, 3, 4, 5, 0] rfl) hf
              · have hf := it_f c37 hf
                refine lv_iconst (v := 1) hx hb dX11_putsLeft_134 (by decide) ?_
                refine lv_goto (tgt := 139) hx hb dX11_putsLeft_135 (by decide) ?_
                exact Jk31 _ _ _ _ hX hS (lv_sub hl [1, 2, 3, 4, 5, 0] rfl) hf
        exact Lg18 FU _ _ _ _ _ hX hS (lv_sub hl [1, 2, 3, 4, 0] rfl) hf
      · have hf := it_f c15 hf
        refine lv_aload_n hx hb dX11_putsLeft_35 rfl (lv_at hl 0 rfl) ?_
        refine lv_iload_n hx hb dX11_putsLeft_36 rfl (lv_at hl 2 rfl) ?_
        refine lv_aload_n hx hb dX11_putsLeft_37 rfl (lv_at hl 0 rfl) ?_
        refine lv_aload_n hx hb dX11_putsLeft_38 rfl (lv_at hl 0 rfl) ?_
        refine mget (v := .ref (ad 20)) hx hb hC hK hX 20 (by decide) a_988 rfl dX11_putsLeft_39 ?_
        refine lv_bipush (v := 40) hx hb dX11_putsLeft_42 (by decide) ?_
        refine lv_iload_n hx hb dX11_putsLeft_44 rfl (lv_at hl 1 rfl) ?_
        refine lv_imul hx hb dX11_putsLeft_45 ?_
        refine lv_iload hx hb dX11_putsLeft_46 (lv_at hl 4 rfl) ?_
        refine lv_iadd hx hb dX11_putsLeft_48 ?_
        obtain ⟨h39, j38, ej38, hf⟩ := rd_e hf
        refine mald hx hb hC hK hX (by decide) h39 ej38 dX11_putsLeft_49 ?_
        refine lv_aload_n hx hb dX11_putsLeft_50 rfl (lv_at hl 0 rfl) ?_
        refine mget (v := .ref (ad 14)) hx hb hC hK hX 14 (by decide) a_982 rfl dX11_putsLeft_51 ?_
        refine lv_iload_n hx hb dX11_putsLeft_54 rfl (lv_at hl 2 rfl) ?_
        obtain ⟨h41, j40, ej40, hf⟩ := rd_e hf
        refine mald hx hb hC hK hX (by decide) h41 ej40 dX11_putsLeft_55 ?_
        obtain ⟨z42, hz42, hf⟩ := cb_e hf
        refine mVi (As := [.int (S11.2 20 j38), .int (S11.2 14 j40)]) (rest := [.int (S.2 9 j3), .ref (ad 0)]) hC (c_m_part hz42) q_m_part a_1102 (Nat.le_of_ble_eq_true rfl) hX hKX rfl hl.1 (Nat.le_of_ble_eq_true rfl) dX11_putsLeft_56 hS (fun H locs hX hS => ?_)
        obtain ⟨S44, hz43, hf⟩ := cb_e hf
        refine mVv (As := [.int (S.2 9 j3), .int z42]) (rest := []) hC (c_m_putsRow hz43) q_m_putsRow a_1226 (Nat.le_of_ble_eq_true rfl) hX hKX rfl hl.1 (Nat.le_of_ble_eq_true rfl) dX11_putsLeft_59 hS (fun H locs hX hS => ?_)
        refine lv_iinc (v := (x10 + 1)) (lv' := [(4, .int (x10 + 1)), (0, .ref (ad 0)), (1, .int x1), (2, .int (S.2 9 j3)), (3, .int (S.2 10 j5))]) hx hb dX11_putsLeft_62 hl (k := 4) rfl rfl (by decide) rfl (fun ls hl => ?_)
        refine lv_goto (tgt := 24) hx hb dX11_putsLeft_65 (by decide) ?_
        exact ihg12 _ _ _ _ _ hX hS (lv_sub hl [1, 2, 3, 4, 0] rfl) hf
  exact Lg12 FU _ _ _ _ _ hX hS (lv_sub hl [3, 4, 2, 1, 0] rfl) hf

theorem q_m_comes : VWv RX11 yX11_comes cX11_comes 2 none 1 := ⟨a_1233, a_55, a_1232, a_31, by decide +kernel⟩
set_option maxRecDepth 100000 in
set_option maxHeartbeats 4000000 in
theorem c_m_comes {l : Launch} {D : va_G} {cA : Nat → ClassId} {A : Nat → Prop} {ad : Nat → Nat} {x1 : Int32} {S : St} {S' : St} (hf : m_comes x1 S = some S') : Ct l D cA A yX11_comes cX11_comes 2 none 0 0 0 [.ref (ad 0), .int x1] (MX D cA A ad S) none (MX D cA A ad S') := by
  refine Ct_of (by decide +kernel) (Nat.le_of_ble_eq_true rfl) ?_
  intro p e s m args below meth c ls hC hr hlk hnm hX hKX hl
  have hK := hKX.1
  have hx := hC.1
  have hb := hC.2.1
  have hS : va_S A s.heap s.heap [] := va_S.rf
  have hX : MX D cA A ad S s.heap := hX
  have hl : lv_has ls 2 [(0, .ref (ad 0)), (1, .int x1)] := hl
  unfold m_comes at hf
  refine lv_aload_n hx hb dX11_comes_0 rfl (lv_at hl 0 rfl) ?_
  refine mget (v := .ref (ad 31)) hx hb hC hK hX 31 (by decide) a_999 rfl dX11_comes_1 ?_
  refine lv_aload_n hx hb dX11_comes_4 rfl (lv_at hl 0 rfl) ?_
  refine mget (v := .int (S.1 30)) hx hb hC hK hX 30 (by decide) a_998 rfl dX11_comes_5 ?_
  refine lv_iload_n hx hb dX11_comes_8 rfl (lv_at hl 1 rfl) ?_
  obtain ⟨h4, j3, ej3, hf⟩ := rd_e hf
  refine mast hx hb hC hK hX hS (by decide) h4 ej3 dX11_comes_9 (fun H locs hX hS => ?_)
  obtain ⟨S5, eS5, hf⟩ := lt_e hf
  rw [← eS5] at hX
  refine lv_aload_n hx hb dX11_comes_10 rfl (lv_at hl 0 rfl) ?_
  refine lv_dup hx hb dX11_comes_11 rfl ?_
  refine mget (v := .int (S5.1 30)) hx hb hC hK hX 30 (by decide) a_998 rfl dX11_comes_12 ?_
  refine lv_iconst (v := 1) hx hb dX11_comes_15 (by decide) ?_
  refine lv_iadd hx hb dX11_comes_16 ?_
  refine mput_30 hx hb hC hK hX hS a_998 dX11_comes_17 (fun H locs hX hS => ?_)
  obtain ⟨S6, eS6, hf⟩ := lt_e hf
  rw [← eS6] at hX
  cases hf
  exact Ct_rv hx hb hr hlk hX hS dX11_comes_20

theorem q_m_goesBelow : VWv RX11 yX11_goesBelow cX11_goesBelow 2 none 1 := ⟨a_1253, a_55, a_1252, a_36, by decide +kernel⟩
set_option maxRecDepth 100000 in
set_option maxHeartbeats 4000000 in
theorem c_m_goesBelow {l : Launch} {D : va_G} {cA : Nat → ClassId} {A : Nat → Prop} {ad : Nat → Nat} {x1 : Int32} {S : St} {S' : St} (hf : m_goesBelow x1 S = some S') : Ct l D cA A yX11_goesBelow cX11_goesBelow 2 none 5 0 0 [.ref (ad 0), .int x1] (MX D cA A ad S) none (MX D cA A ad S') := by
  refine Ct_of (by decide +kernel) (Nat.le_of_ble_eq_true rfl) ?_
  intro p e s m args below meth c ls hC hr hlk hnm hX hKX hl
  have hK := hKX.1
  have hx := hC.1
  have hb := hC.2.1
  have hS : va_S A s.heap s.heap [] := va_S.rf
  have hX : MX D cA A ad S s.heap := hX
  have hl : lv_has ls 2 [(0, .ref (ad 0)), (1, .int x1)] := hl
  unfold m_goesBelow at hf
  refine lv_aload_n hx hb dX11_goesBelow_0 rfl (lv_at hl 0 rfl) ?_
  refine mget (v := .ref (ad 8)) hx hb hC hK hX 8 (by decide) a_976 rfl dX11_goesBelow_1 ?_
  refine lv_iload_n hx hb dX11_goesBelow_4 rfl (lv_at hl 1 rfl) ?_
  obtain ⟨h4, j3, ej3, hf⟩ := rd_e hf
  refine mald hx hb hC hK hX (by decide) h4 ej3 dX11_goesBelow_5 ?_
  refine lv_if_ne (tgt := 15) hx hb dX11_goesBelow_6 (by decide) (fun c5 => ?_) (fun c5 => ?_)
  · have hf := it_f c5 hf
    refine lv_aload_n hx hb dX11_goesBelow_15 rfl (lv_at hl 0 rfl) ?_
    refine mget (v := .ref (ad 8)) hx hb hC hK hX 8 (by decide) a_976 rfl dX11_goesBelow_16 ?_
    refine lv_iload_n hx hb dX11_goesBelow_19 rfl (lv_at hl 1 rfl) ?_
    obtain ⟨h7, j6, ej6, hf⟩ := rd_e hf
    refine mald hx hb hC hK hX (by decide) h7 ej6 dX11_goesBelow_20 ?_
    refine lv_iconst (v := 3) hx hb dX11_goesBelow_21 (by decide) ?_
    refine lv_icmp_ne (tgt := 56) hx hb dX11_goesBelow_22 (by decide) (fun c8 => ?_) (fun c8 => ?_)
    · have hf := it_f c8 hf
      refine lv_aload_n hx hb dX11_goesBelow_56 rfl (lv_at hl 0 rfl) ?_
      refine lv_iload_n hx hb dX11_goesBelow_57 rfl (lv_at hl 1 rfl) ?_
      obtain ⟨S10, hz9, hf⟩ := cb_e hf
      refine mVv (As := [.int x1]) (rest := []) hC (c_m_putsOne hz9) q_m_putsOne a_1270 (Nat.le_of_ble_eq_true rfl) hX hKX rfl hl.1 (Nat.le_of_ble_eq_true rfl) dX11_goesBelow_58 hS (fun H locs hX hS => ?_)
      refine lv_aload_n hx hb dX11_goesBelow_61 rfl (lv_at hl 0 rfl) ?_
      refine lv_aload_n hx hb dX11_goesBelow_62 rfl (lv_at hl 0 rfl) ?_
      refine mget (v := .ref (ad 9)) hx hb hC hK hX 9 (by decide) a_977 rfl dX11_goesBelow_63 ?_
      refine lv_iload_n hx hb dX11_goesBelow_66 rfl (lv_at hl 1 rfl) ?_
      obtain ⟨h12, j11, ej11, hf⟩ := rd_e hf
      refine mald hx hb hC hK hX (by decide) h12 ej11 dX11_goesBelow_67 ?_
      obtain ⟨S14, hz13, hf⟩ := cb_e hf
      refine mVv (As := [.int (S10.2 9 j11)]) (rest := []) hC (c_m_comes hz13) q_m_comes a_1230 (Nat.le_of_ble_eq_true rfl) hX hKX rfl hl.1 (Nat.le_of_ble_eq_true rfl) dX11_goesBelow_68 hS (fun H locs hX hS => ?_)
      cases hf
      exact Ct_rv hx hb hr hlk hX hS dX11_goesBelow_71
    · have hf := it_t c8 hf
      refine lv_aload_n hx hb dX11_goesBelow_25 rfl (lv_at hl 0 rfl) ?_
      refine lv_iload_n hx hb dX11_goesBelow_26 rfl (lv_at hl 1 rfl) ?_
      obtain ⟨S16, hz15, hf⟩ := cb_e hf
      refine mVv (As := [.int x1]) (rest := []) hC (c_m_putsRight hz15) q_m_putsRight a_1258 (Nat.le_of_ble_eq_true rfl) hX hKX rfl hl.1 (Nat.le_of_ble_eq_true rfl) dX11_goesBelow_27 hS (fun H locs hX hS => ?_)
      refine lv_aload_n hx hb dX11_goesBelow_30 rfl (lv_at hl 0 rfl) ?_
      refine lv_iload_n hx hb dX11_goesBelow_31 rfl (lv_at hl 1 rfl) ?_
      obtain ⟨S18, hz17, hf⟩ := cb_e hf
      refine mVv (As := [.int x1]) (rest := []) hC (c_m_putsLeft hz17) q_m_putsLeft a_1262 (Nat.le_of_ble_eq_true rfl) hX hKX rfl hl.1 (Nat.le_of_ble_eq_true rfl) dX11_goesBelow_32 hS (fun H locs hX hS => ?_)
      refine lv_aload_n hx hb dX11_goesBelow_35 rfl (lv_at hl 0 rfl) ?_
      refine lv_aload_n hx hb dX11_goesBelow_36 rfl (lv_at hl 0 rfl) ?_
      refine mget (v := .ref (ad 9)) hx hb hC hK hX 9 (by decide) a_977 rfl dX11_goesBelow_37 ?_
      refine lv_iload_n hx hb dX11_goesBelow_40 rfl (lv_at hl 1 rfl) ?_
      obtain ⟨h20, j19, ej19, hf⟩ := rd_e hf
      refine mald hx hb hC hK hX (by decide) h20 ej19 dX11_goesBelow_41 ?_
      obtain ⟨S22, hz21, hf⟩ := cb_e hf
      refine mVv (As := [.int (S18.2 9 j19)]) (rest := []) hC (c_m_comes hz21) q_m_comes a_1230 (Nat.le_of_ble_eq_true rfl) hX hKX rfl hl.1 (Nat.le_of_ble_eq_true rfl) dX11_goesBelow_42 hS (fun H locs hX hS => ?_)
      refine lv_aload_n hx hb dX11_goesBelow_45 rfl (lv_at hl 0 rfl) ?_
      refine lv_aload_n hx hb dX11_goesBelow_46 rfl (lv_at hl 0 rfl) ?_
      refine mget (v := .ref (ad 10)) hx hb hC hK hX 10 (by decide) a_978 rfl dX11_goesBelow_47 ?_
      refine lv_iload_n hx hb dX11_goesBelow_50 rfl (lv_at hl 1 rfl) ?_
      obtain ⟨h24, j23, ej23, hf⟩ := rd_e hf
      refine mald hx hb hC hK hX (by decide) h24 ej23 dX11_goesBelow_51 ?_
      obtain ⟨S26, hz25, hf⟩ := cb_e hf
      refine mVv (As := [.int (S22.2 10 j23)]) (rest := []) hC (c_m_comes hz25) q_m_comes a_1230 (Nat.le_of_ble_eq_true rfl) hX hKX rfl hl.1 (Nat.le_of_ble_eq_true rfl) dX11_goesBelow_52 hS (fun H locs hX hS => ?_)
      cases hf
      exact Ct_rv hx hb hr hlk hX hS dX11_goesBelow_55
  · have hf := it_t c5 hf
    refine lv_aload_n hx hb dX11_goesBelow_9 rfl (lv_at hl 0 rfl) ?_
    refine lv_iload_n hx hb dX11_goesBelow_10 rfl (lv_at hl 1 rfl) ?_
    obtain ⟨S28, hz27, hf⟩ := cb_e hf
    refine mVv (As := [.int x1]) (rest := []) hC (c_m_putsTable hz27) q_m_putsTable a_1254 (Nat.le_of_ble_eq_true rfl) hX hKX rfl hl.1 (Nat.le_of_ble_eq_true rfl) dX11_goesBelow_11 hS (fun H locs hX hS => ?_)
    cases hf
    exact Ct_rv hx hb hr hlk hX hS dX11_goesBelow_14

theorem q_m_goes : VWv RX11 yX11_goes cX11_goes 3 none 0 := ⟨a_1225, a_55, a_1224, a_29, by decide +kernel⟩
set_option maxRecDepth 100000 in
set_option maxHeartbeats 4000000 in
theorem c_m_goes {l : Launch} {D : va_G} {cA : Nat → ClassId} {A : Nat → Prop} {ad : Nat → Nat}  {S : St} {S' : St} (hf : m_goes S = some S') : Ct l D cA A yX11_goes cX11_goes 3 none 6 0 0 [.ref (ad 0)] (MX D cA A ad S) none (MX D cA A ad S') := by
  refine Ct_of (by decide +kernel) (Nat.le_of_ble_eq_true rfl) ?_
  intro p e s m args below meth c ls hC hr hlk hnm hX hKX hl
  have hK := hKX.1
  have hx := hC.1
  have hb := hC.2.1
  have hS : va_S A s.heap s.heap [] := va_S.rf
  have hX : MX D cA A ad S s.heap := hX
  have hl : lv_has ls 3 [(0, .ref (ad 0))] := hl
  unfold m_goes at hf
  refine lv_aload_n hx hb dX11_goes_0 rfl (lv_at hl 0 rfl) ?_
  obtain ⟨S3, hz2, hf⟩ := cb_e hf
  refine mVv (As := []) (rest := []) hC (c_m_laysViews hz2) q_m_laysViews a_1170 (Nat.le_of_ble_eq_true rfl) hX hKX rfl hl.1 (Nat.le_of_ble_eq_true rfl) dX11_goes_1 hS (fun H locs hX hS => ?_)
  refine lv_aload_n hx hb dX11_goes_4 rfl (lv_at hl 0 rfl) ?_
  refine lv_iconst (v := 0) hx hb dX11_goes_5 (by decide) ?_
  refine mput_25 hx hb hC hK hX hS a_993 dX11_goes_6 (fun H locs hX hS => ?_)
  obtain ⟨S4, eS4, hf⟩ := lt_e hf
  rw [← eS4] at hX
  refine lv_aload_n hx hb dX11_goes_9 rfl (lv_at hl 0 rfl) ?_
  refine lv_iconst (v := (-1)) hx hb dX11_goes_10 (by decide) ?_
  refine mput_26 hx hb hC hK hX hS a_994 dX11_goes_11 (fun H locs hX hS => ?_)
  obtain ⟨S5, eS5, hf⟩ := lt_e hf
  rw [← eS5] at hX
  refine lv_aload_n hx hb dX11_goes_14 rfl (lv_at hl 0 rfl) ?_
  refine lv_iconst (v := (-1)) hx hb dX11_goes_15 (by decide) ?_
  refine mput_27 hx hb hC hK hX hS a_995 dX11_goes_16 (fun H locs hX hS => ?_)
  obtain ⟨S6, eS6, hf⟩ := lt_e hf
  rw [← eS6] at hX
  refine lv_iconst (v := 0) hx hb dX11_goes_19 (by decide) ?_
  refine lv_istore_n (lv' := [(1, .int 0), (0, .ref (ad 0))]) hx hb dX11_goes_20 rfl hl (by decide) rfl (fun ls hl => ?_)
  obtain ⟨g9, g90, g9s, hf⟩ := lp2_e hf
  have Lg9 : ∀ (n : Nat) (x7 : Int32) (S8 : St) (H : Heap) (locs : List Loc) (ls : Array Slot), MX D cA A ad S8 H → va_S A s.heap H locs → lv_has ls 3 [(0, .ref (ad 0)), (1, .int x7)] → g9 n x7 S8 = some S' → W p l e (RM 6 0 0) s m args below meth c H locs 0 0 (MQ below (CtQ A none (MX D cA A ad S')) args s 0 0 A) (F0 m 21 ls []) := by
    intro n
    induction n with
    | zero => intro x7 S8 H locs ls hX hS hl hf; rw [g90] at hf; cases hf
    | succ n ihg9 =>
      intro x7 S8 H locs ls hX hS hl hf
      rw [g9s] at hf
      refine lv_iload_n hx hb dX11_goes_21 rfl (lv_at hl 1 rfl) ?_
      refine lv_aload_n hx hb dX11_goes_22 rfl (lv_at hl 0 rfl) ?_
      refine mget (v := .int (S8.1 2)) hx hb hC hK hX 2 (by decide) a_970 rfl dX11_goes_23 ?_
      refine lv_icmp_ge (tgt := 87) hx hb dX11_goes_26 (by decide) (fun c10 => ?_) (fun c10 => ?_)
      · have hf := it_t c10 hf
        refine lv_aload_n hx hb dX11_goes_87 rfl (lv_at hl 0 rfl) ?_
        refine mget (v := .ref (ad 19)) hx hb hC hK hX 19 (by decide) a_987 rfl dX11_goes_88 ?_
        refine lv_aload_n hx hb dX11_goes_91 rfl (lv_at hl 0 rfl) ?_
        refine mget (v := .int (S8.1 22)) hx hb hC hK hX 22 (by decide) a_990 rfl dX11_goes_92 ?_
        refine lv_iconst (v := 0) hx hb dX11_goes_95 (by decide) ?_
        obtain ⟨h12, j11, ej11, hf⟩ := rd_e hf
        refine mast hx hb hC hK hX hS (by decide) h12 ej11 dX11_goes_96 (fun H locs hX hS => ?_)
        obtain ⟨S13, eS13, hf⟩ := lt_e hf
        rw [← eS13] at hX
        refine lv_iconst (v := 0) hx hb dX11_goes_97 (by decide) ?_
        refine lv_istore_n (lv' := [(1, .int 0), (0, .ref (ad 0))]) hx hb dX11_goes_98 rfl hl (by decide) rfl (fun ls hl => ?_)
        obtain ⟨g16, g160, g16s, hf⟩ := lp2_e hf
        have Lg16 : ∀ (n : Nat) (x14 : Int32) (S15 : St) (H : Heap) (locs : List Loc) (ls : Array Slot), MX D cA A ad S15 H → va_S A s.heap H locs → lv_has ls 3 [(0, .ref (ad 0)), (1, .int x14)] → g16 n x14 S15 = some S' → W p l e (RM 6 0 0) s m args below meth c H locs 0 0 (MQ below (CtQ A none (MX D cA A ad S')) args s 0 0 A) (F0 m 99 ls []) := by
          intro n
          induction n with
          | zero => intro x14 S15 H locs ls hX hS hl hf; rw [g160] at hf; cases hf
          | succ n ihg16 =>
            intro x14 S15 H locs ls hX hS hl hf
            rw [g16s] at hf
            refine lv_iload_n hx hb dX11_goes_99 rfl (lv_at hl 1 rfl) ?_
            refine lv_aload_n hx hb dX11_goes_100 rfl (lv_at hl 0 rfl) ?_
            refine mget (v := .int (S15.1 23)) hx hb hC hK hX 23 (by decide) a_991 rfl dX11_goes_101 ?_
            refine lv_icmp_ge (tgt := 127) hx hb dX11_goes_104 (by decide) (fun c17 => ?_) (fun c17 => ?_)
            · have hf := it_t c17 hf
              refine lv_aload_n hx hb dX11_goes_127 rfl (lv_at hl 0 rfl) ?_
              refine lv_iconst (v := 0) hx hb dX11_goes_128 (by decide) ?_
              refine mput_30 hx hb hC hK hX hS a_998 dX11_goes_129 (fun H locs hX hS => ?_)
              obtain ⟨S18, eS18, hf⟩ := lt_e hf
              rw [← eS18] at hX
              refine lv_aload_n hx hb dX11_goes_132 rfl (lv_at hl 0 rfl) ?_
              refine lv_aload_n hx hb dX11_goes_133 rfl (lv_at hl 0 rfl) ?_
              refine mget (v := .int (S18.1 22)) hx hb hC hK hX 22 (by decide) a_990 rfl dX11_goes_134 ?_
              obtain ⟨S20, hz19, hf⟩ := cb_e hf
              refine mVv (As := [.int (S18.1 22)]) (rest := []) hC (c_m_comes hz19) q_m_comes a_1230 (Nat.le_of_ble_eq_true rfl) hX hKX rfl hl.1 (Nat.le_of_ble_eq_true rfl) dX11_goes_137 hS (fun H locs hX hS => ?_)
              obtain ⟨g22, g220, g22s, hf⟩ := lp1_e hf
              have Lg22 : ∀ (n : Nat) (S21 : St) (H : Heap) (locs : List Loc) (ls : Array Slot), MX D cA A ad S21 H → va_S A s.heap H locs → lv_has ls 3 [(0, .ref (ad 0))] → g22 n S21 = some S' → W p l e (RM 6 0 0) s m args below meth c H locs 0 0 (MQ below (CtQ A none (MX D cA A ad S')) args s 0 0 A) (F0 m 140 ls []) := by
                intro n
                induction n with
                | zero => intro S21 H locs ls hX hS hl hf; rw [g220] at hf; cases hf
                | succ n ihg22 =>
                  intro S21 H locs ls hX hS hl hf
                  rw [g22s] at hf
                  refine lv_aload_n hx hb dX11_goes_140 rfl (lv_at hl 0 rfl) ?_
                  refine mget (v := .int (S21.1 30)) hx hb hC hK hX 30 (by decide) a_998 rfl dX11_goes_141 ?_
                  refine lv_if_le (tgt := 194) hx hb dX11_goes_144 (by decide) (fun c23 => ?_) (fun c23 => ?_)
                  · have hf := it_t c23 hf
                    cases hf
                    exact Ct_rv hx hb hr hlk hX hS dX11_goes_194
                  · have hf := it_f c23 hf
                    refine lv_aload_n hx hb dX11_goes_147 rfl (lv_at hl 0 rfl) ?_
                    refine mget (v := .int (S21.1 25)) hx hb hC hK hX 25 (by decide) a_993 rfl dX11_goes_148 ?_
                    refine lv_if_ne (tgt := 194) hx hb dX11_goes_151 (by decide) (fun c24 => ?_) (fun c24 => ?_)
                    · have hf := it_f c24 hf
                      cases hf
                      exact Ct_rv hx hb hr hlk hX hS dX11_goes_194
                    · have hf := it_t c24 hf
                      refine lv_aload_n hx hb dX11_goes_154 rfl (lv_at hl 0 rfl) ?_
                      refine lv_dup hx hb dX11_goes_155 rfl ?_
                      refine mget (v := .int (S21.1 30)) hx hb hC hK hX 30 (by decide) a_998 rfl dX11_goes_156 ?_
                      refine lv_iconst (v := 1) hx hb dX11_goes_159 (by decide) ?_
                      refine lv_isub hx hb dX11_goes_160 ?_
                      refine mput_30 hx hb hC hK hX hS a_998 dX11_goes_161 (fun H locs hX hS => ?_)
                      obtain ⟨S25, eS25, hf⟩ := lt_e hf
                      rw [← eS25] at hX
                      refine lv_aload_n hx hb dX11_goes_164 rfl (lv_at hl 0 rfl) ?_
                      refine mget (v := .ref (ad 31)) hx hb hC hK hX 31 (by decide) a_999 rfl dX11_goes_165 ?_
                      refine lv_aload_n hx hb dX11_goes_168 rfl (lv_at hl 0 rfl) ?_
                      refine mget (v := .int (S25.1 30)) hx hb hC hK hX 30 (by decide) a_998 rfl dX11_goes_169 ?_
                      obtain ⟨h27, j26, ej26, hf⟩ := rd_e hf
                      refine mald hx hb hC hK hX (by decide) h27 ej26 dX11_goes_172 ?_
                      refine lv_istore_n (lv' := [(1, .int (S25.2 31 j26)), (0, .ref (ad 0))]) hx hb dX11_goes_173 rfl hl (by decide) rfl (fun ls hl => ?_)
                      refine lv_aload_n hx hb dX11_goes_174 rfl (lv_at hl 1 rfl) ?_
                      refine lv_iload_n hx hb dX11_goes_175 rfl (lv_at hl 0 rfl) ?_
                      obtain ⟨S29, hz28, hf⟩ := cb_e hf
                      refine mVv (As := [.int (S25.2 31 j26)]) (rest := []) hC (c_m_looks hz28) q_m_looks a_1234 (Nat.le_of_ble_eq_true rfl) hX hKX rfl hl.1 (Nat.le_of_ble_eq_true rfl) dX11_goes_176 hS (fun H locs hX hS => ?_)
                      refine lv_aload_n hx hb dX11_goes_179 rfl (lv_at hl 1 rfl) ?_
                      refine mget (v := .int (S29.1 25)) hx hb hC hK hX 25 (by decide) a_993 rfl dX11_goes_180 ?_
                      refine lv_if_ne (tgt := 191) hx hb dX11_goes_183 (by decide) (fun c30 => ?_) (fun c30 => ?_)
                      · have hf := it_f c30 hf
                        refine lv_goto (tgt := 140) hx hb dX11_goes_191 (by decide) ?_
                        exact ihg22 _ _ _ _ hX hS (lv_sub hl [1] rfl) hf
                      · have hf := it_t c30 hf
                        refine lv_aload_n hx hb dX11_goes_186 rfl (lv_at hl 1 rfl) ?_
                        refine lv_iload_n hx hb dX11_goes_187 rfl (lv_at hl 0 rfl) ?_
                        obtain ⟨S32, hz31, hf⟩ := cb_e hf
                        refine mVv (As := [.int (S25.2 31 j26)]) (rest := []) hC (c_m_goesBelow hz31) q_m_goesBelow a_1250 (Nat.le_of_ble_eq_true rfl) hX hKX rfl hl.1 (Nat.le_of_ble_eq_true rfl) dX11_goes_188 hS (fun H locs hX hS => ?_)
                        refine lv_goto (tgt := 140) hx hb dX11_goes_191 (by decide) ?_
                        exact ihg22 _ _ _ _ hX hS (lv_sub hl [1] rfl) hf
              exact Lg22 FU _ _ _ _ hX hS (lv_sub hl [0] rfl) hf
            · have hf := it_f c17 hf
              refine lv_aload_n hx hb dX11_goes_107 rfl (lv_at hl 0 rfl) ?_
              refine lv_aload_n hx hb dX11_goes_108 rfl (lv_at hl 0 rfl) ?_
              refine mget (v := .int (S15.1 22)) hx hb hC hK hX 22 (by decide) a_990 rfl dX11_goes_109 ?_
              refine lv_aload_n hx hb dX11_goes_112 rfl (lv_at hl 0 rfl) ?_
              refine mget (v := .ref (ad 24)) hx hb hC hK hX 24 (by decide) a_992 rfl dX11_goes_113 ?_
              refine lv_iload_n hx hb dX11_goes_116 rfl (lv_at hl 1 rfl) ?_
              obtain ⟨h34, j33, ej33, hf⟩ := rd_e hf
              refine mald hx hb hC hK hX (by decide) h34 ej33 dX11_goes_117 ?_
              obtain ⟨S36, hz35, hf⟩ := cb_e hf
              refine mVv (As := [.int (S15.1 22), .int (S15.2 24 j33)]) (rest := []) hC (c_m_putsRow hz35) q_m_putsRow a_1226 (Nat.le_of_ble_eq_true rfl) hX hKX rfl hl.1 (Nat.le_of_ble_eq_true rfl) dX11_goes_118 hS (fun H locs hX hS => ?_)
              refine lv_iinc (v := (x14 + 1)) (lv' := [(1, .int (x14 + 1)), (0, .ref (ad 0))]) hx hb dX11_goes_121 hl (k := 1) rfl rfl (by decide) rfl (fun ls hl => ?_)
              refine lv_goto (tgt := 99) hx hb dX11_goes_124 (by decide) ?_
              exact ihg16 _ _ _ _ _ hX hS (lv_sub hl [1, 0] rfl) hf
        exact Lg16 FU _ _ _ _ _ hX hS (lv_sub hl [1, 0] rfl) hf
      · have hf := it_f c10 hf
        refine lv_aload_n hx hb dX11_goes_29 rfl (lv_at hl 0 rfl) ?_
        refine mget (v := .ref (ad 28)) hx hb hC hK hX 28 (by decide) a_996 rfl dX11_goes_30 ?_
        refine lv_iload_n hx hb dX11_goes_33 rfl (lv_at hl 1 rfl) ?_
        refine lv_aload_n hx hb dX11_goes_34 rfl (lv_at hl 0 rfl) ?_
        refine mget (v := .ref (ad 5)) hx hb hC hK hX 5 (by decide) a_973 rfl dX11_goes_35 ?_
        refine lv_iload_n hx hb dX11_goes_38 rfl (lv_at hl 1 rfl) ?_
        obtain ⟨h38, j37, ej37, hf⟩ := rd_e hf
        refine mald hx hb hC hK hX (by decide) h38 ej37 dX11_goes_39 ?_
        obtain ⟨h40, j39, ej39, hf⟩ := rd_e hf
        refine mast hx hb hC hK hX hS (by decide) h40 ej39 dX11_goes_40 (fun H locs hX hS => ?_)
        obtain ⟨S41, eS41, hf⟩ := lt_e hf
        rw [← eS41] at hX
        refine lv_iconst (v := 0) hx hb dX11_goes_41 (by decide) ?_
        refine lv_istore_n (lv' := [(2, .int 0), (0, .ref (ad 0)), (1, .int x7)]) hx hb dX11_goes_42 rfl hl (by decide) rfl (fun ls hl => ?_)
        obtain ⟨g44, g440, g44s, hf⟩ := lp2_e hf
        have Lg44 : ∀ (n : Nat) (x42 : Int32) (S43 : St) (H : Heap) (locs : List Loc) (ls : Array Slot), MX D cA A ad S43 H → va_S A s.heap H locs → lv_has ls 3 [(0, .ref (ad 0)), (1, .int x7), (2, .int x42)] → g44 n x42 S43 = some S' → W p l e (RM 6 0 0) s m args below meth c H locs 0 0 (MQ below (CtQ A none (MX D cA A ad S')) args s 0 0 A) (F0 m 43 ls []) := by
          intro n
          induction n with
          | zero => intro x42 S43 H locs ls hX hS hl hf; rw [g440] at hf; cases hf
          | succ n ihg44 =>
            intro x42 S43 H locs ls hX hS hl hf
            rw [g44s] at hf
            refine lv_iload_n hx hb dX11_goes_43 rfl (lv_at hl 2 rfl) ?_
            refine lv_aload_n hx hb dX11_goes_44 rfl (lv_at hl 0 rfl) ?_
            refine mget (v := .ref (ad 5)) hx hb hC hK hX 5 (by decide) a_973 rfl dX11_goes_45 ?_
            refine lv_iload_n hx hb dX11_goes_48 rfl (lv_at hl 1 rfl) ?_
            obtain ⟨h46, j45, ej45, hf⟩ := rd_e hf
            refine mald hx hb hC hK hX (by decide) h46 ej45 dX11_goes_49 ?_
            refine lv_icmp_ge (tgt := 81) hx hb dX11_goes_50 (by decide) (fun c47 => ?_) (fun c47 => ?_)
            · have hf := it_t c47 hf
              refine lv_iinc (v := (x7 + 1)) (lv' := [(1, .int (x7 + 1)), (0, .ref (ad 0)), (2, .int x42)]) hx hb dX11_goes_81 hl (k := 1) rfl rfl (by decide) rfl (fun ls hl => ?_)
              refine lv_goto (tgt := 21) hx hb dX11_goes_84 (by decide) ?_
              exact ihg9 _ _ _ _ _ hX hS (lv_sub hl [1, 0] rfl) hf
            · have hf := it_f c47 hf
              refine lv_aload_n hx hb dX11_goes_53 rfl (lv_at hl 0 rfl) ?_
              refine mget (v := .ref (ad 29)) hx hb hC hK hX 29 (by decide) a_997 rfl dX11_goes_54 ?_
              refine lv_bipush (v := 12) hx hb dX11_goes_57 (by decide) ?_
              refine lv_iload_n hx hb dX11_goes_59 rfl (lv_at hl 1 rfl) ?_
              refine lv_imul hx hb dX11_goes_60 ?_
              refine lv_iload_n hx hb dX11_goes_61 rfl (lv_at hl 2 rfl) ?_
              refine lv_iadd hx hb dX11_goes_62 ?_
              refine lv_aload_n hx hb dX11_goes_63 rfl (lv_at hl 0 rfl) ?_
              refine mget (v := .ref (ad 6)) hx hb hC hK hX 6 (by decide) a_974 rfl dX11_goes_64 ?_
              refine lv_bipush (v := 12) hx hb dX11_goes_67 (by decide) ?_
              refine lv_iload_n hx hb dX11_goes_69 rfl (lv_at hl 1 rfl) ?_
              refine lv_imul hx hb dX11_goes_70 ?_
              refine lv_iload_n hx hb dX11_goes_71 rfl (lv_at hl 2 rfl) ?_
              refine lv_iadd hx hb dX11_goes_72 ?_
              obtain ⟨h49, j48, ej48, hf⟩ := rd_e hf
              refine mald hx hb hC hK hX (by decide) h49 ej48 dX11_goes_73 ?_
              obtain ⟨h51, j50, ej50, hf⟩ := rd_e hf
              refine mast hx hb hC hK hX hS (by decide) h51 ej50 dX11_goes_74 (fun H locs hX hS => ?_)
              obtain ⟨S52, eS52, hf⟩ := lt_e hf
              rw [← eS52] at hX
              refine lv_iinc (v := (x42 + 1)) (lv' := [(2, .int (x42 + 1)), (0, .ref (ad 0)), (1, .int x7)]) hx hb dX11_goes_75 hl (k := 2) rfl rfl (by decide) rfl (fun ls hl => ?_)
              refine lv_goto (tgt := 43) hx hb dX11_goes_78 (by decide) ?_
              exact ihg44 _ _ _ _ _ hX hS (lv_sub hl [1, 2, 0] rfl) hf
        exact Lg44 FU _ _ _ _ _ hX hS (lv_sub hl [1, 2, 0] rfl) hf
  exact Lg9 FU _ _ _ _ _ hX hS (lv_sub hl [1, 0] rfl) hf

theorem q_m_asksDraft : VWv RX11 yX11_asksDraft cX11_asksDraft 1 (some .boolean) 0 := ⟨a_1221, a_55, a_1220, a_28, by decide +kernel⟩
set_option maxRecDepth 100000 in
set_option maxHeartbeats 4000000 in
theorem c_m_asksDraft {l : Launch} {D : va_G} {cA : Nat → ClassId} {A : Nat → Prop} {ad : Nat → Nat}  {S : St} {r : Int32} {S' : St} (hf : m_asksDraft S = some (r, S')) : Ct l D cA A yX11_asksDraft cX11_asksDraft 1 (some .boolean) 0 0 0 [.ref (ad 0)] (MX D cA A ad S) (some (.int r)) (MX D cA A ad S') := by
  refine Ct_of (by decide +kernel) (Nat.le_of_ble_eq_true rfl) ?_
  intro p e s m args below meth c ls hC hr hlk hnm hX hKX hl
  have hK := hKX.1
  have hx := hC.1
  have hb := hC.2.1
  have hS : va_S A s.heap s.heap [] := va_S.rf
  have hX : MX D cA A ad S s.heap := hX
  have hl : lv_has ls 1 [(0, .ref (ad 0))] := hl
  unfold m_asksDraft at hf
  refine lv_aload_n hx hb dX11_asksDraft_0 rfl (lv_at hl 0 rfl) ?_
  refine lv_aload_n hx hb dX11_asksDraft_1 rfl (lv_at hl 0 rfl) ?_
  refine mget (v := .int (S.1 21)) hx hb hC hK hX 21 (by decide) a_989 rfl dX11_asksDraft_2 ?_
  obtain ⟨k3, hk3, hf⟩ := jn1_e hf
  have Jk3 : ∀ (x2 : Int32) (H : Heap) (locs : List Loc) (ls : Array Slot), MX D cA A ad S H → va_S A s.heap H locs → lv_has ls 1 [(0, .ref (ad 0))] → k3 x2 = some (r, S') → W p l e (RM 0 0 0) s m args below meth c H locs 0 0 (MQ below (CtQ A (some (.int r)) (MX D cA A ad S')) args s 0 0 A) (F0 m 13 ls [.int x2, .ref (ad 0)]) := by
    intro x2 H locs ls hX hS hl hf
    rw [hk3] at hf
    refine mput_0 hx hb hC hK hX hS a_968 dX11_asksDraft_13 (fun H locs hX hS => ?_)
    obtain ⟨S4, eS4, hf⟩ := lt_e hf
    rw [← eS4] at hX
    refine lv_aload_n hx hb dX11_asksDraft_16 rfl (lv_at hl 0 rfl) ?_
    refine mget (v := .int (S4.1 0)) hx hb hC hK hX 0 (by decide) a_968 rfl dX11_asksDraft_17 ?_
    refine lv_if_ne (tgt := 27) hx hb dX11_asksDraft_20 (by decide) (fun c5 => ?_) (fun c5 => ?_)
    · have hf := it_f c5 hf
      refine lv_iconst (v := 0) hx hb dX11_asksDraft_27 (by decide) ?_
      cases hf
      exact Ct_rz hx hb hr hlk nz0 hX hS dX11_asksDraft_28
    · have hf := it_t c5 hf
      refine lv_iconst (v := 1) hx hb dX11_asksDraft_23 (by decide) ?_
      refine lv_goto (tgt := 28) hx hb dX11_asksDraft_24 (by decide) ?_
      cases hf
      exact Ct_rz hx hb hr hlk nz1 hX hS dX11_asksDraft_28
  refine lv_if_eq (tgt := 12) hx hb dX11_asksDraft_5 (by decide) (fun c6 => ?_) (fun c6 => ?_)
  · have hf := it_t c6 hf
    refine lv_iconst (v := 1) hx hb dX11_asksDraft_12 (by decide) ?_
    exact Jk3 _ _ _ _ hX hS (lv_sub hl [0] rfl) hf
  · have hf := it_f c6 hf
    refine lv_iconst (v := 0) hx hb dX11_asksDraft_8 (by decide) ?_
    refine lv_goto (tgt := 13) hx hb dX11_asksDraft_9 (by decide) ?_
    exact Jk3 _ _ _ _ hX hS (lv_sub hl [0] rfl) hf

theorem q_m_conflict : VWv RX11 yX11_conflict cX11_conflict 1 (some .int) 0 := ⟨a_1217, a_55, a_1215, a_1216, by decide +kernel⟩
set_option maxRecDepth 100000 in
set_option maxHeartbeats 4000000 in
theorem c_m_conflict {l : Launch} {D : va_G} {cA : Nat → ClassId} {A : Nat → Prop} {ad : Nat → Nat}  {S : St} {r : Int32} {S' : St} (hf : m_conflict S = some (r, S')) : Ct l D cA A yX11_conflict cX11_conflict 1 (some .int) 7 0 0 [.ref (ad 0)] (MX D cA A ad S) (some (.int r)) (MX D cA A ad S') := by
  refine Ct_of (by decide +kernel) (Nat.le_of_ble_eq_true rfl) ?_
  intro p e s m args below meth c ls hC hr hlk hnm hX hKX hl
  have hK := hKX.1
  have hx := hC.1
  have hb := hC.2.1
  have hS : va_S A s.heap s.heap [] := va_S.rf
  have hX : MX D cA A ad S s.heap := hX
  have hl : lv_has ls 1 [(0, .ref (ad 0))] := hl
  unfold m_conflict at hf
  refine lv_aload_n hx hb dX11_conflict_0 rfl (lv_at hl 0 rfl) ?_
  obtain ⟨z2, S3, hz2, hf⟩ := cb2_e hf
  refine mVi (As := []) (rest := []) hC (c_m_asksDraft hz2) q_m_asksDraft a_1218 (Nat.le_of_ble_eq_true rfl) hX hKX rfl hl.1 (Nat.le_of_ble_eq_true rfl) dX11_conflict_1 hS (fun H locs hX hS => ?_)
  refine lv_if_ne (tgt := 9) hx hb dX11_conflict_4 (by decide) (fun c4 => ?_) (fun c4 => ?_)
  · have hf := it_f c4 hf
    refine lv_aload_n hx hb dX11_conflict_9 rfl (lv_at hl 0 rfl) ?_
    obtain ⟨S6, hz5, hf⟩ := cb_e hf
    refine mVv (As := []) (rest := []) hC (c_m_goes hz5) q_m_goes a_1222 (Nat.le_of_ble_eq_true rfl) hX hKX rfl hl.1 (Nat.le_of_ble_eq_true rfl) dX11_conflict_10 hS (fun H locs hX hS => ?_)
    refine lv_aload_n hx hb dX11_conflict_13 rfl (lv_at hl 0 rfl) ?_
    refine mget (v := .int (S6.1 25)) hx hb hC hK hX 25 (by decide) a_993 rfl dX11_conflict_14 ?_
    cases hf
    exact Ct_ri hx hb hr hlk hX hS dX11_conflict_17
  · have hf := it_t c4 hf
    refine lv_iconst (v := 0) hx hb dX11_conflict_7 (by decide) ?_
    cases hf
    exact Ct_ri hx hb hr hlk hX hS dX11_conflict_8

theorem q_m_conflictRow : VWv RX11 yX11_conflictRow cX11_conflictRow 2 (some .int) 1 := ⟨a_1277, a_55, a_1275, a_1276, by decide +kernel⟩
set_option maxRecDepth 100000 in
set_option maxHeartbeats 4000000 in
theorem c_m_conflictRow {l : Launch} {D : va_G} {cA : Nat → ClassId} {A : Nat → Prop} {ad : Nat → Nat} {x1 : Int32} {S : St} {r : Int32} {S' : St} (hf : m_conflictRow x1 S = some (r, S')) : Ct l D cA A yX11_conflictRow cX11_conflictRow 2 (some .int) 7 0 0 [.ref (ad 0), .int x1] (MX D cA A ad S) (some (.int r)) (MX D cA A ad S') := by
  refine Ct_of (by decide +kernel) (Nat.le_of_ble_eq_true rfl) ?_
  intro p e s m args below meth c ls hC hr hlk hnm hX hKX hl
  have hK := hKX.1
  have hx := hC.1
  have hb := hC.2.1
  have hS : va_S A s.heap s.heap [] := va_S.rf
  have hX : MX D cA A ad S s.heap := hX
  have hl : lv_has ls 2 [(0, .ref (ad 0)), (1, .int x1)] := hl
  unfold m_conflictRow at hf
  refine lv_aload_n hx hb dX11_conflictRow_0 rfl (lv_at hl 0 rfl) ?_
  refine lv_aload_n hx hb dX11_conflictRow_1 rfl (lv_at hl 0 rfl) ?_
  refine mget (v := .int (S.1 21)) hx hb hC hK hX 21 (by decide) a_989 rfl dX11_conflictRow_2 ?_
  obtain ⟨k4, hk4, hf⟩ := jn1_e hf
  have Jk4 : ∀ (x3 : Int32) (H : Heap) (locs : List Loc) (ls : Array Slot), MX D cA A ad S H → va_S A s.heap H locs → lv_has ls 2 [(0, .ref (ad 0)), (1, .int x1)] → k4 x3 = some (r, S') → W p l e (RM 7 0 0) s m args below meth c H locs 0 0 (MQ below (CtQ A (some (.int r)) (MX D cA A ad S')) args s 0 0 A) (F0 m 26 ls [.int x3, .ref (ad 0)]) := by
    intro x3 H locs ls hX hS hl hf
    rw [hk4] at hf
    refine mput_0 hx hb hC hK hX hS a_968 dX11_conflictRow_26 (fun H locs hX hS => ?_)
    obtain ⟨S5, eS5, hf⟩ := lt_e hf
    rw [← eS5] at hX
    refine lv_aload_n hx hb dX11_conflictRow_29 rfl (lv_at hl 0 rfl) ?_
    refine mget (v := .int (S5.1 0)) hx hb hC hK hX 0 (by decide) a_968 rfl dX11_conflictRow_30 ?_
    refine lv_if_le (tgt := 38) hx hb dX11_conflictRow_33 (by decide) (fun c6 => ?_) (fun c6 => ?_)
    · have hf := it_t c6 hf
      refine lv_aload_n hx hb dX11_conflictRow_38 rfl (lv_at hl 0 rfl) ?_
      obtain ⟨S8, hz7, hf⟩ := cb_e hf
      refine mVv (As := []) (rest := []) hC (c_m_goes hz7) q_m_goes a_1222 (Nat.le_of_ble_eq_true rfl) hX hKX rfl hl.1 (Nat.le_of_ble_eq_true rfl) dX11_conflictRow_39 hS (fun H locs hX hS => ?_)
      refine lv_iload_n hx hb dX11_conflictRow_42 rfl (lv_at hl 1 rfl) ?_
      refine lv_if_ne (tgt := 53) hx hb dX11_conflictRow_43 (by decide) (fun c9 => ?_) (fun c9 => ?_)
      · have hf := it_f c9 hf
        refine lv_aload_n hx hb dX11_conflictRow_53 rfl (lv_at hl 0 rfl) ?_
        refine mget (v := .int (S8.1 27)) hx hb hC hK hX 27 (by decide) a_995 rfl dX11_conflictRow_54 ?_
        cases hf
        exact Ct_ri hx hb hr hlk hX hS dX11_conflictRow_57
      · have hf := it_t c9 hf
        refine lv_aload_n hx hb dX11_conflictRow_46 rfl (lv_at hl 0 rfl) ?_
        refine mget (v := .int (S8.1 26)) hx hb hC hK hX 26 (by decide) a_994 rfl dX11_conflictRow_47 ?_
        refine lv_goto (tgt := 57) hx hb dX11_conflictRow_50 (by decide) ?_
        cases hf
        exact Ct_ri hx hb hr hlk hX hS dX11_conflictRow_57
    · have hf := it_f c6 hf
      refine lv_iconst (v := 0) hx hb dX11_conflictRow_36 (by decide) ?_
      cases hf
      exact Ct_ri hx hb hr hlk hX hS dX11_conflictRow_37
  refine lv_if_ne (tgt := 12) hx hb dX11_conflictRow_5 (by decide) (fun c10 => ?_) (fun c10 => ?_)
  · have hf := it_f c10 hf
    refine lv_iload_n hx hb dX11_conflictRow_12 rfl (lv_at hl 1 rfl) ?_
    refine lv_iconst (v := 0) hx hb dX11_conflictRow_13 (by decide) ?_
    refine lv_iconst (v := 1) hx hb dX11_conflictRow_14 (by decide) ?_
    obtain ⟨z11, hz11, hf⟩ := cb_e hf
    refine mSi (As := [.int x1, .int 0, .int 1]) (rest := [.ref (ad 0)]) hC (c_m_in hz11) q_m_in a_1086 (Nat.le_of_ble_eq_true rfl) hX hKX rfl hl.1 (Nat.le_of_ble_eq_true rfl) dX11_conflictRow_15 hS (fun H locs hX hS => ?_)
    refine lv_if_eq (tgt := 25) hx hb dX11_conflictRow_18 (by decide) (fun c12 => ?_) (fun c12 => ?_)
    · have hf := it_t c12 hf
      refine lv_iconst (v := 2) hx hb dX11_conflictRow_25 (by decide) ?_
      exact Jk4 _ _ _ _ hX hS (lv_sub hl [0, 1] rfl) hf
    · have hf := it_f c12 hf
      refine lv_iconst (v := 0) hx hb dX11_conflictRow_21 (by decide) ?_
      refine lv_goto (tgt := 26) hx hb dX11_conflictRow_22 (by decide) ?_
      exact Jk4 _ _ _ _ hX hS (lv_sub hl [0, 1] rfl) hf
  · have hf := it_t c10 hf
    refine lv_iconst (v := 1) hx hb dX11_conflictRow_8 (by decide) ?_
    refine lv_goto (tgt := 26) hx hb dX11_conflictRow_9 (by decide) ?_
    exact Jk4 _ _ _ _ hX hS (lv_sub hl [0, 1] rfl) hf

theorem q_m_manyChanges : VWv RX11 yX11_manyChanges cX11_manyChanges 4 (some .int) 0 := ⟨a_1285, a_55, a_1284, a_42, by decide +kernel⟩
set_option maxRecDepth 100000 in
set_option maxHeartbeats 4000000 in
theorem c_m_manyChanges {l : Launch} {D : va_G} {cA : Nat → ClassId} {A : Nat → Prop} {ad : Nat → Nat}  {S : St} {r : Int32} (hf : m_manyChanges S = some r) : Ct l D cA A yX11_manyChanges cX11_manyChanges 4 (some .int) 1 0 0 [.ref (ad 0)] (MX D cA A ad S) (some (.int r)) (MX D cA A ad S) := by
  refine Ct_of (by decide +kernel) (Nat.le_of_ble_eq_true rfl) ?_
  intro p e s m args below meth c ls hC hr hlk hnm hX hKX hl
  have hK := hKX.1
  have hx := hC.1
  have hb := hC.2.1
  have hS : va_S A s.heap s.heap [] := va_S.rf
  have hX : MX D cA A ad S s.heap := hX
  have hl : lv_has ls 4 [(0, .ref (ad 0))] := hl
  unfold m_manyChanges at hf
  refine lv_iconst (v := 0) hx hb dX11_manyChanges_0 (by decide) ?_
  refine lv_istore_n (lv' := [(1, .int 0), (0, .ref (ad 0))]) hx hb dX11_manyChanges_1 rfl hl (by decide) rfl (fun ls hl => ?_)
  refine lv_iconst (v := 0) hx hb dX11_manyChanges_2 (by decide) ?_
  refine lv_istore_n (lv' := [(2, .int 0), (1, .int 0), (0, .ref (ad 0))]) hx hb dX11_manyChanges_3 rfl hl (by decide) rfl (fun ls hl => ?_)
  obtain ⟨g4, g40, g4s, hf⟩ := lp2_e hf
  have Lg4 : ∀ (n : Nat) (x2 : Int32) (x3 : Int32) (H : Heap) (locs : List Loc) (ls : Array Slot), MX D cA A ad S H → va_S A s.heap H locs → lv_has ls 4 [(0, .ref (ad 0)), (1, .int x2), (2, .int x3)] → g4 n x2 x3 = some r → W p l e (RM 1 0 0) s m args below meth c H locs 0 0 (MQ below (CtQ A (some (.int r)) (MX D cA A ad S)) args s 0 0 A) (F0 m 4 ls []) := by
    intro n
    induction n with
    | zero => intro x2 x3 H locs ls hX hS hl hf; rw [g40] at hf; cases hf
    | succ n ihg4 =>
      intro x2 x3 H locs ls hX hS hl hf
      rw [g4s] at hf
      refine lv_iload_n hx hb dX11_manyChanges_4 rfl (lv_at hl 2 rfl) ?_
      refine lv_aload_n hx hb dX11_manyChanges_5 rfl (lv_at hl 0 rfl) ?_
      refine mget (v := .int (S.1 2)) hx hb hC hK hX 2 (by decide) a_970 rfl dX11_manyChanges_6 ?_
      refine lv_icmp_ge (tgt := 134) hx hb dX11_manyChanges_9 (by decide) (fun c5 => ?_) (fun c5 => ?_)
      · have hf := it_t c5 hf
        refine lv_iload_n hx hb dX11_manyChanges_134 rfl (lv_at hl 1 rfl) ?_
        cases hf
        exact Ct_ri hx hb hr hlk hX hS dX11_manyChanges_135
      · have hf := it_f c5 hf
        refine lv_iconst (v := 0) hx hb dX11_manyChanges_12 (by decide) ?_
        refine lv_istore_n (lv' := [(3, .int 0), (0, .ref (ad 0)), (1, .int x2), (2, .int x3)]) hx hb dX11_manyChanges_13 rfl hl (by decide) rfl (fun ls hl => ?_)
        obtain ⟨g8, g80, g8s, hf⟩ := lp2_e hf
        have Lg8 : ∀ (n : Nat) (x6 : Int32) (x7 : Int32) (H : Heap) (locs : List Loc) (ls : Array Slot), MX D cA A ad S H → va_S A s.heap H locs → lv_has ls 4 [(0, .ref (ad 0)), (1, .int x6), (2, .int x3), (3, .int x7)] → g8 n x6 x7 = some r → W p l e (RM 1 0 0) s m args below meth c H locs 0 0 (MQ below (CtQ A (some (.int r)) (MX D cA A ad S)) args s 0 0 A) (F0 m 14 ls []) := by
          intro n
          induction n with
          | zero => intro x6 x7 H locs ls hX hS hl hf; rw [g80] at hf; cases hf
          | succ n ihg8 =>
            intro x6 x7 H locs ls hX hS hl hf
            rw [g8s] at hf
            refine lv_iload_n hx hb dX11_manyChanges_14 rfl (lv_at hl 3 rfl) ?_
            refine lv_aload_n hx hb dX11_manyChanges_15 rfl (lv_at hl 0 rfl) ?_
            refine mget (v := .ref (ad 5)) hx hb hC hK hX 5 (by decide) a_973 rfl dX11_manyChanges_16 ?_
            refine lv_iload_n hx hb dX11_manyChanges_19 rfl (lv_at hl 2 rfl) ?_
            obtain ⟨h10, j9, ej9, hf⟩ := rd_e hf
            refine mald hx hb hC hK hX (by decide) h10 ej9 dX11_manyChanges_20 ?_
            refine lv_icmp_ge (tgt := 70) hx hb dX11_manyChanges_21 (by decide) (fun c11 => ?_) (fun c11 => ?_)
            · have hf := it_t c11 hf
              refine lv_iconst (v := 0) hx hb dX11_manyChanges_70 (by decide) ?_
              refine lv_istore_n (lv' := [(3, .int 0), (0, .ref (ad 0)), (1, .int x6), (2, .int x3)]) hx hb dX11_manyChanges_71 rfl hl (by decide) rfl (fun ls hl => ?_)
              obtain ⟨g14, g140, g14s, hf⟩ := lp2_e hf
              have Lg14 : ∀ (n : Nat) (x12 : Int32) (x13 : Int32) (H : Heap) (locs : List Loc) (ls : Array Slot), MX D cA A ad S H → va_S A s.heap H locs → lv_has ls 4 [(0, .ref (ad 0)), (1, .int x12), (2, .int x3), (3, .int x13)] → g14 n x12 x13 = some r → W p l e (RM 1 0 0) s m args below meth c H locs 0 0 (MQ below (CtQ A (some (.int r)) (MX D cA A ad S)) args s 0 0 A) (F0 m 72 ls []) := by
                intro n
                induction n with
                | zero => intro x12 x13 H locs ls hX hS hl hf; rw [g140] at hf; cases hf
                | succ n ihg14 =>
                  intro x12 x13 H locs ls hX hS hl hf
                  rw [g14s] at hf
                  refine lv_iload_n hx hb dX11_manyChanges_72 rfl (lv_at hl 3 rfl) ?_
                  refine lv_aload_n hx hb dX11_manyChanges_73 rfl (lv_at hl 0 rfl) ?_
                  refine mget (v := .ref (ad 28)) hx hb hC hK hX 28 (by decide) a_996 rfl dX11_manyChanges_74 ?_
                  refine lv_iload_n hx hb dX11_manyChanges_77 rfl (lv_at hl 2 rfl) ?_
                  obtain ⟨h16, j15, ej15, hf⟩ := rd_e hf
                  refine mald hx hb hC hK hX (by decide) h16 ej15 dX11_manyChanges_78 ?_
                  refine lv_icmp_ge (tgt := 128) hx hb dX11_manyChanges_79 (by decide) (fun c17 => ?_) (fun c17 => ?_)
                  · have hf := it_t c17 hf
                    refine lv_iinc (v := (x3 + 1)) (lv' := [(2, .int (x3 + 1)), (0, .ref (ad 0)), (1, .int x12), (3, .int x13)]) hx hb dX11_manyChanges_128 hl (k := 2) rfl rfl (by decide) rfl (fun ls hl => ?_)
                    refine lv_goto (tgt := 4) hx hb dX11_manyChanges_131 (by decide) ?_
                    exact ihg4 _ _ _ _ _ hX hS (lv_sub hl [1, 2, 0] rfl) hf
                  · have hf := it_f c17 hf
                    refine lv_iload_n hx hb dX11_manyChanges_82 rfl (lv_at hl 1 rfl) ?_
                    refine lv_aload_n hx hb dX11_manyChanges_83 rfl (lv_at hl 0 rfl) ?_
                    refine mget (v := .ref (ad 6)) hx hb hC hK hX 6 (by decide) a_974 rfl dX11_manyChanges_84 ?_
                    refine lv_bipush (v := 12) hx hb dX11_manyChanges_87 (by decide) ?_
                    refine lv_iload_n hx hb dX11_manyChanges_89 rfl (lv_at hl 2 rfl) ?_
                    refine lv_imul hx hb dX11_manyChanges_90 ?_
                    refine lv_aload_n hx hb dX11_manyChanges_91 rfl (lv_at hl 0 rfl) ?_
                    refine mget (v := .ref (ad 5)) hx hb hC hK hX 5 (by decide) a_973 rfl dX11_manyChanges_92 ?_
                    refine lv_iload_n hx hb dX11_manyChanges_95 rfl (lv_at hl 2 rfl) ?_
                    obtain ⟨h19, j18, ej18, hf⟩ := rd_e hf
                    refine mald hx hb hC hK hX (by decide) h19 ej18 dX11_manyChanges_96 ?_
                    refine lv_aload_n hx hb dX11_manyChanges_97 rfl (lv_at hl 0 rfl) ?_
                    refine mget (v := .ref (ad 29)) hx hb hC hK hX 29 (by decide) a_997 rfl dX11_manyChanges_98 ?_
                    refine lv_bipush (v := 12) hx hb dX11_manyChanges_101 (by decide) ?_
                    refine lv_iload_n hx hb dX11_manyChanges_103 rfl (lv_at hl 2 rfl) ?_
                    refine lv_imul hx hb dX11_manyChanges_104 ?_
                    refine lv_iload_n hx hb dX11_manyChanges_105 rfl (lv_at hl 3 rfl) ?_
                    refine lv_iadd hx hb dX11_manyChanges_106 ?_
                    obtain ⟨h21, j20, ej20, hf⟩ := rd_e hf
                    refine mald hx hb hC hK hX (by decide) h21 ej20 dX11_manyChanges_107 ?_
                    obtain ⟨z22, hz22, hf⟩ := cb_e hf
                    refine mSi (As := [.ref (ad 6), .int (12 * x3), .int (S.2 5 j18), .int (S.2 29 j20)]) (rest := [.int x12]) hC (c_m_placeOf (by decide) hz22) q_m_placeOf a_1121 (Nat.le_of_ble_eq_true rfl) hX hKX rfl hl.1 (Nat.le_of_ble_eq_true rfl) dX11_manyChanges_108 hS (fun H locs hX hS => ?_)
                    refine lv_iconst (v := (-1)) hx hb dX11_manyChanges_111 (by decide) ?_
                    obtain ⟨k24, hk24, hf⟩ := jn1_e hf
                    have Jk24 : ∀ (x23 : Int32) (H : Heap) (locs : List Loc) (ls : Array Slot), MX D cA A ad S H → va_S A s.heap H locs → lv_has ls 4 [(0, .ref (ad 0)), (2, .int x3), (3, .int x13)] → k24 x23 = some r → W p l e (RM 1 0 0) s m args below meth c H locs 0 0 (MQ below (CtQ A (some (.int r)) (MX D cA A ad S)) args s 0 0 A) (F0 m 120 ls [.int x23, .int x12]) := by
                      intro x23 H locs ls hX hS hl hf
                      rw [hk24] at hf
                      refine lv_iadd hx hb dX11_manyChanges_120 ?_
                      refine lv_istore_n (lv' := [(1, .int (x12 + x23)), (0, .ref (ad 0)), (2, .int x3), (3, .int x13)]) hx hb dX11_manyChanges_121 rfl hl (by decide) rfl (fun ls hl => ?_)
                      refine lv_iinc (v := (x13 + 1)) (lv' := [(3, .int (x13 + 1)), (1, .int (x12 + x23)), (0, .ref (ad 0)), (2, .int x3)]) hx hb dX11_manyChanges_122 hl (k := 3) rfl rfl (by decide) rfl (fun ls hl => ?_)
                      refine lv_goto (tgt := 72) hx hb dX11_manyChanges_125 (by decide) ?_
                      exact ihg14 _ _ _ _ _ hX hS (lv_sub hl [2, 1, 3, 0] rfl) hf
                    refine lv_icmp_ne (tgt := 119) hx hb dX11_manyChanges_112 (by decide) (fun c25 => ?_) (fun c25 => ?_)
                    · have hf := it_f c25 hf
                      refine lv_iconst (v := 0) hx hb dX11_manyChanges_119 (by decide) ?_
                      exact Jk24 _ _ _ _ hX hS (lv_sub hl [0, 2, 3] rfl) hf
                    · have hf := it_t c25 hf
                      refine lv_iconst (v := 1) hx hb dX11_manyChanges_115 (by decide) ?_
                      refine lv_goto (tgt := 120) hx hb dX11_manyChanges_116 (by decide) ?_
                      exact Jk24 _ _ _ _ hX hS (lv_sub hl [0, 2, 3] rfl) hf
              exact Lg14 FU _ _ _ _ _ hX hS (lv_sub hl [1, 2, 3, 0] rfl) hf
            · have hf := it_f c11 hf
              refine lv_iload_n hx hb dX11_manyChanges_24 rfl (lv_at hl 1 rfl) ?_
              refine lv_aload_n hx hb dX11_manyChanges_25 rfl (lv_at hl 0 rfl) ?_
              refine mget (v := .ref (ad 29)) hx hb hC hK hX 29 (by decide) a_997 rfl dX11_manyChanges_26 ?_
              refine lv_bipush (v := 12) hx hb dX11_manyChanges_29 (by decide) ?_
              refine lv_iload_n hx hb dX11_manyChanges_31 rfl (lv_at hl 2 rfl) ?_
              refine lv_imul hx hb dX11_manyChanges_32 ?_
              refine lv_aload_n hx hb dX11_manyChanges_33 rfl (lv_at hl 0 rfl) ?_
              refine mget (v := .ref (ad 28)) hx hb hC hK hX 28 (by decide) a_996 rfl dX11_manyChanges_34 ?_
              refine lv_iload_n hx hb dX11_manyChanges_37 rfl (lv_at hl 2 rfl) ?_
              obtain ⟨h27, j26, ej26, hf⟩ := rd_e hf
              refine mald hx hb hC hK hX (by decide) h27 ej26 dX11_manyChanges_38 ?_
              refine lv_aload_n hx hb dX11_manyChanges_39 rfl (lv_at hl 0 rfl) ?_
              refine mget (v := .ref (ad 6)) hx hb hC hK hX 6 (by decide) a_974 rfl dX11_manyChanges_40 ?_
              refine lv_bipush (v := 12) hx hb dX11_manyChanges_43 (by decide) ?_
              refine lv_iload_n hx hb dX11_manyChanges_45 rfl (lv_at hl 2 rfl) ?_
              refine lv_imul hx hb dX11_manyChanges_46 ?_
              refine lv_iload_n hx hb dX11_manyChanges_47 rfl (lv_at hl 3 rfl) ?_
              refine lv_iadd hx hb dX11_manyChanges_48 ?_
              obtain ⟨h29, j28, ej28, hf⟩ := rd_e hf
              refine mald hx hb hC hK hX (by decide) h29 ej28 dX11_manyChanges_49 ?_
              obtain ⟨z30, hz30, hf⟩ := cb_e hf
              refine mSi (As := [.ref (ad 29), .int (12 * x3), .int (S.2 28 j26), .int (S.2 6 j28)]) (rest := [.int x6]) hC (c_m_placeOf (by decide) hz30) q_m_placeOf a_1121 (Nat.le_of_ble_eq_true rfl) hX hKX rfl hl.1 (Nat.le_of_ble_eq_true rfl) dX11_manyChanges_50 hS (fun H locs hX hS => ?_)
              refine lv_iconst (v := (-1)) hx hb dX11_manyChanges_53 (by decide) ?_
              obtain ⟨k32, hk32, hf⟩ := jn1_e hf
              have Jk32 : ∀ (x31 : Int32) (H : Heap) (locs : List Loc) (ls : Array Slot), MX D cA A ad S H → va_S A s.heap H locs → lv_has ls 4 [(0, .ref (ad 0)), (2, .int x3), (3, .int x7)] → k32 x31 = some r → W p l e (RM 1 0 0) s m args below meth c H locs 0 0 (MQ below (CtQ A (some (.int r)) (MX D cA A ad S)) args s 0 0 A) (F0 m 62 ls [.int x31, .int x6]) := by
                intro x31 H locs ls hX hS hl hf
                rw [hk32] at hf
                refine lv_iadd hx hb dX11_manyChanges_62 ?_
                refine lv_istore_n (lv' := [(1, .int (x6 + x31)), (0, .ref (ad 0)), (2, .int x3), (3, .int x7)]) hx hb dX11_manyChanges_63 rfl hl (by decide) rfl (fun ls hl => ?_)
                refine lv_iinc (v := (x7 + 1)) (lv' := [(3, .int (x7 + 1)), (1, .int (x6 + x31)), (0, .ref (ad 0)), (2, .int x3)]) hx hb dX11_manyChanges_64 hl (k := 3) rfl rfl (by decide) rfl (fun ls hl => ?_)
                refine lv_goto (tgt := 14) hx hb dX11_manyChanges_67 (by decide) ?_
                exact ihg8 _ _ _ _ _ hX hS (lv_sub hl [2, 1, 3, 0] rfl) hf
              refine lv_icmp_ne (tgt := 61) hx hb dX11_manyChanges_54 (by decide) (fun c33 => ?_) (fun c33 => ?_)
              · have hf := it_f c33 hf
                refine lv_iconst (v := 0) hx hb dX11_manyChanges_61 (by decide) ?_
                exact Jk32 _ _ _ _ hX hS (lv_sub hl [0, 2, 3] rfl) hf
              · have hf := it_t c33 hf
                refine lv_iconst (v := 1) hx hb dX11_manyChanges_57 (by decide) ?_
                refine lv_goto (tgt := 62) hx hb dX11_manyChanges_58 (by decide) ?_
                exact Jk32 _ _ _ _ hX hS (lv_sub hl [0, 2, 3] rfl) hf
        exact Lg8 FU _ _ _ _ _ hX hS (lv_sub hl [1, 2, 3, 0] rfl) hf
  exact Lg4 FU _ _ _ _ _ hX hS (lv_sub hl [2, 1, 0] rfl) hf

theorem q_m_changes : VWv RX11 yX11_changes cX11_changes 1 (some .int) 0 := ⟨a_1281, a_55, a_1279, a_1280, by decide +kernel⟩
set_option maxRecDepth 100000 in
set_option maxHeartbeats 4000000 in
theorem c_m_changes {l : Launch} {D : va_G} {cA : Nat → ClassId} {A : Nat → Prop} {ad : Nat → Nat}  {S : St} {r : Int32} {S' : St} (hf : m_changes S = some (r, S')) : Ct l D cA A yX11_changes cX11_changes 1 (some .int) 7 0 0 [.ref (ad 0)] (MX D cA A ad S) (some (.int r)) (MX D cA A ad S') := by
  refine Ct_of (by decide +kernel) (Nat.le_of_ble_eq_true rfl) ?_
  intro p e s m args below meth c ls hC hr hlk hnm hX hKX hl
  have hK := hKX.1
  have hx := hC.1
  have hb := hC.2.1
  have hS : va_S A s.heap s.heap [] := va_S.rf
  have hX : MX D cA A ad S s.heap := hX
  have hl : lv_has ls 1 [(0, .ref (ad 0))] := hl
  unfold m_changes at hf
  refine lv_aload_n hx hb dX11_changes_0 rfl (lv_at hl 0 rfl) ?_
  obtain ⟨z2, S3, hz2, hf⟩ := cb2_e hf
  refine mVi (As := []) (rest := []) hC (c_m_asksDraft hz2) q_m_asksDraft a_1218 (Nat.le_of_ble_eq_true rfl) hX hKX rfl hl.1 (Nat.le_of_ble_eq_true rfl) dX11_changes_1 hS (fun H locs hX hS => ?_)
  refine lv_if_ne (tgt := 9) hx hb dX11_changes_4 (by decide) (fun c4 => ?_) (fun c4 => ?_)
  · have hf := it_f c4 hf
    refine lv_aload_n hx hb dX11_changes_9 rfl (lv_at hl 0 rfl) ?_
    obtain ⟨S6, hz5, hf⟩ := cb_e hf
    refine mVv (As := []) (rest := []) hC (c_m_goes hz5) q_m_goes a_1222 (Nat.le_of_ble_eq_true rfl) hX hKX rfl hl.1 (Nat.le_of_ble_eq_true rfl) dX11_changes_10 hS (fun H locs hX hS => ?_)
    refine lv_aload_n hx hb dX11_changes_13 rfl (lv_at hl 0 rfl) ?_
    refine mget (v := .int (S6.1 25)) hx hb hC hK hX 25 (by decide) a_993 rfl dX11_changes_14 ?_
    refine lv_if_le (tgt := 24) hx hb dX11_changes_17 (by decide) (fun c7 => ?_) (fun c7 => ?_)
    · have hf := it_t c7 hf
      refine lv_aload_n hx hb dX11_changes_24 rfl (lv_at hl 0 rfl) ?_
      obtain ⟨z8, hz8, hf⟩ := cb_e hf
      refine mVi (As := []) (rest := []) hC (c_m_manyChanges hz8) q_m_manyChanges a_1282 (Nat.le_of_ble_eq_true rfl) hX hKX rfl hl.1 (Nat.le_of_ble_eq_true rfl) dX11_changes_25 hS (fun H locs hX hS => ?_)
      cases hf
      exact Ct_ri hx hb hr hlk hX hS dX11_changes_28
    · have hf := it_f c7 hf
      refine lv_iconst (v := (-1)) hx hb dX11_changes_20 (by decide) ?_
      refine lv_goto (tgt := 28) hx hb dX11_changes_21 (by decide) ?_
      cases hf
      exact Ct_ri hx hb hr hlk hX hS dX11_changes_28
  · have hf := it_t c4 hf
    refine lv_iconst (v := 0) hx hb dX11_changes_7 (by decide) ?_
    cases hf
    exact Ct_ri hx hb hr hlk hX hS dX11_changes_8

theorem q_m_tableOf : VWv RX11 yX11_tableOf cX11_tableOf 2 (some .int) 1 := ⟨a_1297, a_55, a_1296, a_44, by decide +kernel⟩
set_option maxRecDepth 100000 in
set_option maxHeartbeats 4000000 in
theorem c_m_tableOf {l : Launch} {D : va_G} {cA : Nat → ClassId} {A : Nat → Prop} {ad : Nat → Nat} {x1 : Int32} {S : St} {r : Int32} (hf : m_tableOf x1 S = some r) : Ct l D cA A yX11_tableOf cX11_tableOf 2 (some .int) 0 0 0 [.ref (ad 0), .int x1] (MX D cA A ad S) (some (.int r)) (MX D cA A ad S) := by
  refine Ct_of (by decide +kernel) (Nat.le_of_ble_eq_true rfl) ?_
  intro p e s m args below meth c ls hC hr hlk hnm hX hKX hl
  have hK := hKX.1
  have hx := hC.1
  have hb := hC.2.1
  have hS : va_S A s.heap s.heap [] := va_S.rf
  have hX : MX D cA A ad S s.heap := hX
  have hl : lv_has ls 2 [(0, .ref (ad 0)), (1, .int x1)] := hl
  unfold m_tableOf at hf
  refine lv_aload_n hx hb dX11_tableOf_0 rfl (lv_at hl 0 rfl) ?_
  refine mget (v := .ref (ad 16)) hx hb hC hK hX 16 (by decide) a_984 rfl dX11_tableOf_1 ?_
  refine lv_iload_n hx hb dX11_tableOf_4 rfl (lv_at hl 1 rfl) ?_
  obtain ⟨h4, j3, ej3, hf⟩ := rd_e hf
  refine mald hx hb hC hK hX (by decide) h4 ej3 dX11_tableOf_5 ?_
  refine lv_iconst (v := 1) hx hb dX11_tableOf_6 (by decide) ?_
  refine lv_icmp_ne (tgt := 14) hx hb dX11_tableOf_7 (by decide) (fun c5 => ?_) (fun c5 => ?_)
  · have hf := it_f c5 hf
    refine lv_aload_n hx hb dX11_tableOf_14 rfl (lv_at hl 0 rfl) ?_
    refine mget (v := .ref (ad 16)) hx hb hC hK hX 16 (by decide) a_984 rfl dX11_tableOf_15 ?_
    refine lv_iload_n hx hb dX11_tableOf_18 rfl (lv_at hl 1 rfl) ?_
    obtain ⟨h7, j6, ej6, hf⟩ := rd_e hf
    refine mald hx hb hC hK hX (by decide) h7 ej6 dX11_tableOf_19 ?_
    refine lv_iconst (v := 2) hx hb dX11_tableOf_20 (by decide) ?_
    refine lv_icmp_ne (tgt := 28) hx hb dX11_tableOf_21 (by decide) (fun c8 => ?_) (fun c8 => ?_)
    · have hf := it_f c8 hf
      refine lv_aload_n hx hb dX11_tableOf_28 rfl (lv_at hl 0 rfl) ?_
      refine mget (v := .ref (ad 16)) hx hb hC hK hX 16 (by decide) a_984 rfl dX11_tableOf_29 ?_
      refine lv_iload_n hx hb dX11_tableOf_32 rfl (lv_at hl 1 rfl) ?_
      obtain ⟨h10, j9, ej9, hf⟩ := rd_e hf
      refine mald hx hb hC hK hX (by decide) h10 ej9 dX11_tableOf_33 ?_
      refine lv_iconst (v := 4) hx hb dX11_tableOf_34 (by decide) ?_
      refine lv_icmp_ne (tgt := 42) hx hb dX11_tableOf_35 (by decide) (fun c11 => ?_) (fun c11 => ?_)
      · have hf := it_f c11 hf
        refine lv_iconst (v := (-1)) hx hb dX11_tableOf_42 (by decide) ?_
        cases hf
        exact Ct_ri hx hb hr hlk hX hS dX11_tableOf_43
      · have hf := it_t c11 hf
        refine lv_iconst (v := 2) hx hb dX11_tableOf_38 (by decide) ?_
        refine lv_goto (tgt := 43) hx hb dX11_tableOf_39 (by decide) ?_
        cases hf
        exact Ct_ri hx hb hr hlk hX hS dX11_tableOf_43
    · have hf := it_t c8 hf
      refine lv_iconst (v := 1) hx hb dX11_tableOf_24 (by decide) ?_
      refine lv_goto (tgt := 43) hx hb dX11_tableOf_25 (by decide) ?_
      cases hf
      exact Ct_ri hx hb hr hlk hX hS dX11_tableOf_43
  · have hf := it_t c5 hf
    refine lv_iconst (v := 0) hx hb dX11_tableOf_10 (by decide) ?_
    refine lv_goto (tgt := 43) hx hb dX11_tableOf_11 (by decide) ?_
    cases hf
    exact Ct_ri hx hb hr hlk hX hS dX11_tableOf_43

theorem q_m_count : VWs yX11_count cX11_count 3 (some .int) 1 := ⟨a_1300, a_55, a_1299, by decide +kernel⟩
set_option maxRecDepth 100000 in
set_option maxHeartbeats 4000000 in
theorem c_m_count {l : Launch} {D : va_G} {cA : Nat → ClassId} {A : Nat → Prop} {ad : Nat → Nat} {x1 : Int32} {S : St} {r : Int32} (hf : m_count x1 = some r) : Ct l D cA A yX11_count cX11_count 3 (some .int) 0 0 0 [.int x1] (MX D cA A ad S) (some (.int r)) (MX D cA A ad S) := by
  refine Ct_of (by decide +kernel) (Nat.le_of_ble_eq_true rfl) ?_
  intro p e s m args below meth c ls hC hr hlk hnm hX hKX hl
  have hK := hKX.1
  have hx := hC.1
  have hb := hC.2.1
  have hS : va_S A s.heap s.heap [] := va_S.rf
  have hX : MX D cA A ad S s.heap := hX
  have hl : lv_has ls 3 [(0, .int x1)] := hl
  unfold m_count at hf
  refine lv_iconst (v := 0) hx hb dX11_count_0 (by decide) ?_
  refine lv_istore_n (lv' := [(1, .int 0), (0, .int x1)]) hx hb dX11_count_1 rfl hl (by decide) rfl (fun ls hl => ?_)
  refine lv_iload_n hx hb dX11_count_2 rfl (lv_at hl 1 rfl) ?_
  refine lv_istore_n (lv' := [(2, .int x1), (1, .int 0), (0, .int x1)]) hx hb dX11_count_3 rfl hl (by decide) rfl (fun ls hl => ?_)
  obtain ⟨g5, g50, g5s, hf⟩ := lp2_e hf
  have Lg5 : ∀ (n : Nat) (x3 : Int32) (x4 : Int32) (H : Heap) (locs : List Loc) (ls : Array Slot), MX D cA A ad S H → va_S A s.heap H locs → lv_has ls 3 [(1, .int x3), (2, .int x4)] → g5 n x3 x4 = some r → W p l e (RM 0 0 0) s m args below meth c H locs 0 0 (MQ below (CtQ A (some (.int r)) (MX D cA A ad S)) args s 0 0 A) (F0 m 4 ls []) := by
    intro n
    induction n with
    | zero => intro x3 x4 H locs ls hX hS hl hf; rw [g50] at hf; cases hf
    | succ n ihg5 =>
      intro x3 x4 H locs ls hX hS hl hf
      rw [g5s] at hf
      refine lv_iload_n hx hb dX11_count_4 rfl (lv_at hl 1 rfl) ?_
      refine lv_if_le (tgt := 21) hx hb dX11_count_5 (by decide) (fun c6 => ?_) (fun c6 => ?_)
      · have hf := it_t c6 hf
        refine lv_iload_n hx hb dX11_count_21 rfl (lv_at hl 0 rfl) ?_
        cases hf
        exact Ct_ri hx hb hr hlk hX hS dX11_count_22
      · have hf := it_f c6 hf
        refine lv_iload_n hx hb dX11_count_8 rfl (lv_at hl 0 rfl) ?_
        refine lv_iload_n hx hb dX11_count_9 rfl (lv_at hl 1 rfl) ?_
        refine lv_iconst (v := 2) hx hb dX11_count_10 (by decide) ?_
        have h7 : ¬ (2 : Int32) = 0 := by decide
        refine lv_irem hx hb dX11_count_11 h7 ?_
        refine lv_iadd hx hb dX11_count_12 ?_
        refine lv_istore_n (lv' := [(1, .int (x3 + (x4 - x4 / 2 * 2))), (2, .int x4)]) hx hb dX11_count_13 rfl hl (by decide) rfl (fun ls hl => ?_)
        refine lv_iload_n hx hb dX11_count_14 rfl (lv_at hl 1 rfl) ?_
        refine lv_iconst (v := 2) hx hb dX11_count_15 (by decide) ?_
        have h8 : ¬ (2 : Int32) = 0 := by decide
        refine lv_idiv hx hb dX11_count_16 h8 ?_
        refine lv_istore_n (lv' := [(2, .int (x4 / 2)), (1, .int (x3 + (x4 - x4 / 2 * 2)))]) hx hb dX11_count_17 rfl hl (by decide) rfl (fun ls hl => ?_)
        refine lv_goto (tgt := 4) hx hb dX11_count_18 (by decide) ?_
        exact ihg5 _ _ _ _ _ hX hS (lv_sub hl [1, 0] rfl) hf
  exact Lg5 FU _ _ _ _ _ hX hS (lv_sub hl [1, 0] rfl) hf

theorem q_m_canTry : VWv RX11 yX11_canTry cX11_canTry 5 (some .boolean) 0 := ⟨a_1293, a_55, a_1292, a_43, by decide +kernel⟩
set_option maxRecDepth 100000 in
set_option maxHeartbeats 4000000 in
theorem c_m_canTry {l : Launch} {D : va_G} {cA : Nat → ClassId} {A : Nat → Prop} {ad : Nat → Nat}  {S : St} {r : Int32} (hf : m_canTry S = some r) : Ct l D cA A yX11_canTry cX11_canTry 5 (some .boolean) 1 0 0 [.ref (ad 0)] (MX D cA A ad S) (some (.int r)) (MX D cA A ad S) := by
  refine Ct_of (by decide +kernel) (Nat.le_of_ble_eq_true rfl) ?_
  intro p e s m args below meth c ls hC hr hlk hnm hX hKX hl
  have hK := hKX.1
  have hx := hC.1
  have hb := hC.2.1
  have hS : va_S A s.heap s.heap [] := va_S.rf
  have hX : MX D cA A ad S s.heap := hX
  have hl : lv_has ls 5 [(0, .ref (ad 0))] := hl
  unfold m_canTry at hf
  refine lv_aload_n hx hb dX11_canTry_0 rfl (lv_at hl 0 rfl) ?_
  refine lv_aload_n hx hb dX11_canTry_1 rfl (lv_at hl 0 rfl) ?_
  refine mget (v := .int (S.1 22)) hx hb hC hK hX 22 (by decide) a_990 rfl dX11_canTry_2 ?_
  obtain ⟨z2, hz2, hf⟩ := cb_e hf
  refine mVi (As := [.int (S.1 22)]) (rest := []) hC (c_m_tableOf hz2) q_m_tableOf a_1294 (Nat.le_of_ble_eq_true rfl) hX hKX rfl hl.1 (Nat.le_of_ble_eq_true rfl) dX11_canTry_5 hS (fun H locs hX hS => ?_)
  refine lv_istore_n (lv' := [(1, .int z2), (0, .ref (ad 0))]) hx hb dX11_canTry_8 rfl hl (by decide) rfl (fun ls hl => ?_)
  refine lv_iload_n hx hb dX11_canTry_9 rfl (lv_at hl 0 rfl) ?_
  refine lv_iconst (v := (-1)) hx hb dX11_canTry_10 (by decide) ?_
  obtain ⟨k3, hk3, hf⟩ := jn0_e hf
  have Jk3 : ∀  (H : Heap) (locs : List Loc) (ls : Array Slot), MX D cA A ad S H → va_S A s.heap H locs → lv_has ls 5 [(0, .ref (ad 0)), (1, .int z2)] → k3 = some r → W p l e (RM 1 0 0) s m args below meth c H locs 0 0 (MQ below (CtQ A (some (.int r)) (MX D cA A ad S)) args s 0 0 A) (F0 m 31 ls []) := by
    intro  H locs ls hX hS hl hf
    rw [hk3] at hf
    refine lv_iconst (v := 0) hx hb dX11_canTry_31 (by decide) ?_
    refine lv_istore_n (lv' := [(2, .int 0), (0, .ref (ad 0)), (1, .int z2)]) hx hb dX11_canTry_32 rfl hl (by decide) rfl (fun ls hl => ?_)
    refine lv_iconst (v := 0) hx hb dX11_canTry_33 (by decide) ?_
    refine lv_istore_n (lv' := [(3, .int 0), (2, .int 0), (0, .ref (ad 0)), (1, .int z2)]) hx hb dX11_canTry_34 rfl hl (by decide) rfl (fun ls hl => ?_)
    obtain ⟨g6, g60, g6s, hf⟩ := lp2_e hf
    have Lg6 : ∀ (n : Nat) (x4 : Int32) (x5 : Int32) (H : Heap) (locs : List Loc) (ls : Array Slot), MX D cA A ad S H → va_S A s.heap H locs → lv_has ls 5 [(0, .ref (ad 0)), (1, .int z2), (2, .int x4), (3, .int x5)] → g6 n x4 x5 = some r → W p l e (RM 1 0 0) s m args below meth c H locs 0 0 (MQ below (CtQ A (some (.int r)) (MX D cA A ad S)) args s 0 0 A) (F0 m 35 ls []) := by
      intro n
      induction n with
      | zero => intro x4 x5 H locs ls hX hS hl hf; rw [g60] at hf; cases hf
      | succ n ihg6 =>
        intro x4 x5 H locs ls hX hS hl hf
        rw [g6s] at hf
        refine lv_iload_n hx hb dX11_canTry_35 rfl (lv_at hl 2 rfl) ?_
        refine lv_if_eq (tgt := 102) hx hb dX11_canTry_36 (by decide) (fun c7 => ?_) (fun c7 => ?_)
        · have hf := it_t c7 hf
          refine lv_iload_n hx hb dX11_canTry_102 rfl (lv_at hl 2 rfl) ?_
          obtain ⟨h8, hf⟩ := gd_e hf
          cases hf
          exact Ct_rz hx hb hr hlk (nz01 h8) hX hS dX11_canTry_103
        · have hf := it_f c7 hf
          refine lv_iload_n hx hb dX11_canTry_39 rfl (lv_at hl 3 rfl) ?_
          refine lv_aload_n hx hb dX11_canTry_40 rfl (lv_at hl 0 rfl) ?_
          refine mget (v := .ref (ad 5)) hx hb hC hK hX 5 (by decide) a_973 rfl dX11_canTry_41 ?_
          refine lv_iload_n hx hb dX11_canTry_44 rfl (lv_at hl 1 rfl) ?_
          obtain ⟨h10, j9, ej9, hf⟩ := rd_e hf
          refine mald hx hb hC hK hX (by decide) h10 ej9 dX11_canTry_45 ?_
          refine lv_icmp_ge (tgt := 102) hx hb dX11_canTry_46 (by decide) (fun c11 => ?_) (fun c11 => ?_)
          · have hf := it_t c11 hf
            refine lv_iload_n hx hb dX11_canTry_102 rfl (lv_at hl 2 rfl) ?_
            obtain ⟨h12, hf⟩ := gd_e hf
            cases hf
            exact Ct_rz hx hb hr hlk (nz01 h12) hX hS dX11_canTry_103
          · have hf := it_f c11 hf
            refine lv_iconst (v := 0) hx hb dX11_canTry_49 (by decide) ?_
            refine lv_istore (lv' := [(4, .int 0), (0, .ref (ad 0)), (1, .int z2), (2, .int x4), (3, .int x5)]) hx hb dX11_canTry_50 hl (by decide) rfl (fun ls hl => ?_)
            obtain ⟨g15, g150, g15s, hf⟩ := lp2_e hf
            have Lg15 : ∀ (n : Nat) (x13 : Int32) (x14 : Int32) (H : Heap) (locs : List Loc) (ls : Array Slot), MX D cA A ad S H → va_S A s.heap H locs → lv_has ls 5 [(0, .ref (ad 0)), (1, .int z2), (2, .int x13), (3, .int x5), (4, .int x14)] → g15 n x13 x14 = some r → W p l e (RM 1 0 0) s m args below meth c H locs 0 0 (MQ below (CtQ A (some (.int r)) (MX D cA A ad S)) args s 0 0 A) (F0 m 52 ls []) := by
              intro n
              induction n with
              | zero => intro x13 x14 H locs ls hX hS hl hf; rw [g150] at hf; cases hf
              | succ n ihg15 =>
                intro x13 x14 H locs ls hX hS hl hf
                rw [g15s] at hf
                refine lv_iload hx hb dX11_canTry_52 (lv_at hl 4 rfl) ?_
                refine lv_bipush (v := 6) hx hb dX11_canTry_54 (by decide) ?_
                refine lv_icmp_ge (tgt := 96) hx hb dX11_canTry_56 (by decide) (fun c16 => ?_) (fun c16 => ?_)
                · have hf := it_t c16 hf
                  refine lv_iinc (v := (x5 + 1)) (lv' := [(3, .int (x5 + 1)), (0, .ref (ad 0)), (1, .int z2), (2, .int x13), (4, .int x14)]) hx hb dX11_canTry_96 hl (k := 3) rfl rfl (by decide) rfl (fun ls hl => ?_)
                  refine lv_goto (tgt := 35) hx hb dX11_canTry_99 (by decide) ?_
                  exact ihg6 _ _ _ _ _ hX hS (lv_sub hl [1, 2, 3, 0] rfl) hf
                · have hf := it_f c16 hf
                  refine lv_iload_n hx hb dX11_canTry_59 rfl (lv_at hl 2 rfl) ?_
                  obtain ⟨k17, hk17, hf⟩ := jn0_e hf
                  have Jk17 : ∀  (H : Heap) (locs : List Loc) (ls : Array Slot), MX D cA A ad S H → va_S A s.heap H locs → lv_has ls 5 [(0, .ref (ad 0)), (1, .int z2), (3, .int x5), (4, .int x14)] → k17 = some r → W p l e (RM 1 0 0) s m args below meth c H locs 0 0 (MQ below (CtQ A (some (.int r)) (MX D cA A ad S)) args s 0 0 A) (F0 m 88 ls []) := by
                    intro  H locs ls hX hS hl hf
                    rw [hk17] at hf
                    refine lv_iconst (v := 0) hx hb dX11_canTry_88 (by decide) ?_
                    refine lv_istore_n (lv' := [(2, .int 0), (0, .ref (ad 0)), (1, .int z2), (3, .int x5), (4, .int x14)]) hx hb dX11_canTry_89 rfl hl (by decide) rfl (fun ls hl => ?_)
                    refine lv_iinc (v := (x14 + 1)) (lv' := [(4, .int (x14 + 1)), (2, .int 0), (0, .ref (ad 0)), (1, .int z2), (3, .int x5)]) hx hb dX11_canTry_90 hl (k := 4) rfl rfl (by decide) rfl (fun ls hl => ?_)
                    refine lv_goto (tgt := 52) hx hb dX11_canTry_93 (by decide) ?_
                    exact ihg15 _ _ _ _ _ hX hS (lv_sub hl [2, 3, 1, 4, 0] rfl) hf
                  refine lv_if_eq (tgt := 88) hx hb dX11_canTry_60 (by decide) (fun c18 => ?_) (fun c18 => ?_)
                  · have hf := it_t c18 hf
                    exact Jk17 _ _ _ hX hS (lv_sub hl [0, 1, 3, 4] rfl) hf
                  · have hf := it_f c18 hf
                    refine lv_aload_n hx hb dX11_canTry_63 rfl (lv_at hl 0 rfl) ?_
                    refine lv_aload_n hx hb dX11_canTry_64 rfl (lv_at hl 0 rfl) ?_
                    refine mget (v := .ref (ad 6)) hx hb hC hK hX 6 (by decide) a_974 rfl dX11_canTry_65 ?_
                    refine lv_bipush (v := 12) hx hb dX11_canTry_68 (by decide) ?_
                    refine lv_iload_n hx hb dX11_canTry_70 rfl (lv_at hl 1 rfl) ?_
                    refine lv_imul hx hb dX11_canTry_71 ?_
                    refine lv_iload_n hx hb dX11_canTry_72 rfl (lv_at hl 3 rfl) ?_
                    refine lv_iadd hx hb dX11_canTry_73 ?_
                    obtain ⟨h20, j19, ej19, hf⟩ := rd_e hf
                    refine mald hx hb hC hK hX (by decide) h20 ej19 dX11_canTry_74 ?_
                    refine lv_iload hx hb dX11_canTry_75 (lv_at hl 4 rfl) ?_
                    obtain ⟨z21, hz21, hf⟩ := cb_e hf
                    refine mVi (As := [.int (S.2 6 j19), .int x14]) (rest := []) hC (c_m_digit hz21) q_m_digit a_1106 (Nat.le_of_ble_eq_true rfl) hX hKX rfl hl.1 (Nat.le_of_ble_eq_true rfl) dX11_canTry_77 hS (fun H locs hX hS => ?_)
                    refine lv_iconst (v := 2) hx hb dX11_canTry_80 (by decide) ?_
                    refine lv_icmp_gt (tgt := 88) hx hb dX11_canTry_81 (by decide) (fun c22 => ?_) (fun c22 => ?_)
                    · have hf := it_t c22 hf
                      exact Jk17 _ _ _ hX hS (lv_sub hl [0, 1, 3, 4] rfl) hf
                    · have hf := it_f c22 hf
                      refine lv_iconst (v := 1) hx hb dX11_canTry_84 (by decide) ?_
                      refine lv_goto (tgt := 89) hx hb dX11_canTry_85 (by decide) ?_
                      refine lv_istore_n (lv' := [(2, .int 1), (0, .ref (ad 0)), (1, .int z2), (3, .int x5), (4, .int x14)]) hx hb dX11_canTry_89 rfl hl (by decide) rfl (fun ls hl => ?_)
                      refine lv_iinc (v := (x14 + 1)) (lv' := [(4, .int (x14 + 1)), (2, .int 1), (0, .ref (ad 0)), (1, .int z2), (3, .int x5)]) hx hb dX11_canTry_90 hl (k := 4) rfl rfl (by decide) rfl (fun ls hl => ?_)
                      refine lv_goto (tgt := 52) hx hb dX11_canTry_93 (by decide) ?_
                      exact ihg15 _ _ _ _ _ hX hS (lv_sub hl [2, 3, 1, 4, 0] rfl) hf
            exact Lg15 FU _ _ _ _ _ hX hS (lv_sub hl [1, 2, 3, 4, 0] rfl) hf
    exact Lg6 FU _ _ _ _ _ hX hS (lv_sub hl [2, 3, 1, 0] rfl) hf
  refine lv_icmp_eq (tgt := 31) hx hb dX11_canTry_11 (by decide) (fun c23 => ?_) (fun c23 => ?_)
  · have hf := it_t c23 hf
    exact Jk3 _ _ _ hX hS (lv_sub hl [1, 0] rfl) hf
  · have hf := it_f c23 hf
    refine lv_aload_n hx hb dX11_canTry_14 rfl (lv_at hl 1 rfl) ?_
    refine mget (v := .ref (ad 3)) hx hb hC hK hX 3 (by decide) a_971 rfl dX11_canTry_15 ?_
    refine lv_iload_n hx hb dX11_canTry_18 rfl (lv_at hl 0 rfl) ?_
    obtain ⟨h25, j24, ej24, hf⟩ := rd_e hf
    refine mald hx hb hC hK hX (by decide) h25 ej24 dX11_canTry_19 ?_
    obtain ⟨z26, hz26, hf⟩ := cb_e hf
    refine mSi (As := [.int (S.2 3 j24)]) (rest := []) hC (c_m_count hz26) q_m_count a_1298 (Nat.le_of_ble_eq_true rfl) hX hKX rfl hl.1 (Nat.le_of_ble_eq_true rfl) dX11_canTry_20 hS (fun H locs hX hS => ?_)
    refine lv_iconst (v := 2) hx hb dX11_canTry_23 (by decide) ?_
    refine lv_icmp_gt (tgt := 31) hx hb dX11_canTry_24 (by decide) (fun c27 => ?_) (fun c27 => ?_)
    · have hf := it_t c27 hf
      exact Jk3 _ _ _ hX hS (lv_sub hl [1, 0] rfl) hf
    · have hf := it_f c27 hf
      refine lv_iconst (v := 1) hx hb dX11_canTry_27 (by decide) ?_
      refine lv_goto (tgt := 32) hx hb dX11_canTry_28 (by decide) ?_
      refine lv_istore_n (lv' := [(2, .int 1), (1, .int z2), (0, .ref (ad 0))]) hx hb dX11_canTry_32 rfl hl (by decide) rfl (fun ls hl => ?_)
      refine lv_iconst (v := 0) hx hb dX11_canTry_33 (by decide) ?_
      refine lv_istore_n (lv' := [(3, .int 0), (2, .int 1), (1, .int z2), (0, .ref (ad 0))]) hx hb dX11_canTry_34 rfl hl (by decide) rfl (fun ls hl => ?_)
      obtain ⟨g30, g300, g30s, hf⟩ := lp2_e hf
      have Lg30 : ∀ (n : Nat) (x28 : Int32) (x29 : Int32) (H : Heap) (locs : List Loc) (ls : Array Slot), MX D cA A ad S H → va_S A s.heap H locs → lv_has ls 5 [(0, .ref (ad 0)), (1, .int z2), (2, .int x28), (3, .int x29)] → g30 n x28 x29 = some r → W p l e (RM 1 0 0) s m args below meth c H locs 0 0 (MQ below (CtQ A (some (.int r)) (MX D cA A ad S)) args s 0 0 A) (F0 m 35 ls []) := by
        intro n
        induction n with
        | zero => intro x28 x29 H locs ls hX hS hl hf; rw [g300] at hf; cases hf
        | succ n ihg30 =>
          intro x28 x29 H locs ls hX hS hl hf
          rw [g30s] at hf
          refine lv_iload_n hx hb dX11_canTry_35 rfl (lv_at hl 2 rfl) ?_
          refine lv_if_eq (tgt := 102) hx hb dX11_canTry_36 (by decide) (fun c31 => ?_) (fun c31 => ?_)
          · have hf := it_t c31 hf
            refine lv_iload_n hx hb dX11_canTry_102 rfl (lv_at hl 2 rfl) ?_
            obtain ⟨h32, hf⟩ := gd_e hf
            cases hf
            exact Ct_rz hx hb hr hlk (nz01 h32) hX hS dX11_canTry_103
          · have hf := it_f c31 hf
            refine lv_iload_n hx hb dX11_canTry_39 rfl (lv_at hl 3 rfl) ?_
            refine lv_aload_n hx hb dX11_canTry_40 rfl (lv_at hl 0 rfl) ?_
            refine mget (v := .ref (ad 5)) hx hb hC hK hX 5 (by decide) a_973 rfl dX11_canTry_41 ?_
            refine lv_iload_n hx hb dX11_canTry_44 rfl (lv_at hl 1 rfl) ?_
            obtain ⟨h34, j33, ej33, hf⟩ := rd_e hf
            refine mald hx hb hC hK hX (by decide) h34 ej33 dX11_canTry_45 ?_
            refine lv_icmp_ge (tgt := 102) hx hb dX11_canTry_46 (by decide) (fun c35 => ?_) (fun c35 => ?_)
            · have hf := it_t c35 hf
              refine lv_iload_n hx hb dX11_canTry_102 rfl (lv_at hl 2 rfl) ?_
              obtain ⟨h36, hf⟩ := gd_e hf
              cases hf
              exact Ct_rz hx hb hr hlk (nz01 h36) hX hS dX11_canTry_103
            · have hf := it_f c35 hf
              refine lv_iconst (v := 0) hx hb dX11_canTry_49 (by decide) ?_
              refine lv_istore (lv' := [(4, .int 0), (0, .ref (ad 0)), (1, .int z2), (2, .int x28), (3, .int x29)]) hx hb dX11_canTry_50 hl (by decide) rfl (fun ls hl => ?_)
              obtain ⟨g39, g390, g39s, hf⟩ := lp2_e hf
              have Lg39 : ∀ (n : Nat) (x37 : Int32) (x38 : Int32) (H : Heap) (locs : List Loc) (ls : Array Slot), MX D cA A ad S H → va_S A s.heap H locs → lv_has ls 5 [(0, .ref (ad 0)), (1, .int z2), (2, .int x37), (3, .int x29), (4, .int x38)] → g39 n x37 x38 = some r → W p l e (RM 1 0 0) s m args below meth c H locs 0 0 (MQ below (CtQ A (some (.int r)) (MX D cA A ad S)) args s 0 0 A) (F0 m 52 ls []) := by
                intro n
                induction n with
                | zero => intro x37 x38 H locs ls hX hS hl hf; rw [g390] at hf; cases hf
                | succ n ihg39 =>
                  intro x37 x38 H locs ls hX hS hl hf
                  rw [g39s] at hf
                  refine lv_iload hx hb dX11_canTry_52 (lv_at hl 4 rfl) ?_
                  refine lv_bipush (v := 6) hx hb dX11_canTry_54 (by decide) ?_
                  refine lv_icmp_ge (tgt := 96) hx hb dX11_canTry_56 (by decide) (fun c40 => ?_) (fun c40 => ?_)
                  · have hf := it_t c40 hf
                    refine lv_iinc (v := (x29 + 1)) (lv' := [(3, .int (x29 + 1)), (0, .ref (ad 0)), (1, .int z2), (2, .int x37), (4, .int x38)]) hx hb dX11_canTry_96 hl (k := 3) rfl rfl (by decide) rfl (fun ls hl => ?_)
                    refine lv_goto (tgt := 35) hx hb dX11_canTry_99 (by decide) ?_
                    exact ihg30 _ _ _ _ _ hX hS (lv_sub hl [1, 2, 3, 0] rfl) hf
                  · have hf := it_f c40 hf
                    refine lv_iload_n hx hb dX11_canTry_59 rfl (lv_at hl 2 rfl) ?_
                    obtain ⟨k41, hk41, hf⟩ := jn0_e hf
                    have Jk41 : ∀  (H : Heap) (locs : List Loc) (ls : Array Slot), MX D cA A ad S H → va_S A s.heap H locs → lv_has ls 5 [(0, .ref (ad 0)), (1, .int z2), (3, .int x29), (4, .int x38)] → k41 = some r → W p l e (RM 1 0 0) s m args below meth c H locs 0 0 (MQ below (CtQ A (some (.int r)) (MX D cA A ad S)) args s 0 0 A) (F0 m 88 ls []) := by
                      intro  H locs ls hX hS hl hf
                      rw [hk41] at hf
                      refine lv_iconst (v := 0) hx hb dX11_canTry_88 (by decide) ?_
                      refine lv_istore_n (lv' := [(2, .int 0), (0, .ref (ad 0)), (1, .int z2), (3, .int x29), (4, .int x38)]) hx hb dX11_canTry_89 rfl hl (by decide) rfl (fun ls hl => ?_)
                      refine lv_iinc (v := (x38 + 1)) (lv' := [(4, .int (x38 + 1)), (2, .int 0), (0, .ref (ad 0)), (1, .int z2), (3, .int x29)]) hx hb dX11_canTry_90 hl (k := 4) rfl rfl (by decide) rfl (fun ls hl => ?_)
                      refine lv_goto (tgt := 52) hx hb dX11_canTry_93 (by decide) ?_
                      exact ihg39 _ _ _ _ _ hX hS (lv_sub hl [2, 3, 1, 4, 0] rfl) hf
                    refine lv_if_eq (tgt := 88) hx hb dX11_canTry_60 (by decide) (fun c42 => ?_) (fun c42 => ?_)
                    · have hf := it_t c42 hf
                      exact Jk41 _ _ _ hX hS (lv_sub hl [0, 1, 3, 4] rfl) hf
                    · have hf := it_f c42 hf
                      refine lv_aload_n hx hb dX11_canTry_63 rfl (lv_at hl 0 rfl) ?_
                      refine lv_aload_n hx hb dX11_canTry_64 rfl (lv_at hl 0 rfl) ?_
                      refine mget (v := .ref (ad 6)) hx hb hC hK hX 6 (by decide) a_974 rfl dX11_canTry_65 ?_
                      refine lv_bipush (v := 12) hx hb dX11_canTry_68 (by decide) ?_
                      refine lv_iload_n hx hb dX11_canTry_70 rfl (lv_at hl 1 rfl) ?_
                      refine lv_imul hx hb dX11_canTry_71 ?_
                      refine lv_iload_n hx hb dX11_canTry_72 rfl (lv_at hl 3 rfl) ?_
                      refine lv_iadd hx hb dX11_canTry_73 ?_
                      obtain ⟨h44, j43, ej43, hf⟩ := rd_e hf
                      refine mald hx hb hC hK hX (by decide) h44 ej43 dX11_canTry_74 ?_
                      refine lv_iload hx hb dX11_canTry_75 (lv_at hl 4 rfl) ?_
                      obtain ⟨z45, hz45, hf⟩ := cb_e hf
                      refine mVi (As := [.int (S.2 6 j43), .int x38]) (rest := []) hC (c_m_digit hz45) q_m_digit a_1106 (Nat.le_of_ble_eq_true rfl) hX hKX rfl hl.1 (Nat.le_of_ble_eq_true rfl) dX11_canTry_77 hS (fun H locs hX hS => ?_)
                      refine lv_iconst (v := 2) hx hb dX11_canTry_80 (by decide) ?_
                      refine lv_icmp_gt (tgt := 88) hx hb dX11_canTry_81 (by decide) (fun c46 => ?_) (fun c46 => ?_)
                      · have hf := it_t c46 hf
                        exact Jk41 _ _ _ hX hS (lv_sub hl [0, 1, 3, 4] rfl) hf
                      · have hf := it_f c46 hf
                        refine lv_iconst (v := 1) hx hb dX11_canTry_84 (by decide) ?_
                        refine lv_goto (tgt := 89) hx hb dX11_canTry_85 (by decide) ?_
                        refine lv_istore_n (lv' := [(2, .int 1), (0, .ref (ad 0)), (1, .int z2), (3, .int x29), (4, .int x38)]) hx hb dX11_canTry_89 rfl hl (by decide) rfl (fun ls hl => ?_)
                        refine lv_iinc (v := (x38 + 1)) (lv' := [(4, .int (x38 + 1)), (2, .int 1), (0, .ref (ad 0)), (1, .int z2), (3, .int x29)]) hx hb dX11_canTry_90 hl (k := 4) rfl rfl (by decide) rfl (fun ls hl => ?_)
                        refine lv_goto (tgt := 52) hx hb dX11_canTry_93 (by decide) ?_
                        exact ihg39 _ _ _ _ _ hX hS (lv_sub hl [2, 3, 1, 4, 0] rfl) hf
              exact Lg39 FU _ _ _ _ _ hX hS (lv_sub hl [1, 2, 3, 4, 0] rfl) hf
      exact Lg30 FU _ _ _ _ _ hX hS (lv_sub hl [3, 2, 1, 0] rfl) hf

theorem q_m_rowBy : VWv RX11 yX11_rowBy cX11_rowBy 6 (some .int) 2 := ⟨a_1308, a_55, a_1307, a_46, by decide +kernel⟩
set_option maxRecDepth 100000 in
set_option maxHeartbeats 4000000 in
theorem c_m_rowBy {l : Launch} {D : va_G} {cA : Nat → ClassId} {A : Nat → Prop} {ad : Nat → Nat} {x1 : Int32} {x2 : Int32} {S : St} {r : Int32} (hf : m_rowBy x1 x2 S = some r) : Ct l D cA A yX11_rowBy cX11_rowBy 6 (some .int) 0 0 0 [.ref (ad 0), .int x1, .int x2] (MX D cA A ad S) (some (.int r)) (MX D cA A ad S) := by
  refine Ct_of (by decide +kernel) (Nat.le_of_ble_eq_true rfl) ?_
  intro p e s m args below meth c ls hC hr hlk hnm hX hKX hl
  have hK := hKX.1
  have hx := hC.1
  have hb := hC.2.1
  have hS : va_S A s.heap s.heap [] := va_S.rf
  have hX : MX D cA A ad S s.heap := hX
  have hl : lv_has ls 6 [(0, .ref (ad 0)), (1, .int x1), (2, .int x2)] := hl
  unfold m_rowBy at hf
  refine lv_iload_n hx hb dX11_rowBy_0 rfl (lv_at hl 2 rfl) ?_
  refine lv_istore_n (lv' := [(3, .int x2), (0, .ref (ad 0)), (1, .int x1), (2, .int x2)]) hx hb dX11_rowBy_1 rfl hl (by decide) rfl (fun ls hl => ?_)
  refine lv_iconst (v := 0) hx hb dX11_rowBy_2 (by decide) ?_
  refine lv_istore (lv' := [(4, .int 0), (3, .int x2), (0, .ref (ad 0)), (1, .int x1), (2, .int x2)]) hx hb dX11_rowBy_3 hl (by decide) rfl (fun ls hl => ?_)
  refine lv_iconst (v := 0) hx hb dX11_rowBy_5 (by decide) ?_
  refine lv_istore (lv' := [(5, .int 0), (4, .int 0), (3, .int x2), (0, .ref (ad 0)), (1, .int x1), (2, .int x2)]) hx hb dX11_rowBy_6 hl (by decide) rfl (fun ls hl => ?_)
  obtain ⟨g7, g70, g7s, hf⟩ := lp3_e hf
  have Lg7 : ∀ (n : Nat) (x4 : Int32) (x5 : Int32) (x6 : Int32) (H : Heap) (locs : List Loc) (ls : Array Slot), MX D cA A ad S H → va_S A s.heap H locs → lv_has ls 6 [(0, .ref (ad 0)), (1, .int x1), (3, .int x4), (4, .int x5), (5, .int x6)] → g7 n x4 x5 x6 = some r → W p l e (RM 0 0 0) s m args below meth c H locs 0 0 (MQ below (CtQ A (some (.int r)) (MX D cA A ad S)) args s 0 0 A) (F0 m 8 ls []) := by
    intro n
    induction n with
    | zero => intro x4 x5 x6 H locs ls hX hS hl hf; rw [g70] at hf; cases hf
    | succ n ihg7 =>
      intro x4 x5 x6 H locs ls hX hS hl hf
      rw [g7s] at hf
      refine lv_iload hx hb dX11_rowBy_8 (lv_at hl 4 rfl) ?_
      refine lv_bipush (v := 6) hx hb dX11_rowBy_10 (by decide) ?_
      refine lv_icmp_ge (tgt := 51) hx hb dX11_rowBy_12 (by decide) (fun c8 => ?_) (fun c8 => ?_)
      · have hf := it_t c8 hf
        refine lv_iload_n hx hb dX11_rowBy_51 rfl (lv_at hl 2 rfl) ?_
        refine lv_if_le (tgt := 59) hx hb dX11_rowBy_52 (by decide) (fun c9 => ?_) (fun c9 => ?_)
        · have hf := it_t c9 hf
          refine lv_iload hx hb dX11_rowBy_59 (lv_at hl 3 rfl) ?_
          cases hf
          exact Ct_ri hx hb hr hlk hX hS dX11_rowBy_61
        · have hf := it_f c9 hf
          refine lv_iconst (v := (-1)) hx hb dX11_rowBy_55 (by decide) ?_
          refine lv_goto (tgt := 61) hx hb dX11_rowBy_56 (by decide) ?_
          cases hf
          exact Ct_ri hx hb hr hlk hX hS dX11_rowBy_61
      · have hf := it_f c8 hf
        refine lv_iload_n hx hb dX11_rowBy_15 rfl (lv_at hl 1 rfl) ?_
        refine lv_iload hx hb dX11_rowBy_16 (lv_at hl 4 rfl) ?_
        refine lv_ishr hx hb dX11_rowBy_18 ?_
        refine lv_iconst (v := 1) hx hb dX11_rowBy_19 (by decide) ?_
        refine lv_iand hx hb dX11_rowBy_20 ?_
        refine lv_iconst (v := 1) hx hb dX11_rowBy_21 (by decide) ?_
        refine lv_icmp_ne (tgt := 45) hx hb dX11_rowBy_22 (by decide) (fun c10 => ?_) (fun c10 => ?_)
        · have hf := it_f c10 hf
          refine lv_iinc (v := (x6 + 1)) (lv' := [(5, .int (x6 + 1)), (0, .ref (ad 0)), (1, .int x1), (3, .int x4), (4, .int x5)]) hx hb dX11_rowBy_45 hl (k := 4) rfl rfl (by decide) rfl (fun ls hl => ?_)
          refine lv_goto (tgt := 8) hx hb dX11_rowBy_48 (by decide) ?_
          exact ihg7 _ _ _ _ _ _ hX hS (lv_sub hl [1, 2, 3, 4, 0] rfl) hf
        · have hf := it_t c10 hf
          refine lv_iload hx hb dX11_rowBy_25 (lv_at hl 3 rfl) ?_
          refine lv_iload_n hx hb dX11_rowBy_27 rfl (lv_at hl 2 rfl) ?_
          refine lv_iconst (v := 3) hx hb dX11_rowBy_28 (by decide) ?_
          have h11 : ¬ (3 : Int32) = 0 := by decide
          refine lv_irem hx hb dX11_rowBy_29 h11 ?_
          refine lv_aload_n hx hb dX11_rowBy_30 rfl (lv_at hl 0 rfl) ?_
          refine mget (v := .ref (ad 1)) hx hb hC hK hX 1 (by decide) a_969 rfl dX11_rowBy_31 ?_
          refine lv_iload hx hb dX11_rowBy_34 (lv_at hl 4 rfl) ?_
          obtain ⟨h13, j12, ej12, hf⟩ := rd_e hf
          refine mald hx hb hC hK hX (by decide) h13 ej12 dX11_rowBy_36 ?_
          refine lv_imul hx hb dX11_rowBy_37 ?_
          refine lv_iadd hx hb dX11_rowBy_38 ?_
          refine lv_istore (lv' := [(4, .int (x5 + ((x4 - x4 / 3 * 3) * (S.2 1 j12)))), (0, .ref (ad 0)), (1, .int x1), (3, .int x4), (5, .int x6)]) hx hb dX11_rowBy_39 hl (by decide) rfl (fun ls hl => ?_)
          refine lv_iload_n hx hb dX11_rowBy_41 rfl (lv_at hl 3 rfl) ?_
          refine lv_iconst (v := 3) hx hb dX11_rowBy_42 (by decide) ?_
          have h14 : ¬ (3 : Int32) = 0 := by decide
          refine lv_idiv hx hb dX11_rowBy_43 h14 ?_
          refine lv_istore_n (lv' := [(3, .int (x4 / 3)), (4, .int (x5 + ((x4 - x4 / 3 * 3) * (S.2 1 j12)))), (0, .ref (ad 0)), (1, .int x1), (5, .int x6)]) hx hb dX11_rowBy_44 rfl hl (by decide) rfl (fun ls hl => ?_)
          refine lv_iinc (v := (x6 + 1)) (lv' := [(5, .int (x6 + 1)), (3, .int (x4 / 3)), (4, .int (x5 + ((x4 - x4 / 3 * 3) * (S.2 1 j12)))), (0, .ref (ad 0)), (1, .int x1)]) hx hb dX11_rowBy_45 hl (k := 4) rfl rfl (by decide) rfl (fun ls hl => ?_)
          refine lv_goto (tgt := 8) hx hb dX11_rowBy_48 (by decide) ?_
          exact ihg7 _ _ _ _ _ _ hX hS (lv_sub hl [3, 4, 1, 2, 0] rfl) hf
  exact Lg7 FU _ _ _ _ _ _ hX hS (lv_sub hl [3, 4, 2, 1, 0] rfl) hf

theorem q_m_laysTable : VWv RX11 yX11_laysTable cX11_laysTable 6 (some .boolean) 2 := ⟨a_1304, a_55, a_1303, a_45, by decide +kernel⟩
set_option maxRecDepth 100000 in
set_option maxHeartbeats 4000000 in
theorem c_m_laysTable {l : Launch} {D : va_G} {cA : Nat → ClassId} {A : Nat → Prop} {ad : Nat → Nat} {x1 : Int32} {x2 : Int32} {S : St} {r : Int32} {S' : St} (hf : m_laysTable x1 x2 S = some (r, S')) : Ct l D cA A yX11_laysTable cX11_laysTable 6 (some .boolean) 3 0 0 [.ref (ad 0), .int x1, .int x2] (MX D cA A ad S) (some (.int r)) (MX D cA A ad S') := by
  refine Ct_of (by decide +kernel) (Nat.le_of_ble_eq_true rfl) ?_
  intro p e s m args below meth c ls hC hr hlk hnm hX hKX hl
  have hK := hKX.1
  have hx := hC.1
  have hb := hC.2.1
  have hS : va_S A s.heap s.heap [] := va_S.rf
  have hX : MX D cA A ad S s.heap := hX
  have hl : lv_has ls 6 [(0, .ref (ad 0)), (1, .int x1), (2, .int x2)] := hl
  unfold m_laysTable at hf
  refine lv_aload_n hx hb dX11_laysTable_0 rfl (lv_at hl 0 rfl) ?_
  refine mget (v := .ref (ad 5)) hx hb hC hK hX 5 (by decide) a_973 rfl dX11_laysTable_1 ?_
  refine lv_iload_n hx hb dX11_laysTable_4 rfl (lv_at hl 1 rfl) ?_
  refine lv_iconst (v := 0) hx hb dX11_laysTable_5 (by decide) ?_
  obtain ⟨h5, j4, ej4, hf⟩ := rd_e hf
  refine mast hx hb hC hK hX hS (by decide) h5 ej4 dX11_laysTable_6 (fun H locs hX hS => ?_)
  obtain ⟨S6, eS6, hf⟩ := lt_e hf
  rw [← eS6] at hX
  refine lv_iconst (v := 1) hx hb dX11_laysTable_7 (by decide) ?_
  refine lv_istore_n (lv' := [(3, .int 1), (0, .ref (ad 0)), (1, .int x1), (2, .int x2)]) hx hb dX11_laysTable_8 rfl hl (by decide) rfl (fun ls hl => ?_)
  refine lv_iconst (v := 0) hx hb dX11_laysTable_9 (by decide) ?_
  refine lv_istore (lv' := [(4, .int 0), (3, .int 1), (0, .ref (ad 0)), (1, .int x1), (2, .int x2)]) hx hb dX11_laysTable_10 hl (by decide) rfl (fun ls hl => ?_)
  obtain ⟨g10, g100, g10s, hf⟩ := lp3_e hf
  have Lg10 : ∀ (n : Nat) (x7 : Int32) (x8 : Int32) (S9 : St) (H : Heap) (locs : List Loc) (ls : Array Slot), MX D cA A ad S9 H → va_S A s.heap H locs → lv_has ls 6 [(0, .ref (ad 0)), (1, .int x1), (2, .int x2), (3, .int x7), (4, .int x8)] → g10 n x7 x8 S9 = some (r, S') → W p l e (RM 3 0 0) s m args below meth c H locs 0 0 (MQ below (CtQ A (some (.int r)) (MX D cA A ad S')) args s 0 0 A) (F0 m 12 ls []) := by
    intro n
    induction n with
    | zero => intro x7 x8 S9 H locs ls hX hS hl hf; rw [g100] at hf; cases hf
    | succ n ihg10 =>
      intro x7 x8 S9 H locs ls hX hS hl hf
      rw [g10s] at hf
      refine lv_iload hx hb dX11_laysTable_12 (lv_at hl 4 rfl) ?_
      refine lv_bipush (v := 9) hx hb dX11_laysTable_14 (by decide) ?_
      refine lv_icmp_ge (tgt := 143) hx hb dX11_laysTable_16 (by decide) (fun c11 => ?_) (fun c11 => ?_)
      · have hf := it_t c11 hf
        refine lv_iload_n hx hb dX11_laysTable_143 rfl (lv_at hl 3 rfl) ?_
        obtain ⟨h12, hf⟩ := gd_e hf
        cases hf
        exact Ct_rz hx hb hr hlk (nz01 h12) hX hS dX11_laysTable_144
      · have hf := it_f c11 hf
        refine lv_aload_n hx hb dX11_laysTable_19 rfl (lv_at hl 0 rfl) ?_
        refine lv_aload_n hx hb dX11_laysTable_20 rfl (lv_at hl 0 rfl) ?_
        refine mget (v := .ref (ad 3)) hx hb hC hK hX 3 (by decide) a_971 rfl dX11_laysTable_21 ?_
        refine lv_iload_n hx hb dX11_laysTable_24 rfl (lv_at hl 1 rfl) ?_
        obtain ⟨h14, j13, ej13, hf⟩ := rd_e hf
        refine mald hx hb hC hK hX (by decide) h14 ej13 dX11_laysTable_25 ?_
        refine lv_iload hx hb dX11_laysTable_26 (lv_at hl 4 rfl) ?_
        obtain ⟨z15, hz15, hf⟩ := cb_e hf
        refine mVi (As := [.int (S9.2 3 j13), .int x8]) (rest := []) hC (c_m_rowBy hz15) q_m_rowBy a_1305 (Nat.le_of_ble_eq_true rfl) hX hKX rfl hl.1 (Nat.le_of_ble_eq_true rfl) dX11_laysTable_28 hS (fun H locs hX hS => ?_)
        refine lv_istore (lv' := [(5, .int z15), (0, .ref (ad 0)), (1, .int x1), (2, .int x2), (3, .int x7), (4, .int x8)]) hx hb dX11_laysTable_31 hl (by decide) rfl (fun ls hl => ?_)
        refine lv_iload_n hx hb dX11_laysTable_33 rfl (lv_at hl 3 rfl) ?_
        refine lv_iload hx hb dX11_laysTable_34 (lv_at hl 5 rfl) ?_
        refine lv_ishr hx hb dX11_laysTable_36 ?_
        refine lv_iconst (v := 1) hx hb dX11_laysTable_37 (by decide) ?_
        refine lv_iand hx hb dX11_laysTable_38 ?_
        refine lv_iconst (v := 1) hx hb dX11_laysTable_39 (by decide) ?_
        refine lv_icmp_ne (tgt := 137) hx hb dX11_laysTable_40 (by decide) (fun c16 => ?_) (fun c16 => ?_)
        · have hf := it_f c16 hf
          refine lv_iinc (v := (x8 + 1)) (lv' := [(4, .int (x8 + 1)), (5, .int z15), (0, .ref (ad 0)), (1, .int x1), (2, .int x2), (3, .int x7)]) hx hb dX11_laysTable_137 hl (k := 5) rfl rfl (by decide) rfl (fun ls hl => ?_)
          refine lv_goto (tgt := 12) hx hb dX11_laysTable_140 (by decide) ?_
          exact ihg10 _ _ _ _ _ _ hX hS (lv_sub hl [2, 3, 4, 5, 0] rfl) hf
        · have hf := it_t c16 hf
          refine lv_iload_n hx hb dX11_laysTable_43 rfl (lv_at hl 4 rfl) ?_
          obtain ⟨k18, hk18, hf⟩ := jn1_e hf
          have Jk18 : ∀ (x17 : Int32) (H : Heap) (locs : List Loc) (ls : Array Slot), MX D cA A ad S9 H → va_S A s.heap H locs → lv_has ls 6 [(0, .ref (ad 0)), (1, .int x1), (2, .int x2), (4, .int x8), (5, .int z15)] → k18 x17 = some (r, S') → W p l e (RM 3 0 0) s m args below meth c H locs 0 0 (MQ below (CtQ A (some (.int r)) (MX D cA A ad S')) args s 0 0 A) (F0 m 98 ls [.int x17]) := by
            intro x17 H locs ls hX hS hl hf
            rw [hk18] at hf
            refine lv_istore_n (lv' := [(3, .int x17), (0, .ref (ad 0)), (1, .int x1), (2, .int x2), (4, .int x8), (5, .int z15)]) hx hb dX11_laysTable_98 rfl hl (by decide) rfl (fun ls hl => ?_)
            refine lv_aload_n hx hb dX11_laysTable_99 rfl (lv_at hl 1 rfl) ?_
            refine mget (v := .ref (ad 5)) hx hb hC hK hX 5 (by decide) a_973 rfl dX11_laysTable_100 ?_
            refine lv_iload_n hx hb dX11_laysTable_103 rfl (lv_at hl 2 rfl) ?_
            refine lv_iload_n hx hb dX11_laysTable_104 rfl (lv_at hl 0 rfl) ?_
            refine lv_if_eq (tgt := 130) hx hb dX11_laysTable_105 (by decide) (fun c19 => ?_) (fun c19 => ?_)
            · have hf := it_t c19 hf
              refine lv_aload_n hx hb dX11_laysTable_130 rfl (lv_at hl 1 rfl) ?_
              refine mget (v := .ref (ad 5)) hx hb hC hK hX 5 (by decide) a_973 rfl dX11_laysTable_131 ?_
              refine lv_iload_n hx hb dX11_laysTable_134 rfl (lv_at hl 2 rfl) ?_
              obtain ⟨h21, j20, ej20, hf⟩ := rd_e hf
              refine mald hx hb hC hK hX (by decide) h21 ej20 dX11_laysTable_135 ?_
              obtain ⟨h23, j22, ej22, hf⟩ := rd_e hf
              refine mast hx hb hC hK hX hS (by decide) h23 ej22 dX11_laysTable_136 (fun H locs hX hS => ?_)
              obtain ⟨S24, eS24, hf⟩ := lt_e hf
              rw [← eS24] at hX
              refine lv_iinc (v := (x8 + 1)) (lv' := [(4, .int (x8 + 1)), (3, .int x17), (0, .ref (ad 0)), (1, .int x1), (2, .int x2), (5, .int z15)]) hx hb dX11_laysTable_137 hl (k := 4) rfl rfl (by decide) rfl (fun ls hl => ?_)
              refine lv_goto (tgt := 12) hx hb dX11_laysTable_140 (by decide) ?_
              exact ihg10 _ _ _ _ _ _ hX hS (lv_sub hl [2, 3, 4, 1, 0] rfl) hf
            · have hf := it_f c19 hf
              refine lv_aload_n hx hb dX11_laysTable_108 rfl (lv_at hl 1 rfl) ?_
              refine mget (v := .ref (ad 6)) hx hb hC hK hX 6 (by decide) a_974 rfl dX11_laysTable_109 ?_
              refine lv_bipush (v := 12) hx hb dX11_laysTable_112 (by decide) ?_
              refine lv_iload_n hx hb dX11_laysTable_114 rfl (lv_at hl 2 rfl) ?_
              refine lv_imul hx hb dX11_laysTable_115 ?_
              refine lv_aload_n hx hb dX11_laysTable_116 rfl (lv_at hl 1 rfl) ?_
              refine mget (v := .ref (ad 5)) hx hb hC hK hX 5 (by decide) a_973 rfl dX11_laysTable_117 ?_
              refine lv_iload_n hx hb dX11_laysTable_120 rfl (lv_at hl 2 rfl) ?_
              obtain ⟨h26, j25, ej25, hf⟩ := rd_e hf
              refine mald hx hb hC hK hX (by decide) h26 ej25 dX11_laysTable_121 ?_
              refine lv_iload hx hb dX11_laysTable_122 (lv_at hl 5 rfl) ?_
              obtain ⟨z27, S28, hz27, hf⟩ := cb2_e hf
              refine mSi (As := [.ref (ad 6), .int (12 * x1), .int (S9.2 5 j25), .int z15]) (rest := [.int x1, .ref (ad 5)]) hC (c_m_lays (by decide) hz27) q_m_lays a_1114 (Nat.le_of_ble_eq_true rfl) hX hKX rfl hl.1 (Nat.le_of_ble_eq_true rfl) dX11_laysTable_124 hS (fun H locs hX hS => ?_)
              refine lv_goto (tgt := 136) hx hb dX11_laysTable_127 (by decide) ?_
              obtain ⟨h30, j29, ej29, hf⟩ := rd_e hf
              refine mast hx hb hC hK hX hS (by decide) h30 ej29 dX11_laysTable_136 (fun H locs hX hS => ?_)
              obtain ⟨S31, eS31, hf⟩ := lt_e hf
              rw [← eS31] at hX
              refine lv_iinc (v := (x8 + 1)) (lv' := [(4, .int (x8 + 1)), (3, .int x17), (0, .ref (ad 0)), (1, .int x1), (2, .int x2), (5, .int z15)]) hx hb dX11_laysTable_137 hl (k := 4) rfl rfl (by decide) rfl (fun ls hl => ?_)
              refine lv_goto (tgt := 12) hx hb dX11_laysTable_140 (by decide) ?_
              exact ihg10 _ _ _ _ _ _ hX hS (lv_sub hl [2, 3, 4, 1, 0] rfl) hf
          refine lv_if_eq (tgt := 97) hx hb dX11_laysTable_44 (by decide) (fun c32 => ?_) (fun c32 => ?_)
          · have hf := it_t c32 hf
            refine lv_iconst (v := 0) hx hb dX11_laysTable_97 (by decide) ?_
            exact Jk18 _ _ _ _ hX hS (lv_sub hl [1, 2, 3, 5, 0] rfl) hf
          · have hf := it_f c32 hf
            refine lv_iload hx hb dX11_laysTable_47 (lv_at hl 0 rfl) ?_
            refine lv_iconst (v := (-1)) hx hb dX11_laysTable_49 (by decide) ?_
            refine lv_icmp_eq (tgt := 97) hx hb dX11_laysTable_50 (by decide) (fun c33 => ?_) (fun c33 => ?_)
            · have hf := it_t c33 hf
              refine lv_iconst (v := 0) hx hb dX11_laysTable_97 (by decide) ?_
              exact Jk18 _ _ _ _ hX hS (lv_sub hl [1, 2, 3, 5, 0] rfl) hf
            · have hf := it_f c33 hf
              refine lv_aload_n hx hb dX11_laysTable_53 rfl (lv_at hl 1 rfl) ?_
              refine lv_aload_n hx hb dX11_laysTable_54 rfl (lv_at hl 1 rfl) ?_
              refine mget (v := .ref (ad 6)) hx hb hC hK hX 6 (by decide) a_974 rfl dX11_laysTable_55 ?_
              refine lv_bipush (v := 12) hx hb dX11_laysTable_58 (by decide) ?_
              refine lv_iload_n hx hb dX11_laysTable_60 rfl (lv_at hl 2 rfl) ?_
              refine lv_imul hx hb dX11_laysTable_61 ?_
              refine lv_aload_n hx hb dX11_laysTable_62 rfl (lv_at hl 1 rfl) ?_
              refine mget (v := .ref (ad 5)) hx hb hC hK hX 5 (by decide) a_973 rfl dX11_laysTable_63 ?_
              refine lv_iload_n hx hb dX11_laysTable_66 rfl (lv_at hl 2 rfl) ?_
              obtain ⟨h35, j34, ej34, hf⟩ := rd_e hf
              refine mald hx hb hC hK hX (by decide) h35 ej34 dX11_laysTable_67 ?_
              refine lv_aload_n hx hb dX11_laysTable_68 rfl (lv_at hl 1 rfl) ?_
              refine mget (v := .ref (ad 4)) hx hb hC hK hX 4 (by decide) a_972 rfl dX11_laysTable_69 ?_
              refine lv_iload_n hx hb dX11_laysTable_72 rfl (lv_at hl 2 rfl) ?_
              obtain ⟨h37, j36, ej36, hf⟩ := rd_e hf
              refine mald hx hb hC hK hX (by decide) h37 ej36 dX11_laysTable_73 ?_
              refine lv_aload_n hx hb dX11_laysTable_74 rfl (lv_at hl 1 rfl) ?_
              refine lv_iload hx hb dX11_laysTable_75 (lv_at hl 0 rfl) ?_
              refine lv_aload_n hx hb dX11_laysTable_77 rfl (lv_at hl 1 rfl) ?_
              refine mget (v := .ref (ad 4)) hx hb hC hK hX 4 (by decide) a_972 rfl dX11_laysTable_78 ?_
              refine lv_iload_n hx hb dX11_laysTable_81 rfl (lv_at hl 2 rfl) ?_
              obtain ⟨h39, j38, ej38, hf⟩ := rd_e hf
              refine mald hx hb hC hK hX (by decide) h39 ej38 dX11_laysTable_82 ?_
              obtain ⟨z40, hz40, hf⟩ := cb_e hf
              refine mVi (As := [.int z15, .int (S9.2 4 j38)]) (rest := [.int (S9.2 4 j36), .int (S9.2 5 j34), .int (12 * x1), .ref (ad 6), .ref (ad 0)]) hC (c_m_part hz40) q_m_part a_1102 (Nat.le_of_ble_eq_true rfl) hX hKX rfl hl.1 (Nat.le_of_ble_eq_true rfl) dX11_laysTable_83 hS (fun H locs hX hS => ?_)
              obtain ⟨z41, hz41, hf⟩ := cb_e hf
              refine mVi (As := [.ref (ad 6), .int (12 * x1), .int (S9.2 5 j34), .int (S9.2 4 j36), .int z40]) (rest := []) hC (c_m_rowWith (by decide) hz41) q_m_rowWith a_1110 (Nat.le_of_ble_eq_true rfl) hX hKX rfl hl.1 (Nat.le_of_ble_eq_true rfl) dX11_laysTable_86 hS (fun H locs hX hS => ?_)
              refine lv_iconst (v := (-1)) hx hb dX11_laysTable_89 (by decide) ?_
              refine lv_icmp_ne (tgt := 97) hx hb dX11_laysTable_90 (by decide) (fun c42 => ?_) (fun c42 => ?_)
              · have hf := it_f c42 hf
                refine lv_iconst (v := 0) hx hb dX11_laysTable_97 (by decide) ?_
                exact Jk18 _ _ _ _ hX hS (lv_sub hl [1, 2, 3, 5, 0] rfl) hf
              · have hf := it_t c42 hf
                refine lv_iconst (v := 1) hx hb dX11_laysTable_93 (by decide) ?_
                refine lv_goto (tgt := 98) hx hb dX11_laysTable_94 (by decide) ?_
                exact Jk18 _ _ _ _ hX hS (lv_sub hl [1, 2, 3, 5, 0] rfl) hf
  exact Lg10 FU _ _ _ _ _ _ hX hS (lv_sub hl [2, 3, 4, 1, 0] rfl) hf

theorem q_m_isDraft : VWv RX11 yX11_isDraft cX11_isDraft 3 (some .boolean) 0 := ⟨a_1312, a_55, a_1311, a_47, by decide +kernel⟩
set_option maxRecDepth 100000 in
set_option maxHeartbeats 4000000 in
theorem c_m_isDraft {l : Launch} {D : va_G} {cA : Nat → ClassId} {A : Nat → Prop} {ad : Nat → Nat}  {S : St} {r : Int32} {S' : St} (hf : m_isDraft S = some (r, S')) : Ct l D cA A yX11_isDraft cX11_isDraft 3 (some .boolean) 5 0 0 [.ref (ad 0)] (MX D cA A ad S) (some (.int r)) (MX D cA A ad S') := by
  refine Ct_of (by decide +kernel) (Nat.le_of_ble_eq_true rfl) ?_
  intro p e s m args below meth c ls hC hr hlk hnm hX hKX hl
  have hK := hKX.1
  have hx := hC.1
  have hb := hC.2.1
  have hS : va_S A s.heap s.heap [] := va_S.rf
  have hX : MX D cA A ad S s.heap := hX
  have hl : lv_has ls 3 [(0, .ref (ad 0))] := hl
  unfold m_isDraft at hf
  refine lv_aload_n hx hb dX11_isDraft_0 rfl (lv_at hl 0 rfl) ?_
  obtain ⟨S3, hz2, hf⟩ := cb_e hf
  refine mVv (As := []) (rest := []) hC (c_m_laysViews hz2) q_m_laysViews a_1170 (Nat.le_of_ble_eq_true rfl) hX hKX rfl hl.1 (Nat.le_of_ble_eq_true rfl) dX11_isDraft_1 hS (fun H locs hX hS => ?_)
  refine lv_aload_n hx hb dX11_isDraft_4 rfl (lv_at hl 0 rfl) ?_
  refine mget (v := .ref (ad 17)) hx hb hC hK hX 17 (by decide) a_985 rfl dX11_isDraft_5 ?_
  refine lv_aload_n hx hb dX11_isDraft_8 rfl (lv_at hl 0 rfl) ?_
  refine mget (v := .int (S3.1 22)) hx hb hC hK hX 22 (by decide) a_990 rfl dX11_isDraft_9 ?_
  obtain ⟨h5, j4, ej4, hf⟩ := rd_e hf
  refine mald hx hb hC hK hX (by decide) h5 ej4 dX11_isDraft_12 ?_
  refine lv_aload_n hx hb dX11_isDraft_13 rfl (lv_at hl 0 rfl) ?_
  refine mget (v := .int (S3.1 23)) hx hb hC hK hX 23 (by decide) a_991 rfl dX11_isDraft_14 ?_
  refine lv_icmp_ne (tgt := 24) hx hb dX11_isDraft_17 (by decide) (fun c6 => ?_) (fun c6 => ?_)
  · have hf := it_f c6 hf
    refine lv_iconst (v := 0) hx hb dX11_isDraft_24 (by decide) ?_
    refine lv_istore_n (lv' := [(1, .int 0), (0, .ref (ad 0))]) hx hb dX11_isDraft_25 rfl hl (by decide) rfl (fun ls hl => ?_)
    refine lv_iconst (v := 0) hx hb dX11_isDraft_26 (by decide) ?_
    refine lv_istore_n (lv' := [(2, .int 0), (1, .int 0), (0, .ref (ad 0))]) hx hb dX11_isDraft_27 rfl hl (by decide) rfl (fun ls hl => ?_)
    obtain ⟨g9, g90, g9s, hf⟩ := lp2_e hf
    have Lg9 : ∀ (n : Nat) (x7 : Int32) (x8 : Int32) (H : Heap) (locs : List Loc) (ls : Array Slot), MX D cA A ad S3 H → va_S A s.heap H locs → lv_has ls 3 [(0, .ref (ad 0)), (1, .int x7), (2, .int x8)] → g9 n x7 x8 = some (r, S') → W p l e (RM 5 0 0) s m args below meth c H locs 0 0 (MQ below (CtQ A (some (.int r)) (MX D cA A ad S')) args s 0 0 A) (F0 m 28 ls []) := by
      intro n
      induction n with
      | zero => intro x7 x8 H locs ls hX hS hl hf; rw [g90] at hf; cases hf
      | succ n ihg9 =>
        intro x7 x8 H locs ls hX hS hl hf
        rw [g9s] at hf
        refine lv_iload_n hx hb dX11_isDraft_28 rfl (lv_at hl 2 rfl) ?_
        refine lv_aload_n hx hb dX11_isDraft_29 rfl (lv_at hl 0 rfl) ?_
        refine mget (v := .int (S3.1 23)) hx hb hC hK hX 23 (by decide) a_991 rfl dX11_isDraft_30 ?_
        refine lv_icmp_ge (tgt := 75) hx hb dX11_isDraft_33 (by decide) (fun c10 => ?_) (fun c10 => ?_)
        · have hf := it_t c10 hf
          refine lv_iload_n hx hb dX11_isDraft_75 rfl (lv_at hl 1 rfl) ?_
          obtain ⟨h11, hf⟩ := gd_e hf
          cases hf
          exact Ct_rz hx hb hr hlk (nz01 h11) hX hS dX11_isDraft_76
        · have hf := it_f c10 hf
          refine lv_iload_n hx hb dX11_isDraft_36 rfl (lv_at hl 1 rfl) ?_
          refine lv_if_eq (tgt := 75) hx hb dX11_isDraft_37 (by decide) (fun c12 => ?_) (fun c12 => ?_)
          · have hf := it_t c12 hf
            refine lv_iload_n hx hb dX11_isDraft_75 rfl (lv_at hl 1 rfl) ?_
            obtain ⟨h13, hf⟩ := gd_e hf
            cases hf
            exact Ct_rz hx hb hr hlk (nz01 h13) hX hS dX11_isDraft_76
          · have hf := it_f c12 hf
            refine lv_aload_n hx hb dX11_isDraft_40 rfl (lv_at hl 0 rfl) ?_
            refine mget (v := .ref (ad 18)) hx hb hC hK hX 18 (by decide) a_986 rfl dX11_isDraft_41 ?_
            refine lv_bipush (v := 40) hx hb dX11_isDraft_44 (by decide) ?_
            refine lv_aload_n hx hb dX11_isDraft_46 rfl (lv_at hl 0 rfl) ?_
            refine mget (v := .int (S3.1 22)) hx hb hC hK hX 22 (by decide) a_990 rfl dX11_isDraft_47 ?_
            refine lv_imul hx hb dX11_isDraft_50 ?_
            refine lv_iload_n hx hb dX11_isDraft_51 rfl (lv_at hl 2 rfl) ?_
            refine lv_iadd hx hb dX11_isDraft_52 ?_
            obtain ⟨h15, j14, ej14, hf⟩ := rd_e hf
            refine mald hx hb hC hK hX (by decide) h15 ej14 dX11_isDraft_53 ?_
            refine lv_aload_n hx hb dX11_isDraft_54 rfl (lv_at hl 0 rfl) ?_
            refine mget (v := .ref (ad 24)) hx hb hC hK hX 24 (by decide) a_992 rfl dX11_isDraft_55 ?_
            refine lv_iload_n hx hb dX11_isDraft_58 rfl (lv_at hl 2 rfl) ?_
            obtain ⟨h17, j16, ej16, hf⟩ := rd_e hf
            refine mald hx hb hC hK hX (by decide) h17 ej16 dX11_isDraft_59 ?_
            refine lv_icmp_ne (tgt := 67) hx hb dX11_isDraft_60 (by decide) (fun c18 => ?_) (fun c18 => ?_)
            · have hf := it_f c18 hf
              refine lv_iconst (v := 0) hx hb dX11_isDraft_67 (by decide) ?_
              refine lv_istore_n (lv' := [(1, .int 0), (0, .ref (ad 0)), (2, .int x8)]) hx hb dX11_isDraft_68 rfl hl (by decide) rfl (fun ls hl => ?_)
              refine lv_iinc (v := (x8 + 1)) (lv' := [(2, .int (x8 + 1)), (1, .int 0), (0, .ref (ad 0))]) hx hb dX11_isDraft_69 hl (k := 2) rfl rfl (by decide) rfl (fun ls hl => ?_)
              refine lv_goto (tgt := 28) hx hb dX11_isDraft_72 (by decide) ?_
              exact ihg9 _ _ _ _ _ hX hS (lv_sub hl [2, 1, 0] rfl) hf
            · have hf := it_t c18 hf
              refine lv_iconst (v := 1) hx hb dX11_isDraft_63 (by decide) ?_
              refine lv_goto (tgt := 68) hx hb dX11_isDraft_64 (by decide) ?_
              refine lv_istore_n (lv' := [(1, .int 1), (0, .ref (ad 0)), (2, .int x8)]) hx hb dX11_isDraft_68 rfl hl (by decide) rfl (fun ls hl => ?_)
              refine lv_iinc (v := (x8 + 1)) (lv' := [(2, .int (x8 + 1)), (1, .int 1), (0, .ref (ad 0))]) hx hb dX11_isDraft_69 hl (k := 2) rfl rfl (by decide) rfl (fun ls hl => ?_)
              refine lv_goto (tgt := 28) hx hb dX11_isDraft_72 (by decide) ?_
              exact ihg9 _ _ _ _ _ hX hS (lv_sub hl [2, 1, 0] rfl) hf
    exact Lg9 FU _ _ _ _ _ hX hS (lv_sub hl [2, 1, 0] rfl) hf
  · have hf := it_t c6 hf
    refine lv_iconst (v := 1) hx hb dX11_isDraft_20 (by decide) ?_
    refine lv_goto (tgt := 25) hx hb dX11_isDraft_21 (by decide) ?_
    refine lv_istore_n (lv' := [(1, .int 1), (0, .ref (ad 0))]) hx hb dX11_isDraft_25 rfl hl (by decide) rfl (fun ls hl => ?_)
    refine lv_iconst (v := 0) hx hb dX11_isDraft_26 (by decide) ?_
    refine lv_istore_n (lv' := [(2, .int 0), (1, .int 1), (0, .ref (ad 0))]) hx hb dX11_isDraft_27 rfl hl (by decide) rfl (fun ls hl => ?_)
    obtain ⟨g21, g210, g21s, hf⟩ := lp2_e hf
    have Lg21 : ∀ (n : Nat) (x19 : Int32) (x20 : Int32) (H : Heap) (locs : List Loc) (ls : Array Slot), MX D cA A ad S3 H → va_S A s.heap H locs → lv_has ls 3 [(0, .ref (ad 0)), (1, .int x19), (2, .int x20)] → g21 n x19 x20 = some (r, S') → W p l e (RM 5 0 0) s m args below meth c H locs 0 0 (MQ below (CtQ A (some (.int r)) (MX D cA A ad S')) args s 0 0 A) (F0 m 28 ls []) := by
      intro n
      induction n with
      | zero => intro x19 x20 H locs ls hX hS hl hf; rw [g210] at hf; cases hf
      | succ n ihg21 =>
        intro x19 x20 H locs ls hX hS hl hf
        rw [g21s] at hf
        refine lv_iload_n hx hb dX11_isDraft_28 rfl (lv_at hl 2 rfl) ?_
        refine lv_aload_n hx hb dX11_isDraft_29 rfl (lv_at hl 0 rfl) ?_
        refine mget (v := .int (S3.1 23)) hx hb hC hK hX 23 (by decide) a_991 rfl dX11_isDraft_30 ?_
        refine lv_icmp_ge (tgt := 75) hx hb dX11_isDraft_33 (by decide) (fun c22 => ?_) (fun c22 => ?_)
        · have hf := it_t c22 hf
          refine lv_iload_n hx hb dX11_isDraft_75 rfl (lv_at hl 1 rfl) ?_
          obtain ⟨h23, hf⟩ := gd_e hf
          cases hf
          exact Ct_rz hx hb hr hlk (nz01 h23) hX hS dX11_isDraft_76
        · have hf := it_f c22 hf
          refine lv_iload_n hx hb dX11_isDraft_36 rfl (lv_at hl 1 rfl) ?_
          refine lv_if_eq (tgt := 75) hx hb dX11_isDraft_37 (by decide) (fun c24 => ?_) (fun c24 => ?_)
          · have hf := it_t c24 hf
            refine lv_iload_n hx hb dX11_isDraft_75 rfl (lv_at hl 1 rfl) ?_
            obtain ⟨h25, hf⟩ := gd_e hf
            cases hf
            exact Ct_rz hx hb hr hlk (nz01 h25) hX hS dX11_isDraft_76
          · have hf := it_f c24 hf
            refine lv_aload_n hx hb dX11_isDraft_40 rfl (lv_at hl 0 rfl) ?_
            refine mget (v := .ref (ad 18)) hx hb hC hK hX 18 (by decide) a_986 rfl dX11_isDraft_41 ?_
            refine lv_bipush (v := 40) hx hb dX11_isDraft_44 (by decide) ?_
            refine lv_aload_n hx hb dX11_isDraft_46 rfl (lv_at hl 0 rfl) ?_
            refine mget (v := .int (S3.1 22)) hx hb hC hK hX 22 (by decide) a_990 rfl dX11_isDraft_47 ?_
            refine lv_imul hx hb dX11_isDraft_50 ?_
            refine lv_iload_n hx hb dX11_isDraft_51 rfl (lv_at hl 2 rfl) ?_
            refine lv_iadd hx hb dX11_isDraft_52 ?_
            obtain ⟨h27, j26, ej26, hf⟩ := rd_e hf
            refine mald hx hb hC hK hX (by decide) h27 ej26 dX11_isDraft_53 ?_
            refine lv_aload_n hx hb dX11_isDraft_54 rfl (lv_at hl 0 rfl) ?_
            refine mget (v := .ref (ad 24)) hx hb hC hK hX 24 (by decide) a_992 rfl dX11_isDraft_55 ?_
            refine lv_iload_n hx hb dX11_isDraft_58 rfl (lv_at hl 2 rfl) ?_
            obtain ⟨h29, j28, ej28, hf⟩ := rd_e hf
            refine mald hx hb hC hK hX (by decide) h29 ej28 dX11_isDraft_59 ?_
            refine lv_icmp_ne (tgt := 67) hx hb dX11_isDraft_60 (by decide) (fun c30 => ?_) (fun c30 => ?_)
            · have hf := it_f c30 hf
              refine lv_iconst (v := 0) hx hb dX11_isDraft_67 (by decide) ?_
              refine lv_istore_n (lv' := [(1, .int 0), (0, .ref (ad 0)), (2, .int x20)]) hx hb dX11_isDraft_68 rfl hl (by decide) rfl (fun ls hl => ?_)
              refine lv_iinc (v := (x20 + 1)) (lv' := [(2, .int (x20 + 1)), (1, .int 0), (0, .ref (ad 0))]) hx hb dX11_isDraft_69 hl (k := 2) rfl rfl (by decide) rfl (fun ls hl => ?_)
              refine lv_goto (tgt := 28) hx hb dX11_isDraft_72 (by decide) ?_
              exact ihg21 _ _ _ _ _ hX hS (lv_sub hl [2, 1, 0] rfl) hf
            · have hf := it_t c30 hf
              refine lv_iconst (v := 1) hx hb dX11_isDraft_63 (by decide) ?_
              refine lv_goto (tgt := 68) hx hb dX11_isDraft_64 (by decide) ?_
              refine lv_istore_n (lv' := [(1, .int 1), (0, .ref (ad 0)), (2, .int x20)]) hx hb dX11_isDraft_68 rfl hl (by decide) rfl (fun ls hl => ?_)
              refine lv_iinc (v := (x20 + 1)) (lv' := [(2, .int (x20 + 1)), (1, .int 1), (0, .ref (ad 0))]) hx hb dX11_isDraft_69 hl (k := 2) rfl rfl (by decide) rfl (fun ls hl => ?_)
              refine lv_goto (tgt := 28) hx hb dX11_isDraft_72 (by decide) ?_
              exact ihg21 _ _ _ _ _ hX hS (lv_sub hl [2, 1, 0] rfl) hf
    exact Lg21 FU _ _ _ _ _ hX hS (lv_sub hl [2, 1, 0] rfl) hf

theorem q_m_differs : VWv RX11 yX11_differs cX11_differs 5 (some .int) 2 := ⟨a_1316, a_55, a_1315, a_48, by decide +kernel⟩
set_option maxRecDepth 100000 in
set_option maxHeartbeats 4000000 in
theorem c_m_differs {l : Launch} {D : va_G} {cA : Nat → ClassId} {A : Nat → Prop} {ad : Nat → Nat} {x1 : Int32} {x2 : Int32} {S : St} {r : Int32} (hf : m_differs x1 x2 S = some r) : Ct l D cA A yX11_differs cX11_differs 5 (some .int) 1 0 0 [.ref (ad 0), .int x1, .int x2] (MX D cA A ad S) (some (.int r)) (MX D cA A ad S) := by
  refine Ct_of (by decide +kernel) (Nat.le_of_ble_eq_true rfl) ?_
  intro p e s m args below meth c ls hC hr hlk hnm hX hKX hl
  have hK := hKX.1
  have hx := hC.1
  have hb := hC.2.1
  have hS : va_S A s.heap s.heap [] := va_S.rf
  have hX : MX D cA A ad S s.heap := hX
  have hl : lv_has ls 5 [(0, .ref (ad 0)), (1, .int x1), (2, .int x2)] := hl
  unfold m_differs at hf
  refine lv_iconst (v := 0) hx hb dX11_differs_0 (by decide) ?_
  refine lv_istore_n (lv' := [(3, .int 0), (0, .ref (ad 0)), (1, .int x1), (2, .int x2)]) hx hb dX11_differs_1 rfl hl (by decide) rfl (fun ls hl => ?_)
  refine lv_iconst (v := 0) hx hb dX11_differs_2 (by decide) ?_
  refine lv_istore (lv' := [(4, .int 0), (3, .int 0), (0, .ref (ad 0)), (1, .int x1), (2, .int x2)]) hx hb dX11_differs_3 hl (by decide) rfl (fun ls hl => ?_)
  obtain ⟨g6, g60, g6s, hf⟩ := lp2_e hf
  have Lg6 : ∀ (n : Nat) (x4 : Int32) (x5 : Int32) (H : Heap) (locs : List Loc) (ls : Array Slot), MX D cA A ad S H → va_S A s.heap H locs → lv_has ls 5 [(0, .ref (ad 0)), (1, .int x1), (2, .int x2), (3, .int x4), (4, .int x5)] → g6 n x4 x5 = some r → W p l e (RM 1 0 0) s m args below meth c H locs 0 0 (MQ below (CtQ A (some (.int r)) (MX D cA A ad S)) args s 0 0 A) (F0 m 5 ls []) := by
    intro n
    induction n with
    | zero => intro x4 x5 H locs ls hX hS hl hf; rw [g60] at hf; cases hf
    | succ n ihg6 =>
      intro x4 x5 H locs ls hX hS hl hf
      rw [g6s] at hf
      refine lv_iload hx hb dX11_differs_5 (lv_at hl 4 rfl) ?_
      refine lv_iload_n hx hb dX11_differs_7 rfl (lv_at hl 2 rfl) ?_
      refine lv_icmp_ge (tgt := 53) hx hb dX11_differs_8 (by decide) (fun c7 => ?_) (fun c7 => ?_)
      · have hf := it_t c7 hf
        refine lv_iconst (v := 0) hx hb dX11_differs_53 (by decide) ?_
        refine lv_istore (lv' := [(4, .int 0), (0, .ref (ad 0)), (1, .int x1), (2, .int x2), (3, .int x4)]) hx hb dX11_differs_54 hl (by decide) rfl (fun ls hl => ?_)
        obtain ⟨g10, g100, g10s, hf⟩ := lp2_e hf
        have Lg10 : ∀ (n : Nat) (x8 : Int32) (x9 : Int32) (H : Heap) (locs : List Loc) (ls : Array Slot), MX D cA A ad S H → va_S A s.heap H locs → lv_has ls 5 [(0, .ref (ad 0)), (1, .int x1), (2, .int x2), (3, .int x8), (4, .int x9)] → g10 n x8 x9 = some r → W p l e (RM 1 0 0) s m args below meth c H locs 0 0 (MQ below (CtQ A (some (.int r)) (MX D cA A ad S)) args s 0 0 A) (F0 m 56 ls []) := by
          intro n
          induction n with
          | zero => intro x8 x9 H locs ls hX hS hl hf; rw [g100] at hf; cases hf
          | succ n ihg10 =>
            intro x8 x9 H locs ls hX hS hl hf
            rw [g10s] at hf
            refine lv_iload hx hb dX11_differs_56 (lv_at hl 4 rfl) ?_
            refine lv_aload_n hx hb dX11_differs_58 rfl (lv_at hl 0 rfl) ?_
            refine mget (v := .ref (ad 5)) hx hb hC hK hX 5 (by decide) a_973 rfl dX11_differs_59 ?_
            refine lv_iload_n hx hb dX11_differs_62 rfl (lv_at hl 1 rfl) ?_
            obtain ⟨h12, j11, ej11, hf⟩ := rd_e hf
            refine mald hx hb hC hK hX (by decide) h12 ej11 dX11_differs_63 ?_
            refine lv_icmp_ge (tgt := 106) hx hb dX11_differs_64 (by decide) (fun c13 => ?_) (fun c13 => ?_)
            · have hf := it_t c13 hf
              refine lv_iload_n hx hb dX11_differs_106 rfl (lv_at hl 3 rfl) ?_
              cases hf
              exact Ct_ri hx hb hr hlk hX hS dX11_differs_107
            · have hf := it_f c13 hf
              refine lv_iload_n hx hb dX11_differs_67 rfl (lv_at hl 3 rfl) ?_
              refine lv_aload_n hx hb dX11_differs_68 rfl (lv_at hl 0 rfl) ?_
              refine mget (v := .ref (ad 35)) hx hb hC hK hX 35 (by decide) a_1003 rfl dX11_differs_69 ?_
              refine lv_iconst (v := 0) hx hb dX11_differs_72 (by decide) ?_
              refine lv_iload_n hx hb dX11_differs_73 rfl (lv_at hl 2 rfl) ?_
              refine lv_aload_n hx hb dX11_differs_74 rfl (lv_at hl 0 rfl) ?_
              refine mget (v := .ref (ad 6)) hx hb hC hK hX 6 (by decide) a_974 rfl dX11_differs_75 ?_
              refine lv_bipush (v := 12) hx hb dX11_differs_78 (by decide) ?_
              refine lv_iload_n hx hb dX11_differs_80 rfl (lv_at hl 1 rfl) ?_
              refine lv_imul hx hb dX11_differs_81 ?_
              refine lv_iload hx hb dX11_differs_82 (lv_at hl 4 rfl) ?_
              refine lv_iadd hx hb dX11_differs_84 ?_
              obtain ⟨h15, j14, ej14, hf⟩ := rd_e hf
              refine mald hx hb hC hK hX (by decide) h15 ej14 dX11_differs_85 ?_
              obtain ⟨z16, hz16, hf⟩ := cb_e hf
              refine mSi (As := [.ref (ad 35), .int 0, .int x2, .int (S.2 6 j14)]) (rest := [.int x8]) hC (c_m_placeOf (by decide) hz16) q_m_placeOf a_1121 (Nat.le_of_ble_eq_true rfl) hX hKX rfl hl.1 (Nat.le_of_ble_eq_true rfl) dX11_differs_86 hS (fun H locs hX hS => ?_)
              refine lv_iconst (v := (-1)) hx hb dX11_differs_89 (by decide) ?_
              obtain ⟨k18, hk18, hf⟩ := jn1_e hf
              have Jk18 : ∀ (x17 : Int32) (H : Heap) (locs : List Loc) (ls : Array Slot), MX D cA A ad S H → va_S A s.heap H locs → lv_has ls 5 [(0, .ref (ad 0)), (1, .int x1), (2, .int x2), (4, .int x9)] → k18 x17 = some r → W p l e (RM 1 0 0) s m args below meth c H locs 0 0 (MQ below (CtQ A (some (.int r)) (MX D cA A ad S)) args s 0 0 A) (F0 m 98 ls [.int x17, .int x8]) := by
                intro x17 H locs ls hX hS hl hf
                rw [hk18] at hf
                refine lv_iadd hx hb dX11_differs_98 ?_
                refine lv_istore_n (lv' := [(3, .int (x8 + x17)), (0, .ref (ad 0)), (1, .int x1), (2, .int x2), (4, .int x9)]) hx hb dX11_differs_99 rfl hl (by decide) rfl (fun ls hl => ?_)
                refine lv_iinc (v := (x9 + 1)) (lv' := [(4, .int (x9 + 1)), (3, .int (x8 + x17)), (0, .ref (ad 0)), (1, .int x1), (2, .int x2)]) hx hb dX11_differs_100 hl (k := 4) rfl rfl (by decide) rfl (fun ls hl => ?_)
                refine lv_goto (tgt := 56) hx hb dX11_differs_103 (by decide) ?_
                exact ihg10 _ _ _ _ _ hX hS (lv_sub hl [2, 3, 4, 1, 0] rfl) hf
              refine lv_icmp_ne (tgt := 97) hx hb dX11_differs_90 (by decide) (fun c19 => ?_) (fun c19 => ?_)
              · have hf := it_f c19 hf
                refine lv_iconst (v := 0) hx hb dX11_differs_97 (by decide) ?_
                exact Jk18 _ _ _ _ hX hS (lv_sub hl [0, 1, 2, 4] rfl) hf
              · have hf := it_t c19 hf
                refine lv_iconst (v := 1) hx hb dX11_differs_93 (by decide) ?_
                refine lv_goto (tgt := 98) hx hb dX11_differs_94 (by decide) ?_
                exact Jk18 _ _ _ _ hX hS (lv_sub hl [0, 1, 2, 4] rfl) hf
        exact Lg10 FU _ _ _ _ _ hX hS (lv_sub hl [1, 2, 3, 4, 0] rfl) hf
      · have hf := it_f c7 hf
        refine lv_iload_n hx hb dX11_differs_11 rfl (lv_at hl 3 rfl) ?_
        refine lv_aload_n hx hb dX11_differs_12 rfl (lv_at hl 0 rfl) ?_
        refine mget (v := .ref (ad 6)) hx hb hC hK hX 6 (by decide) a_974 rfl dX11_differs_13 ?_
        refine lv_bipush (v := 12) hx hb dX11_differs_16 (by decide) ?_
        refine lv_iload_n hx hb dX11_differs_18 rfl (lv_at hl 1 rfl) ?_
        refine lv_imul hx hb dX11_differs_19 ?_
        refine lv_aload_n hx hb dX11_differs_20 rfl (lv_at hl 0 rfl) ?_
        refine mget (v := .ref (ad 5)) hx hb hC hK hX 5 (by decide) a_973 rfl dX11_differs_21 ?_
        refine lv_iload_n hx hb dX11_differs_24 rfl (lv_at hl 1 rfl) ?_
        obtain ⟨h21, j20, ej20, hf⟩ := rd_e hf
        refine mald hx hb hC hK hX (by decide) h21 ej20 dX11_differs_25 ?_
        refine lv_aload_n hx hb dX11_differs_26 rfl (lv_at hl 0 rfl) ?_
        refine mget (v := .ref (ad 35)) hx hb hC hK hX 35 (by decide) a_1003 rfl dX11_differs_27 ?_
        refine lv_iload hx hb dX11_differs_30 (lv_at hl 4 rfl) ?_
        obtain ⟨h23, j22, ej22, hf⟩ := rd_e hf
        refine mald hx hb hC hK hX (by decide) h23 ej22 dX11_differs_32 ?_
        obtain ⟨z24, hz24, hf⟩ := cb_e hf
        refine mSi (As := [.ref (ad 6), .int (12 * x1), .int (S.2 5 j20), .int (S.2 35 j22)]) (rest := [.int x4]) hC (c_m_placeOf (by decide) hz24) q_m_placeOf a_1121 (Nat.le_of_ble_eq_true rfl) hX hKX rfl hl.1 (Nat.le_of_ble_eq_true rfl) dX11_differs_33 hS (fun H locs hX hS => ?_)
        refine lv_iconst (v := (-1)) hx hb dX11_differs_36 (by decide) ?_
        obtain ⟨k26, hk26, hf⟩ := jn1_e hf
        have Jk26 : ∀ (x25 : Int32) (H : Heap) (locs : List Loc) (ls : Array Slot), MX D cA A ad S H → va_S A s.heap H locs → lv_has ls 5 [(0, .ref (ad 0)), (1, .int x1), (2, .int x2), (4, .int x5)] → k26 x25 = some r → W p l e (RM 1 0 0) s m args below meth c H locs 0 0 (MQ below (CtQ A (some (.int r)) (MX D cA A ad S)) args s 0 0 A) (F0 m 45 ls [.int x25, .int x4]) := by
          intro x25 H locs ls hX hS hl hf
          rw [hk26] at hf
          refine lv_iadd hx hb dX11_differs_45 ?_
          refine lv_istore_n (lv' := [(3, .int (x4 + x25)), (0, .ref (ad 0)), (1, .int x1), (2, .int x2), (4, .int x5)]) hx hb dX11_differs_46 rfl hl (by decide) rfl (fun ls hl => ?_)
          refine lv_iinc (v := (x5 + 1)) (lv' := [(4, .int (x5 + 1)), (3, .int (x4 + x25)), (0, .ref (ad 0)), (1, .int x1), (2, .int x2)]) hx hb dX11_differs_47 hl (k := 4) rfl rfl (by decide) rfl (fun ls hl => ?_)
          refine lv_goto (tgt := 5) hx hb dX11_differs_50 (by decide) ?_
          exact ihg6 _ _ _ _ _ hX hS (lv_sub hl [2, 3, 4, 1, 0] rfl) hf
        refine lv_icmp_ne (tgt := 44) hx hb dX11_differs_37 (by decide) (fun c27 => ?_) (fun c27 => ?_)
        · have hf := it_f c27 hf
          refine lv_iconst (v := 0) hx hb dX11_differs_44 (by decide) ?_
          exact Jk26 _ _ _ _ hX hS (lv_sub hl [0, 1, 2, 4] rfl) hf
        · have hf := it_t c27 hf
          refine lv_iconst (v := 1) hx hb dX11_differs_40 (by decide) ?_
          refine lv_goto (tgt := 45) hx hb dX11_differs_41 (by decide) ?_
          exact Jk26 _ _ _ _ hX hS (lv_sub hl [0, 1, 2, 4] rfl) hf
  exact Lg6 FU _ _ _ _ _ hX hS (lv_sub hl [2, 3, 4, 1, 0] rfl) hf

theorem q_m_fewest : VWv RX11 yX11_fewest cX11_fewest 6 (some .int) 0 := ⟨a_1289, a_55, a_1287, a_1288, by decide +kernel⟩
set_option maxRecDepth 100000 in
set_option maxHeartbeats 4000000 in
theorem c_m_fewest {l : Launch} {D : va_G} {cA : Nat → ClassId} {A : Nat → Prop} {ad : Nat → Nat}  {S : St} {r : Int32} {S' : St} (hf : m_fewest S = some (r, S')) : Ct l D cA A yX11_fewest cX11_fewest 6 (some .int) 6 0 0 [.ref (ad 0)] (MX D cA A ad S) (some (.int r)) (MX D cA A ad S') := by
  refine Ct_of (by decide +kernel) (Nat.le_of_ble_eq_true rfl) ?_
  intro p e s m args below meth c ls hC hr hlk hnm hX hKX hl
  have hK := hKX.1
  have hx := hC.1
  have hb := hC.2.1
  have hS : va_S A s.heap s.heap [] := va_S.rf
  have hX : MX D cA A ad S s.heap := hX
  have hl : lv_has ls 6 [(0, .ref (ad 0))] := hl
  unfold m_fewest at hf
  refine lv_aload_n hx hb dX11_fewest_0 rfl (lv_at hl 0 rfl) ?_
  refine lv_aload_n hx hb dX11_fewest_1 rfl (lv_at hl 0 rfl) ?_
  refine mget (v := .int (S.1 21)) hx hb hC hK hX 21 (by decide) a_989 rfl dX11_fewest_2 ?_
  obtain ⟨k3, hk3, hf⟩ := jn1_e hf
  have Jk3 : ∀ (x2 : Int32) (H : Heap) (locs : List Loc) (ls : Array Slot), MX D cA A ad S H → va_S A s.heap H locs → lv_has ls 6 [(0, .ref (ad 0))] → k3 x2 = some (r, S') → W p l e (RM 6 0 0) s m args below meth c H locs 0 0 (MQ below (CtQ A (some (.int r)) (MX D cA A ad S')) args s 0 0 A) (F0 m 20 ls [.int x2, .ref (ad 0)]) := by
    intro x2 H locs ls hX hS hl hf
    rw [hk3] at hf
    refine mput_0 hx hb hC hK hX hS a_968 dX11_fewest_20 (fun H locs hX hS => ?_)
    obtain ⟨S4, eS4, hf⟩ := lt_e hf
    rw [← eS4] at hX
    refine lv_aload_n hx hb dX11_fewest_23 rfl (lv_at hl 0 rfl) ?_
    refine mget (v := .int (S4.1 0)) hx hb hC hK hX 0 (by decide) a_968 rfl dX11_fewest_24 ?_
    refine lv_if_le (tgt := 32) hx hb dX11_fewest_27 (by decide) (fun c5 => ?_) (fun c5 => ?_)
    · have hf := it_t c5 hf
      refine lv_aload_n hx hb dX11_fewest_32 rfl (lv_at hl 0 rfl) ?_
      refine lv_aload_n hx hb dX11_fewest_33 rfl (lv_at hl 0 rfl) ?_
      refine mget (v := .int (S4.1 22)) hx hb hC hK hX 22 (by decide) a_990 rfl dX11_fewest_34 ?_
      obtain ⟨z6, hz6, hf⟩ := cb_e hf
      refine mVi (As := [.int (S4.1 22)]) (rest := []) hC (c_m_tableOf hz6) q_m_tableOf a_1294 (Nat.le_of_ble_eq_true rfl) hX hKX rfl hl.1 (Nat.le_of_ble_eq_true rfl) dX11_fewest_37 hS (fun H locs hX hS => ?_)
      refine lv_istore_n (lv' := [(1, .int z6), (0, .ref (ad 0))]) hx hb dX11_fewest_40 rfl hl (by decide) rfl (fun ls hl => ?_)
      refine lv_aload_n hx hb dX11_fewest_41 rfl (lv_at hl 1 rfl) ?_
      refine mget (v := .ref (ad 5)) hx hb hC hK hX 5 (by decide) a_973 rfl dX11_fewest_42 ?_
      refine lv_iload_n hx hb dX11_fewest_45 rfl (lv_at hl 0 rfl) ?_
      obtain ⟨h8, j7, ej7, hf⟩ := rd_e hf
      refine mald hx hb hC hK hX (by decide) h8 ej7 dX11_fewest_46 ?_
      refine lv_istore_n (lv' := [(2, .int (S4.2 5 j7)), (1, .int z6), (0, .ref (ad 0))]) hx hb dX11_fewest_47 rfl hl (by decide) rfl (fun ls hl => ?_)
      refine lv_iconst (v := 0) hx hb dX11_fewest_48 (by decide) ?_
      refine lv_istore_n (lv' := [(3, .int 0), (2, .int (S4.2 5 j7)), (1, .int z6), (0, .ref (ad 0))]) hx hb dX11_fewest_49 rfl hl (by decide) rfl (fun ls hl => ?_)
      obtain ⟨g11, g110, g11s, hf⟩ := lp2_e hf
      have Lg11 : ∀ (n : Nat) (x9 : Int32) (S10 : St) (H : Heap) (locs : List Loc) (ls : Array Slot), MX D cA A ad S10 H → va_S A s.heap H locs → lv_has ls 6 [(0, .ref (ad 0)), (1, .int z6), (2, .int (S4.2 5 j7)), (3, .int x9)] → g11 n x9 S10 = some (r, S') → W p l e (RM 6 0 0) s m args below meth c H locs 0 0 (MQ below (CtQ A (some (.int r)) (MX D cA A ad S')) args s 0 0 A) (F0 m 50 ls []) := by
        intro n
        induction n with
        | zero => intro x9 S10 H locs ls hX hS hl hf; rw [g110] at hf; cases hf
        | succ n ihg11 =>
          intro x9 S10 H locs ls hX hS hl hf
          rw [g11s] at hf
          refine lv_iload_n hx hb dX11_fewest_50 rfl (lv_at hl 3 rfl) ?_
          refine lv_iload_n hx hb dX11_fewest_51 rfl (lv_at hl 2 rfl) ?_
          refine lv_icmp_ge (tgt := 78) hx hb dX11_fewest_52 (by decide) (fun c12 => ?_) (fun c12 => ?_)
          · have hf := it_t c12 hf
            refine lv_iconst (v := (-1)) hx hb dX11_fewest_78 (by decide) ?_
            refine lv_istore_n (lv' := [(3, .int (-1)), (0, .ref (ad 0)), (1, .int z6), (2, .int (S4.2 5 j7))]) hx hb dX11_fewest_79 rfl hl (by decide) rfl (fun ls hl => ?_)
            refine lv_iconst (v := 0) hx hb dX11_fewest_80 (by decide) ?_
            refine lv_istore (lv' := [(4, .int 0), (3, .int (-1)), (0, .ref (ad 0)), (1, .int z6), (2, .int (S4.2 5 j7))]) hx hb dX11_fewest_81 hl (by decide) rfl (fun ls hl => ?_)
            obtain ⟨g16, g160, g16s, hf⟩ := lp3_e hf
            have Lg16 : ∀ (n : Nat) (x13 : Int32) (x14 : Int32) (S15 : St) (H : Heap) (locs : List Loc) (ls : Array Slot), MX D cA A ad S15 H → va_S A s.heap H locs → lv_has ls 6 [(0, .ref (ad 0)), (1, .int z6), (2, .int (S4.2 5 j7)), (3, .int x13), (4, .int x14)] → g16 n x13 x14 S15 = some (r, S') → W p l e (RM 6 0 0) s m args below meth c H locs 0 0 (MQ below (CtQ A (some (.int r)) (MX D cA A ad S')) args s 0 0 A) (F0 m 83 ls []) := by
              intro n
              induction n with
              | zero => intro x13 x14 S15 H locs ls hX hS hl hf; rw [g160] at hf; cases hf
              | succ n ihg16 =>
                intro x13 x14 S15 H locs ls hX hS hl hf
                rw [g16s] at hf
                refine lv_iload hx hb dX11_fewest_83 (lv_at hl 4 rfl) ?_
                refine lv_sipush (v := 512) hx hb dX11_fewest_85 (by decide) ?_
                refine lv_icmp_ge (tgt := 140) hx hb dX11_fewest_88 (by decide) (fun c17 => ?_) (fun c17 => ?_)
                · have hf := it_t c17 hf
                  refine lv_aload_n hx hb dX11_fewest_140 rfl (lv_at hl 0 rfl) ?_
                  refine mget (v := .ref (ad 5)) hx hb hC hK hX 5 (by decide) a_973 rfl dX11_fewest_141 ?_
                  refine lv_iload_n hx hb dX11_fewest_144 rfl (lv_at hl 1 rfl) ?_
                  refine lv_iload_n hx hb dX11_fewest_145 rfl (lv_at hl 2 rfl) ?_
                  obtain ⟨h19, j18, ej18, hf⟩ := rd_e hf
                  refine mast hx hb hC hK hX hS (by decide) h19 ej18 dX11_fewest_146 (fun H locs hX hS => ?_)
                  obtain ⟨S20, eS20, hf⟩ := lt_e hf
                  rw [← eS20] at hX
                  refine lv_iconst (v := 0) hx hb dX11_fewest_147 (by decide) ?_
                  refine lv_istore (lv' := [(4, .int 0), (0, .ref (ad 0)), (1, .int z6), (2, .int (S4.2 5 j7)), (3, .int x13)]) hx hb dX11_fewest_148 hl (by decide) rfl (fun ls hl => ?_)
                  obtain ⟨g23, g230, g23s, hf⟩ := lp2_e hf
                  have Lg23 : ∀ (n : Nat) (x21 : Int32) (S22 : St) (H : Heap) (locs : List Loc) (ls : Array Slot), MX D cA A ad S22 H → va_S A s.heap H locs → lv_has ls 6 [(0, .ref (ad 0)), (1, .int z6), (2, .int (S4.2 5 j7)), (3, .int x13), (4, .int x21)] → g23 n x21 S22 = some (r, S') → W p l e (RM 6 0 0) s m args below meth c H locs 0 0 (MQ below (CtQ A (some (.int r)) (MX D cA A ad S')) args s 0 0 A) (F0 m 150 ls []) := by
                    intro n
                    induction n with
                    | zero => intro x21 S22 H locs ls hX hS hl hf; rw [g230] at hf; cases hf
                    | succ n ihg23 =>
                      intro x21 S22 H locs ls hX hS hl hf
                      rw [g23s] at hf
                      refine lv_iload hx hb dX11_fewest_150 (lv_at hl 4 rfl) ?_
                      refine lv_iload_n hx hb dX11_fewest_152 rfl (lv_at hl 2 rfl) ?_
                      refine lv_icmp_ge (tgt := 181) hx hb dX11_fewest_153 (by decide) (fun c24 => ?_) (fun c24 => ?_)
                      · have hf := it_t c24 hf
                        refine lv_iload_n hx hb dX11_fewest_181 rfl (lv_at hl 3 rfl) ?_
                        cases hf
                        exact Ct_ri hx hb hr hlk hX hS dX11_fewest_182
                      · have hf := it_f c24 hf
                        refine lv_aload_n hx hb dX11_fewest_156 rfl (lv_at hl 0 rfl) ?_
                        refine mget (v := .ref (ad 6)) hx hb hC hK hX 6 (by decide) a_974 rfl dX11_fewest_157 ?_
                        refine lv_bipush (v := 12) hx hb dX11_fewest_160 (by decide) ?_
                        refine lv_iload_n hx hb dX11_fewest_162 rfl (lv_at hl 1 rfl) ?_
                        refine lv_imul hx hb dX11_fewest_163 ?_
                        refine lv_iload hx hb dX11_fewest_164 (lv_at hl 4 rfl) ?_
                        refine lv_iadd hx hb dX11_fewest_166 ?_
                        refine lv_aload_n hx hb dX11_fewest_167 rfl (lv_at hl 0 rfl) ?_
                        refine mget (v := .ref (ad 35)) hx hb hC hK hX 35 (by decide) a_1003 rfl dX11_fewest_168 ?_
                        refine lv_iload hx hb dX11_fewest_171 (lv_at hl 4 rfl) ?_
                        obtain ⟨h26, j25, ej25, hf⟩ := rd_e hf
                        refine mald hx hb hC hK hX (by decide) h26 ej25 dX11_fewest_173 ?_
                        obtain ⟨h28, j27, ej27, hf⟩ := rd_e hf
                        refine mast hx hb hC hK hX hS (by decide) h28 ej27 dX11_fewest_174 (fun H locs hX hS => ?_)
                        obtain ⟨S29, eS29, hf⟩ := lt_e hf
                        rw [← eS29] at hX
                        refine lv_iinc (v := (x21 + 1)) (lv' := [(4, .int (x21 + 1)), (0, .ref (ad 0)), (1, .int z6), (2, .int (S4.2 5 j7)), (3, .int x13)]) hx hb dX11_fewest_175 hl (k := 4) rfl rfl (by decide) rfl (fun ls hl => ?_)
                        refine lv_goto (tgt := 150) hx hb dX11_fewest_178 (by decide) ?_
                        exact ihg23 _ _ _ _ _ hX hS (lv_sub hl [1, 2, 3, 4, 0] rfl) hf
                  exact Lg23 FU _ _ _ _ _ hX hS (lv_sub hl [1, 2, 3, 4, 0] rfl) hf
                · have hf := it_f c17 hf
                  refine lv_aload_n hx hb dX11_fewest_91 rfl (lv_at hl 0 rfl) ?_
                  refine lv_iload_n hx hb dX11_fewest_92 rfl (lv_at hl 1 rfl) ?_
                  refine lv_iload hx hb dX11_fewest_93 (lv_at hl 4 rfl) ?_
                  obtain ⟨z30, S31, hz30, hf⟩ := cb2_e hf
                  refine mVi (As := [.int z6, .int x14]) (rest := []) hC (c_m_laysTable hz30) q_m_laysTable a_1301 (Nat.le_of_ble_eq_true rfl) hX hKX rfl hl.1 (Nat.le_of_ble_eq_true rfl) dX11_fewest_95 hS (fun H locs hX hS => ?_)
                  refine lv_if_eq (tgt := 134) hx hb dX11_fewest_98 (by decide) (fun c32 => ?_) (fun c32 => ?_)
                  · have hf := it_t c32 hf
                    refine lv_iinc (v := (x14 + 1)) (lv' := [(4, .int (x14 + 1)), (0, .ref (ad 0)), (1, .int z6), (2, .int (S4.2 5 j7)), (3, .int x13)]) hx hb dX11_fewest_134 hl (k := 4) rfl rfl (by decide) rfl (fun ls hl => ?_)
                    refine lv_goto (tgt := 83) hx hb dX11_fewest_137 (by decide) ?_
                    exact ihg16 _ _ _ _ _ _ hX hS (lv_sub hl [1, 2, 3, 4, 0] rfl) hf
                  · have hf := it_f c32 hf
                    refine lv_aload_n hx hb dX11_fewest_101 rfl (lv_at hl 0 rfl) ?_
                    obtain ⟨z33, S34, hz33, hf⟩ := cb2_e hf
                    refine mVi (As := []) (rest := []) hC (c_m_isDraft hz33) q_m_isDraft a_1309 (Nat.le_of_ble_eq_true rfl) hX hKX rfl hl.1 (Nat.le_of_ble_eq_true rfl) dX11_fewest_102 hS (fun H locs hX hS => ?_)
                    refine lv_if_eq (tgt := 134) hx hb dX11_fewest_105 (by decide) (fun c35 => ?_) (fun c35 => ?_)
                    · have hf := it_t c35 hf
                      refine lv_iinc (v := (x14 + 1)) (lv' := [(4, .int (x14 + 1)), (0, .ref (ad 0)), (1, .int z6), (2, .int (S4.2 5 j7)), (3, .int x13)]) hx hb dX11_fewest_134 hl (k := 4) rfl rfl (by decide) rfl (fun ls hl => ?_)
                      refine lv_goto (tgt := 83) hx hb dX11_fewest_137 (by decide) ?_
                      exact ihg16 _ _ _ _ _ _ hX hS (lv_sub hl [1, 2, 3, 4, 0] rfl) hf
                    · have hf := it_f c35 hf
                      refine lv_aload_n hx hb dX11_fewest_108 rfl (lv_at hl 0 rfl) ?_
                      refine lv_iload_n hx hb dX11_fewest_109 rfl (lv_at hl 1 rfl) ?_
                      refine lv_iload_n hx hb dX11_fewest_110 rfl (lv_at hl 2 rfl) ?_
                      obtain ⟨z36, hz36, hf⟩ := cb_e hf
                      refine mVi (As := [.int z6, .int (S4.2 5 j7)]) (rest := []) hC (c_m_differs hz36) q_m_differs a_1313 (Nat.le_of_ble_eq_true rfl) hX hKX rfl hl.1 (Nat.le_of_ble_eq_true rfl) dX11_fewest_111 hS (fun H locs hX hS => ?_)
                      refine lv_istore (lv' := [(5, .int z36), (0, .ref (ad 0)), (1, .int z6), (2, .int (S4.2 5 j7)), (3, .int x13), (4, .int x14)]) hx hb dX11_fewest_114 hl (by decide) rfl (fun ls hl => ?_)
                      refine lv_iload_n hx hb dX11_fewest_116 rfl (lv_at hl 4 rfl) ?_
                      refine lv_iconst (v := (-1)) hx hb dX11_fewest_117 (by decide) ?_
                      obtain ⟨k37, hk37, hf⟩ := jn0_e hf
                      have Jk37 : ∀  (H : Heap) (locs : List Loc) (ls : Array Slot), MX D cA A ad S34 H → va_S A s.heap H locs → lv_has ls 6 [(0, .ref (ad 0)), (1, .int z6), (2, .int (S4.2 5 j7)), (4, .int x14), (5, .int z36)] → k37 = some (r, S') → W p l e (RM 6 0 0) s m args below meth c H locs 0 0 (MQ below (CtQ A (some (.int r)) (MX D cA A ad S')) args s 0 0 A) (F0 m 127 ls []) := by
                        intro  H locs ls hX hS hl hf
                        rw [hk37] at hf
                        refine lv_iload hx hb dX11_fewest_127 (lv_at hl 4 rfl) ?_
                        refine lv_goto (tgt := 133) hx hb dX11_fewest_129 (by decide) ?_
                        refine lv_istore_n (lv' := [(3, .int z36), (0, .ref (ad 0)), (1, .int z6), (2, .int (S4.2 5 j7)), (4, .int x14), (5, .int z36)]) hx hb dX11_fewest_133 rfl hl (by decide) rfl (fun ls hl => ?_)
                        refine lv_iinc (v := (x14 + 1)) (lv' := [(4, .int (x14 + 1)), (3, .int z36), (0, .ref (ad 0)), (1, .int z6), (2, .int (S4.2 5 j7)), (5, .int z36)]) hx hb dX11_fewest_134 hl (k := 4) rfl rfl (by decide) rfl (fun ls hl => ?_)
                        refine lv_goto (tgt := 83) hx hb dX11_fewest_137 (by decide) ?_
                        exact ihg16 _ _ _ _ _ _ hX hS (lv_sub hl [2, 3, 4, 1, 0] rfl) hf
                      refine lv_icmp_eq (tgt := 127) hx hb dX11_fewest_118 (by decide) (fun c38 => ?_) (fun c38 => ?_)
                      · have hf := it_t c38 hf
                        exact Jk37 _ _ _ hX hS (lv_sub hl [1, 2, 3, 5, 0] rfl) hf
                      · have hf := it_f c38 hf
                        refine lv_iload hx hb dX11_fewest_121 (lv_at hl 0 rfl) ?_
                        refine lv_iload_n hx hb dX11_fewest_123 rfl (lv_at hl 4 rfl) ?_
                        refine lv_icmp_ge (tgt := 132) hx hb dX11_fewest_124 (by decide) (fun c39 => ?_) (fun c39 => ?_)
                        · have hf := it_t c39 hf
                          refine lv_iload_n hx hb dX11_fewest_132 rfl (lv_at hl 4 rfl) ?_
                          refine lv_istore_n (lv' := [(3, .int x13), (5, .int z36), (0, .ref (ad 0)), (1, .int z6), (2, .int (S4.2 5 j7)), (4, .int x14)]) hx hb dX11_fewest_133 rfl hl (by decide) rfl (fun ls hl => ?_)
                          refine lv_iinc (v := (x14 + 1)) (lv' := [(4, .int (x14 + 1)), (3, .int x13), (5, .int z36), (0, .ref (ad 0)), (1, .int z6), (2, .int (S4.2 5 j7))]) hx hb dX11_fewest_134 hl (k := 5) rfl rfl (by decide) rfl (fun ls hl => ?_)
                          refine lv_goto (tgt := 83) hx hb dX11_fewest_137 (by decide) ?_
                          exact ihg16 _ _ _ _ _ _ hX hS (lv_sub hl [3, 4, 5, 1, 0] rfl) hf
                        · have hf := it_f c39 hf
                          exact Jk37 _ _ _ hX hS (lv_sub hl [1, 2, 3, 5, 0] rfl) hf
            exact Lg16 FU _ _ _ _ _ _ hX hS (lv_sub hl [2, 3, 4, 1, 0] rfl) hf
          · have hf := it_f c12 hf
            refine lv_aload_n hx hb dX11_fewest_55 rfl (lv_at hl 0 rfl) ?_
            refine mget (v := .ref (ad 35)) hx hb hC hK hX 35 (by decide) a_1003 rfl dX11_fewest_56 ?_
            refine lv_iload_n hx hb dX11_fewest_59 rfl (lv_at hl 3 rfl) ?_
            refine lv_aload_n hx hb dX11_fewest_60 rfl (lv_at hl 0 rfl) ?_
            refine mget (v := .ref (ad 6)) hx hb hC hK hX 6 (by decide) a_974 rfl dX11_fewest_61 ?_
            refine lv_bipush (v := 12) hx hb dX11_fewest_64 (by decide) ?_
            refine lv_iload_n hx hb dX11_fewest_66 rfl (lv_at hl 1 rfl) ?_
            refine lv_imul hx hb dX11_fewest_67 ?_
            refine lv_iload_n hx hb dX11_fewest_68 rfl (lv_at hl 3 rfl) ?_
            refine lv_iadd hx hb dX11_fewest_69 ?_
            obtain ⟨h41, j40, ej40, hf⟩ := rd_e hf
            refine mald hx hb hC hK hX (by decide) h41 ej40 dX11_fewest_70 ?_
            obtain ⟨h43, j42, ej42, hf⟩ := rd_e hf
            refine mast hx hb hC hK hX hS (by decide) h43 ej42 dX11_fewest_71 (fun H locs hX hS => ?_)
            obtain ⟨S44, eS44, hf⟩ := lt_e hf
            rw [← eS44] at hX
            refine lv_iinc (v := (x9 + 1)) (lv' := [(3, .int (x9 + 1)), (0, .ref (ad 0)), (1, .int z6), (2, .int (S4.2 5 j7))]) hx hb dX11_fewest_72 hl (k := 3) rfl rfl (by decide) rfl (fun ls hl => ?_)
            refine lv_goto (tgt := 50) hx hb dX11_fewest_75 (by decide) ?_
            exact ihg11 _ _ _ _ _ hX hS (lv_sub hl [1, 2, 3, 0] rfl) hf
      exact Lg11 FU _ _ _ _ _ hX hS (lv_sub hl [3, 2, 1, 0] rfl) hf
    · have hf := it_f c5 hf
      refine lv_iconst (v := 0) hx hb dX11_fewest_30 (by decide) ?_
      cases hf
      exact Ct_ri hx hb hr hlk hX hS dX11_fewest_31
  refine lv_if_eq (tgt := 15) hx hb dX11_fewest_5 (by decide) (fun c45 => ?_) (fun c45 => ?_)
  · have hf := it_t c45 hf
    refine lv_iconst (v := 1) hx hb dX11_fewest_15 (by decide) ?_
    refine lv_goto (tgt := 20) hx hb dX11_fewest_16 (by decide) ?_
    exact Jk3 _ _ _ _ hX hS (lv_sub hl [0] rfl) hf
  · have hf := it_f c45 hf
    refine lv_aload_n hx hb dX11_fewest_8 rfl (lv_at hl 0 rfl) ?_
    obtain ⟨z46, hz46, hf⟩ := cb_e hf
    refine mVi (As := []) (rest := [.ref (ad 0)]) hC (c_m_canTry hz46) q_m_canTry a_1290 (Nat.le_of_ble_eq_true rfl) hX hKX rfl hl.1 (Nat.le_of_ble_eq_true rfl) dX11_fewest_9 hS (fun H locs hX hS => ?_)
    refine lv_if_ne (tgt := 19) hx hb dX11_fewest_12 (by decide) (fun c47 => ?_) (fun c47 => ?_)
    · have hf := it_f c47 hf
      refine lv_iconst (v := 0) hx hb dX11_fewest_19 (by decide) ?_
      exact Jk3 _ _ _ _ hX hS (lv_sub hl [0] rfl) hf
    · have hf := it_t c47 hf
      refine lv_iconst (v := 1) hx hb dX11_fewest_15 (by decide) ?_
      refine lv_goto (tgt := 20) hx hb dX11_fewest_16 (by decide) ?_
      exact Jk3 _ _ _ _ hX hS (lv_sub hl [0] rfl) hf

theorem q_m_keeps : VWv RX11 yX11_keeps cX11_keeps 2 none 0 := ⟨a_1324, a_55, a_1323, a_49, by decide +kernel⟩
set_option maxRecDepth 100000 in
set_option maxHeartbeats 4000000 in
theorem c_m_keeps {l : Launch} {D : va_G} {cA : Nat → ClassId} {A : Nat → Prop} {ad : Nat → Nat}  {S : St} {S' : St} (hf : m_keeps S = some S') : Ct l D cA A yX11_keeps cX11_keeps 2 none 0 0 0 [.ref (ad 0)] (MX D cA A ad S) none (MX D cA A ad S') := by
  refine Ct_of (by decide +kernel) (Nat.le_of_ble_eq_true rfl) ?_
  intro p e s m args below meth c ls hC hr hlk hnm hX hKX hl
  have hK := hKX.1
  have hx := hC.1
  have hb := hC.2.1
  have hS : va_S A s.heap s.heap [] := va_S.rf
  have hX : MX D cA A ad S s.heap := hX
  have hl : lv_has ls 2 [(0, .ref (ad 0))] := hl
  unfold m_keeps at hf
  refine lv_aload_n hx hb dX11_keeps_0 rfl (lv_at hl 0 rfl) ?_
  refine mget (v := .int (S.1 32)) hx hb hC hK hX 32 (by decide) a_1000 rfl dX11_keeps_1 ?_
  refine lv_iconst (v := 5) hx hb dX11_keeps_4 (by decide) ?_
  refine lv_icmp_ne (tgt := 76) hx hb dX11_keeps_5 (by decide) (fun c2 => ?_) (fun c2 => ?_)
  · have hf := it_f c2 hf
    refine lv_iconst (v := 0) hx hb dX11_keeps_76 (by decide) ?_
    refine lv_istore_n (lv' := [(1, .int 0), (0, .ref (ad 0))]) hx hb dX11_keeps_77 rfl hl (by decide) rfl (fun ls hl => ?_)
    obtain ⟨g5, g50, g5s, hf⟩ := lp2_e hf
    have Lg5 : ∀ (n : Nat) (x3 : Int32) (S4 : St) (H : Heap) (locs : List Loc) (ls : Array Slot), MX D cA A ad S4 H → va_S A s.heap H locs → lv_has ls 2 [(0, .ref (ad 0)), (1, .int x3)] → g5 n x3 S4 = some S' → W p l e (RM 0 0 0) s m args below meth c H locs 0 0 (MQ below (CtQ A none (MX D cA A ad S')) args s 0 0 A) (F0 m 78 ls []) := by
      intro n
      induction n with
      | zero => intro x3 S4 H locs ls hX hS hl hf; rw [g50] at hf; cases hf
      | succ n ihg5 =>
        intro x3 S4 H locs ls hX hS hl hf
        rw [g5s] at hf
        refine lv_iload_n hx hb dX11_keeps_78 rfl (lv_at hl 1 rfl) ?_
        refine lv_iconst (v := 3) hx hb dX11_keeps_79 (by decide) ?_
        refine lv_icmp_ge (tgt := 120) hx hb dX11_keeps_80 (by decide) (fun c6 => ?_) (fun c6 => ?_)
        · have hf := it_t c6 hf
          refine lv_iconst (v := 0) hx hb dX11_keeps_120 (by decide) ?_
          refine lv_istore_n (lv' := [(1, .int 0), (0, .ref (ad 0))]) hx hb dX11_keeps_121 rfl hl (by decide) rfl (fun ls hl => ?_)
          obtain ⟨g9, g90, g9s, hf⟩ := lp2_e hf
          have Lg9 : ∀ (n : Nat) (x7 : Int32) (S8 : St) (H : Heap) (locs : List Loc) (ls : Array Slot), MX D cA A ad S8 H → va_S A s.heap H locs → lv_has ls 2 [(0, .ref (ad 0)), (1, .int x7)] → g9 n x7 S8 = some S' → W p l e (RM 0 0 0) s m args below meth c H locs 0 0 (MQ below (CtQ A none (MX D cA A ad S')) args s 0 0 A) (F0 m 122 ls []) := by
            intro n
            induction n with
            | zero => intro x7 S8 H locs ls hX hS hl hf; rw [g90] at hf; cases hf
            | succ n ihg9 =>
              intro x7 S8 H locs ls hX hS hl hf
              rw [g9s] at hf
              refine lv_iload_n hx hb dX11_keeps_122 rfl (lv_at hl 1 rfl) ?_
              refine lv_bipush (v := 36) hx hb dX11_keeps_123 (by decide) ?_
              refine lv_icmp_ge (tgt := 154) hx hb dX11_keeps_125 (by decide) (fun c10 => ?_) (fun c10 => ?_)
              · have hf := it_t c10 hf
                refine lv_aload_n hx hb dX11_keeps_154 rfl (lv_at hl 0 rfl) ?_
                refine lv_dup hx hb dX11_keeps_155 rfl ?_
                refine mget (v := .int (S8.1 32)) hx hb hC hK hX 32 (by decide) a_1000 rfl dX11_keeps_156 ?_
                refine lv_iconst (v := 1) hx hb dX11_keeps_159 (by decide) ?_
                refine lv_iadd hx hb dX11_keeps_160 ?_
                refine mput_32 hx hb hC hK hX hS a_1000 dX11_keeps_161 (fun H locs hX hS => ?_)
                obtain ⟨S11, eS11, hf⟩ := lt_e hf
                rw [← eS11] at hX
                cases hf
                exact Ct_rv hx hb hr hlk hX hS dX11_keeps_164
              · have hf := it_f c10 hf
                refine lv_aload_n hx hb dX11_keeps_128 rfl (lv_at hl 0 rfl) ?_
                refine mget (v := .ref (ad 34)) hx hb hC hK hX 34 (by decide) a_1002 rfl dX11_keeps_129 ?_
                refine lv_bipush (v := 36) hx hb dX11_keeps_132 (by decide) ?_
                refine lv_aload_n hx hb dX11_keeps_134 rfl (lv_at hl 0 rfl) ?_
                refine mget (v := .int (S8.1 32)) hx hb hC hK hX 32 (by decide) a_1000 rfl dX11_keeps_135 ?_
                refine lv_imul hx hb dX11_keeps_138 ?_
                refine lv_iload_n hx hb dX11_keeps_139 rfl (lv_at hl 1 rfl) ?_
                refine lv_iadd hx hb dX11_keeps_140 ?_
                refine lv_aload_n hx hb dX11_keeps_141 rfl (lv_at hl 0 rfl) ?_
                refine mget (v := .ref (ad 6)) hx hb hC hK hX 6 (by decide) a_974 rfl dX11_keeps_142 ?_
                refine lv_iload_n hx hb dX11_keeps_145 rfl (lv_at hl 1 rfl) ?_
                obtain ⟨h13, j12, ej12, hf⟩ := rd_e hf
                refine mald hx hb hC hK hX (by decide) h13 ej12 dX11_keeps_146 ?_
                obtain ⟨h15, j14, ej14, hf⟩ := rd_e hf
                refine mast hx hb hC hK hX hS (by decide) h15 ej14 dX11_keeps_147 (fun H locs hX hS => ?_)
                obtain ⟨S16, eS16, hf⟩ := lt_e hf
                rw [← eS16] at hX
                refine lv_iinc (v := (x7 + 1)) (lv' := [(1, .int (x7 + 1)), (0, .ref (ad 0))]) hx hb dX11_keeps_148 hl (k := 1) rfl rfl (by decide) rfl (fun ls hl => ?_)
                refine lv_goto (tgt := 122) hx hb dX11_keeps_151 (by decide) ?_
                exact ihg9 _ _ _ _ _ hX hS (lv_sub hl [1, 0] rfl) hf
          exact Lg9 FU _ _ _ _ _ hX hS (lv_sub hl [1, 0] rfl) hf
        · have hf := it_f c6 hf
          refine lv_aload_n hx hb dX11_keeps_83 rfl (lv_at hl 0 rfl) ?_
          refine mget (v := .ref (ad 33)) hx hb hC hK hX 33 (by decide) a_1001 rfl dX11_keeps_84 ?_
          refine lv_iconst (v := 3) hx hb dX11_keeps_87 (by decide) ?_
          refine lv_aload_n hx hb dX11_keeps_88 rfl (lv_at hl 0 rfl) ?_
          refine mget (v := .int (S4.1 32)) hx hb hC hK hX 32 (by decide) a_1000 rfl dX11_keeps_89 ?_
          refine lv_imul hx hb dX11_keeps_92 ?_
          refine lv_iload_n hx hb dX11_keeps_93 rfl (lv_at hl 1 rfl) ?_
          refine lv_iadd hx hb dX11_keeps_94 ?_
          refine lv_iload_n hx hb dX11_keeps_95 rfl (lv_at hl 1 rfl) ?_
          refine lv_aload_n hx hb dX11_keeps_96 rfl (lv_at hl 0 rfl) ?_
          refine mget (v := .int (S4.1 2)) hx hb hC hK hX 2 (by decide) a_970 rfl dX11_keeps_97 ?_
          refine lv_icmp_ge (tgt := 112) hx hb dX11_keeps_100 (by decide) (fun c17 => ?_) (fun c17 => ?_)
          · have hf := it_t c17 hf
            refine lv_iconst (v := 0) hx hb dX11_keeps_112 (by decide) ?_
            obtain ⟨h19, j18, ej18, hf⟩ := rd_e hf
            refine mast hx hb hC hK hX hS (by decide) h19 ej18 dX11_keeps_113 (fun H locs hX hS => ?_)
            obtain ⟨S20, eS20, hf⟩ := lt_e hf
            rw [← eS20] at hX
            refine lv_iinc (v := (x3 + 1)) (lv' := [(1, .int (x3 + 1)), (0, .ref (ad 0))]) hx hb dX11_keeps_114 hl (k := 1) rfl rfl (by decide) rfl (fun ls hl => ?_)
            refine lv_goto (tgt := 78) hx hb dX11_keeps_117 (by decide) ?_
            exact ihg5 _ _ _ _ _ hX hS (lv_sub hl [1, 0] rfl) hf
          · have hf := it_f c17 hf
            refine lv_aload_n hx hb dX11_keeps_103 rfl (lv_at hl 0 rfl) ?_
            refine mget (v := .ref (ad 5)) hx hb hC hK hX 5 (by decide) a_973 rfl dX11_keeps_104 ?_
            refine lv_iload_n hx hb dX11_keeps_107 rfl (lv_at hl 1 rfl) ?_
            obtain ⟨h22, j21, ej21, hf⟩ := rd_e hf
            refine mald hx hb hC hK hX (by decide) h22 ej21 dX11_keeps_108 ?_
            refine lv_goto (tgt := 113) hx hb dX11_keeps_109 (by decide) ?_
            obtain ⟨h24, j23, ej23, hf⟩ := rd_e hf
            refine mast hx hb hC hK hX hS (by decide) h24 ej23 dX11_keeps_113 (fun H locs hX hS => ?_)
            obtain ⟨S25, eS25, hf⟩ := lt_e hf
            rw [← eS25] at hX
            refine lv_iinc (v := (x3 + 1)) (lv' := [(1, .int (x3 + 1)), (0, .ref (ad 0))]) hx hb dX11_keeps_114 hl (k := 1) rfl rfl (by decide) rfl (fun ls hl => ?_)
            refine lv_goto (tgt := 78) hx hb dX11_keeps_117 (by decide) ?_
            exact ihg5 _ _ _ _ _ hX hS (lv_sub hl [1, 0] rfl) hf
    exact Lg5 FU _ _ _ _ _ hX hS (lv_sub hl [1, 0] rfl) hf
  · have hf := it_t c2 hf
    refine lv_iconst (v := 0) hx hb dX11_keeps_8 (by decide) ?_
    refine lv_istore_n (lv' := [(1, .int 0), (0, .ref (ad 0))]) hx hb dX11_keeps_9 rfl hl (by decide) rfl (fun ls hl => ?_)
    obtain ⟨g28, g280, g28s, hf⟩ := lp2_e hf
    have Lg28 : ∀ (n : Nat) (x26 : Int32) (S27 : St) (H : Heap) (locs : List Loc) (ls : Array Slot), MX D cA A ad S27 H → va_S A s.heap H locs → lv_has ls 2 [(0, .ref (ad 0)), (1, .int x26)] → g28 n x26 S27 = some S' → W p l e (RM 0 0 0) s m args below meth c H locs 0 0 (MQ below (CtQ A none (MX D cA A ad S')) args s 0 0 A) (F0 m 10 ls []) := by
      intro n
      induction n with
      | zero => intro x26 S27 H locs ls hX hS hl hf; rw [g280] at hf; cases hf
      | succ n ihg28 =>
        intro x26 S27 H locs ls hX hS hl hf
        rw [g28s] at hf
        refine lv_iload_n hx hb dX11_keeps_10 rfl (lv_at hl 1 rfl) ?_
        refine lv_bipush (v := 12) hx hb dX11_keeps_11 (by decide) ?_
        refine lv_icmp_ge (tgt := 36) hx hb dX11_keeps_13 (by decide) (fun c29 => ?_) (fun c29 => ?_)
        · have hf := it_t c29 hf
          refine lv_iconst (v := 0) hx hb dX11_keeps_36 (by decide) ?_
          refine lv_istore_n (lv' := [(1, .int 0), (0, .ref (ad 0))]) hx hb dX11_keeps_37 rfl hl (by decide) rfl (fun ls hl => ?_)
          obtain ⟨g32, g320, g32s, hf⟩ := lp2_e hf
          have Lg32 : ∀ (n : Nat) (x30 : Int32) (S31 : St) (H : Heap) (locs : List Loc) (ls : Array Slot), MX D cA A ad S31 H → va_S A s.heap H locs → lv_has ls 2 [(0, .ref (ad 0)), (1, .int x30)] → g32 n x30 S31 = some S' → W p l e (RM 0 0 0) s m args below meth c H locs 0 0 (MQ below (CtQ A none (MX D cA A ad S')) args s 0 0 A) (F0 m 38 ls []) := by
            intro n
            induction n with
            | zero => intro x30 S31 H locs ls hX hS hl hf; rw [g320] at hf; cases hf
            | succ n ihg32 =>
              intro x30 S31 H locs ls hX hS hl hf
              rw [g32s] at hf
              refine lv_iload_n hx hb dX11_keeps_38 rfl (lv_at hl 1 rfl) ?_
              refine lv_sipush (v := 144) hx hb dX11_keeps_39 (by decide) ?_
              refine lv_icmp_ge (tgt := 66) hx hb dX11_keeps_42 (by decide) (fun c33 => ?_) (fun c33 => ?_)
              · have hf := it_t c33 hf
                refine lv_aload_n hx hb dX11_keeps_66 rfl (lv_at hl 0 rfl) ?_
                refine lv_dup hx hb dX11_keeps_67 rfl ?_
                refine mget (v := .int (S31.1 32)) hx hb hC hK hX 32 (by decide) a_1000 rfl dX11_keeps_68 ?_
                refine lv_iconst (v := 1) hx hb dX11_keeps_71 (by decide) ?_
                refine lv_isub hx hb dX11_keeps_72 ?_
                refine mput_32 hx hb hC hK hX hS a_1000 dX11_keeps_73 (fun H locs hX hS => ?_)
                obtain ⟨S34, eS34, hf⟩ := lt_e hf
                rw [← eS34] at hX
                refine lv_iconst (v := 0) hx hb dX11_keeps_76 (by decide) ?_
                refine lv_istore_n (lv' := [(1, .int 0), (0, .ref (ad 0))]) hx hb dX11_keeps_77 rfl hl (by decide) rfl (fun ls hl => ?_)
                obtain ⟨g37, g370, g37s, hf⟩ := lp2_e hf
                have Lg37 : ∀ (n : Nat) (x35 : Int32) (S36 : St) (H : Heap) (locs : List Loc) (ls : Array Slot), MX D cA A ad S36 H → va_S A s.heap H locs → lv_has ls 2 [(0, .ref (ad 0)), (1, .int x35)] → g37 n x35 S36 = some S' → W p l e (RM 0 0 0) s m args below meth c H locs 0 0 (MQ below (CtQ A none (MX D cA A ad S')) args s 0 0 A) (F0 m 78 ls []) := by
                  intro n
                  induction n with
                  | zero => intro x35 S36 H locs ls hX hS hl hf; rw [g370] at hf; cases hf
                  | succ n ihg37 =>
                    intro x35 S36 H locs ls hX hS hl hf
                    rw [g37s] at hf
                    refine lv_iload_n hx hb dX11_keeps_78 rfl (lv_at hl 1 rfl) ?_
                    refine lv_iconst (v := 3) hx hb dX11_keeps_79 (by decide) ?_
                    refine lv_icmp_ge (tgt := 120) hx hb dX11_keeps_80 (by decide) (fun c38 => ?_) (fun c38 => ?_)
                    · have hf := it_t c38 hf
                      refine lv_iconst (v := 0) hx hb dX11_keeps_120 (by decide) ?_
                      refine lv_istore_n (lv' := [(1, .int 0), (0, .ref (ad 0))]) hx hb dX11_keeps_121 rfl hl (by decide) rfl (fun ls hl => ?_)
                      obtain ⟨g41, g410, g41s, hf⟩ := lp2_e hf
                      have Lg41 : ∀ (n : Nat) (x39 : Int32) (S40 : St) (H : Heap) (locs : List Loc) (ls : Array Slot), MX D cA A ad S40 H → va_S A s.heap H locs → lv_has ls 2 [(0, .ref (ad 0)), (1, .int x39)] → g41 n x39 S40 = some S' → W p l e (RM 0 0 0) s m args below meth c H locs 0 0 (MQ below (CtQ A none (MX D cA A ad S')) args s 0 0 A) (F0 m 122 ls []) := by
                        intro n
                        induction n with
                        | zero => intro x39 S40 H locs ls hX hS hl hf; rw [g410] at hf; cases hf
                        | succ n ihg41 =>
                          intro x39 S40 H locs ls hX hS hl hf
                          rw [g41s] at hf
                          refine lv_iload_n hx hb dX11_keeps_122 rfl (lv_at hl 1 rfl) ?_
                          refine lv_bipush (v := 36) hx hb dX11_keeps_123 (by decide) ?_
                          refine lv_icmp_ge (tgt := 154) hx hb dX11_keeps_125 (by decide) (fun c42 => ?_) (fun c42 => ?_)
                          · have hf := it_t c42 hf
                            refine lv_aload_n hx hb dX11_keeps_154 rfl (lv_at hl 0 rfl) ?_
                            refine lv_dup hx hb dX11_keeps_155 rfl ?_
                            refine mget (v := .int (S40.1 32)) hx hb hC hK hX 32 (by decide) a_1000 rfl dX11_keeps_156 ?_
                            refine lv_iconst (v := 1) hx hb dX11_keeps_159 (by decide) ?_
                            refine lv_iadd hx hb dX11_keeps_160 ?_
                            refine mput_32 hx hb hC hK hX hS a_1000 dX11_keeps_161 (fun H locs hX hS => ?_)
                            obtain ⟨S43, eS43, hf⟩ := lt_e hf
                            rw [← eS43] at hX
                            cases hf
                            exact Ct_rv hx hb hr hlk hX hS dX11_keeps_164
                          · have hf := it_f c42 hf
                            refine lv_aload_n hx hb dX11_keeps_128 rfl (lv_at hl 0 rfl) ?_
                            refine mget (v := .ref (ad 34)) hx hb hC hK hX 34 (by decide) a_1002 rfl dX11_keeps_129 ?_
                            refine lv_bipush (v := 36) hx hb dX11_keeps_132 (by decide) ?_
                            refine lv_aload_n hx hb dX11_keeps_134 rfl (lv_at hl 0 rfl) ?_
                            refine mget (v := .int (S40.1 32)) hx hb hC hK hX 32 (by decide) a_1000 rfl dX11_keeps_135 ?_
                            refine lv_imul hx hb dX11_keeps_138 ?_
                            refine lv_iload_n hx hb dX11_keeps_139 rfl (lv_at hl 1 rfl) ?_
                            refine lv_iadd hx hb dX11_keeps_140 ?_
                            refine lv_aload_n hx hb dX11_keeps_141 rfl (lv_at hl 0 rfl) ?_
                            refine mget (v := .ref (ad 6)) hx hb hC hK hX 6 (by decide) a_974 rfl dX11_keeps_142 ?_
                            refine lv_iload_n hx hb dX11_keeps_145 rfl (lv_at hl 1 rfl) ?_
                            obtain ⟨h45, j44, ej44, hf⟩ := rd_e hf
                            refine mald hx hb hC hK hX (by decide) h45 ej44 dX11_keeps_146 ?_
                            obtain ⟨h47, j46, ej46, hf⟩ := rd_e hf
                            refine mast hx hb hC hK hX hS (by decide) h47 ej46 dX11_keeps_147 (fun H locs hX hS => ?_)
                            obtain ⟨S48, eS48, hf⟩ := lt_e hf
                            rw [← eS48] at hX
                            refine lv_iinc (v := (x39 + 1)) (lv' := [(1, .int (x39 + 1)), (0, .ref (ad 0))]) hx hb dX11_keeps_148 hl (k := 1) rfl rfl (by decide) rfl (fun ls hl => ?_)
                            refine lv_goto (tgt := 122) hx hb dX11_keeps_151 (by decide) ?_
                            exact ihg41 _ _ _ _ _ hX hS (lv_sub hl [1, 0] rfl) hf
                      exact Lg41 FU _ _ _ _ _ hX hS (lv_sub hl [1, 0] rfl) hf
                    · have hf := it_f c38 hf
                      refine lv_aload_n hx hb dX11_keeps_83 rfl (lv_at hl 0 rfl) ?_
                      refine mget (v := .ref (ad 33)) hx hb hC hK hX 33 (by decide) a_1001 rfl dX11_keeps_84 ?_
                      refine lv_iconst (v := 3) hx hb dX11_keeps_87 (by decide) ?_
                      refine lv_aload_n hx hb dX11_keeps_88 rfl (lv_at hl 0 rfl) ?_
                      refine mget (v := .int (S36.1 32)) hx hb hC hK hX 32 (by decide) a_1000 rfl dX11_keeps_89 ?_
                      refine lv_imul hx hb dX11_keeps_92 ?_
                      refine lv_iload_n hx hb dX11_keeps_93 rfl (lv_at hl 1 rfl) ?_
                      refine lv_iadd hx hb dX11_keeps_94 ?_
                      refine lv_iload_n hx hb dX11_keeps_95 rfl (lv_at hl 1 rfl) ?_
                      refine lv_aload_n hx hb dX11_keeps_96 rfl (lv_at hl 0 rfl) ?_
                      refine mget (v := .int (S36.1 2)) hx hb hC hK hX 2 (by decide) a_970 rfl dX11_keeps_97 ?_
                      refine lv_icmp_ge (tgt := 112) hx hb dX11_keeps_100 (by decide) (fun c49 => ?_) (fun c49 => ?_)
                      · have hf := it_t c49 hf
                        refine lv_iconst (v := 0) hx hb dX11_keeps_112 (by decide) ?_
                        obtain ⟨h51, j50, ej50, hf⟩ := rd_e hf
                        refine mast hx hb hC hK hX hS (by decide) h51 ej50 dX11_keeps_113 (fun H locs hX hS => ?_)
                        obtain ⟨S52, eS52, hf⟩ := lt_e hf
                        rw [← eS52] at hX
                        refine lv_iinc (v := (x35 + 1)) (lv' := [(1, .int (x35 + 1)), (0, .ref (ad 0))]) hx hb dX11_keeps_114 hl (k := 1) rfl rfl (by decide) rfl (fun ls hl => ?_)
                        refine lv_goto (tgt := 78) hx hb dX11_keeps_117 (by decide) ?_
                        exact ihg37 _ _ _ _ _ hX hS (lv_sub hl [1, 0] rfl) hf
                      · have hf := it_f c49 hf
                        refine lv_aload_n hx hb dX11_keeps_103 rfl (lv_at hl 0 rfl) ?_
                        refine mget (v := .ref (ad 5)) hx hb hC hK hX 5 (by decide) a_973 rfl dX11_keeps_104 ?_
                        refine lv_iload_n hx hb dX11_keeps_107 rfl (lv_at hl 1 rfl) ?_
                        obtain ⟨h54, j53, ej53, hf⟩ := rd_e hf
                        refine mald hx hb hC hK hX (by decide) h54 ej53 dX11_keeps_108 ?_
                        refine lv_goto (tgt := 113) hx hb dX11_keeps_109 (by decide) ?_
                        obtain ⟨h56, j55, ej55, hf⟩ := rd_e hf
                        refine mast hx hb hC hK hX hS (by decide) h56 ej55 dX11_keeps_113 (fun H locs hX hS => ?_)
                        obtain ⟨S57, eS57, hf⟩ := lt_e hf
                        rw [← eS57] at hX
                        refine lv_iinc (v := (x35 + 1)) (lv' := [(1, .int (x35 + 1)), (0, .ref (ad 0))]) hx hb dX11_keeps_114 hl (k := 1) rfl rfl (by decide) rfl (fun ls hl => ?_)
                        refine lv_goto (tgt := 78) hx hb dX11_keeps_117 (by decide) ?_
                        exact ihg37 _ _ _ _ _ hX hS (lv_sub hl [1, 0] rfl) hf
                exact Lg37 FU _ _ _ _ _ hX hS (lv_sub hl [1, 0] rfl) hf
              · have hf := it_f c33 hf
                refine lv_aload_n hx hb dX11_keeps_45 rfl (lv_at hl 0 rfl) ?_
                refine mget (v := .ref (ad 34)) hx hb hC hK hX 34 (by decide) a_1002 rfl dX11_keeps_46 ?_
                refine lv_iload_n hx hb dX11_keeps_49 rfl (lv_at hl 1 rfl) ?_
                refine lv_aload_n hx hb dX11_keeps_50 rfl (lv_at hl 0 rfl) ?_
                refine mget (v := .ref (ad 34)) hx hb hC hK hX 34 (by decide) a_1002 rfl dX11_keeps_51 ?_
                refine lv_iload_n hx hb dX11_keeps_54 rfl (lv_at hl 1 rfl) ?_
                refine lv_bipush (v := 36) hx hb dX11_keeps_55 (by decide) ?_
                refine lv_iadd hx hb dX11_keeps_57 ?_
                obtain ⟨h59, j58, ej58, hf⟩ := rd_e hf
                refine mald hx hb hC hK hX (by decide) h59 ej58 dX11_keeps_58 ?_
                obtain ⟨h61, j60, ej60, hf⟩ := rd_e hf
                refine mast hx hb hC hK hX hS (by decide) h61 ej60 dX11_keeps_59 (fun H locs hX hS => ?_)
                obtain ⟨S62, eS62, hf⟩ := lt_e hf
                rw [← eS62] at hX
                refine lv_iinc (v := (x30 + 1)) (lv' := [(1, .int (x30 + 1)), (0, .ref (ad 0))]) hx hb dX11_keeps_60 hl (k := 1) rfl rfl (by decide) rfl (fun ls hl => ?_)
                refine lv_goto (tgt := 38) hx hb dX11_keeps_63 (by decide) ?_
                exact ihg32 _ _ _ _ _ hX hS (lv_sub hl [1, 0] rfl) hf
          exact Lg32 FU _ _ _ _ _ hX hS (lv_sub hl [1, 0] rfl) hf
        · have hf := it_f c29 hf
          refine lv_aload_n hx hb dX11_keeps_16 rfl (lv_at hl 0 rfl) ?_
          refine mget (v := .ref (ad 33)) hx hb hC hK hX 33 (by decide) a_1001 rfl dX11_keeps_17 ?_
          refine lv_iload_n hx hb dX11_keeps_20 rfl (lv_at hl 1 rfl) ?_
          refine lv_aload_n hx hb dX11_keeps_21 rfl (lv_at hl 0 rfl) ?_
          refine mget (v := .ref (ad 33)) hx hb hC hK hX 33 (by decide) a_1001 rfl dX11_keeps_22 ?_
          refine lv_iload_n hx hb dX11_keeps_25 rfl (lv_at hl 1 rfl) ?_
          refine lv_iconst (v := 3) hx hb dX11_keeps_26 (by decide) ?_
          refine lv_iadd hx hb dX11_keeps_27 ?_
          obtain ⟨h64, j63, ej63, hf⟩ := rd_e hf
          refine mald hx hb hC hK hX (by decide) h64 ej63 dX11_keeps_28 ?_
          obtain ⟨h66, j65, ej65, hf⟩ := rd_e hf
          refine mast hx hb hC hK hX hS (by decide) h66 ej65 dX11_keeps_29 (fun H locs hX hS => ?_)
          obtain ⟨S67, eS67, hf⟩ := lt_e hf
          rw [← eS67] at hX
          refine lv_iinc (v := (x26 + 1)) (lv' := [(1, .int (x26 + 1)), (0, .ref (ad 0))]) hx hb dX11_keeps_30 hl (k := 1) rfl rfl (by decide) rfl (fun ls hl => ?_)
          refine lv_goto (tgt := 10) hx hb dX11_keeps_33 (by decide) ?_
          exact ihg28 _ _ _ _ _ hX hS (lv_sub hl [1, 0] rfl) hf
    exact Lg28 FU _ _ _ _ _ hX hS (lv_sub hl [1, 0] rfl) hf

theorem q_m_putBack : VWv RX11 yX11_putBack cX11_putBack 4 (some .int) 0 := ⟨a_1320, a_55, a_1318, a_1319, by decide +kernel⟩
set_option maxRecDepth 100000 in
set_option maxHeartbeats 4000000 in
theorem c_m_putBack {l : Launch} {D : va_G} {cA : Nat → ClassId} {A : Nat → Prop} {ad : Nat → Nat}  {S : St} {r : Int32} {S' : St} (hf : m_putBack S = some (r, S')) : Ct l D cA A yX11_putBack cX11_putBack 4 (some .int) 7 0 0 [.ref (ad 0)] (MX D cA A ad S) (some (.int r)) (MX D cA A ad S') := by
  refine Ct_of (by decide +kernel) (Nat.le_of_ble_eq_true rfl) ?_
  intro p e s m args below meth c ls hC hr hlk hnm hX hKX hl
  have hK := hKX.1
  have hx := hC.1
  have hb := hC.2.1
  have hS : va_S A s.heap s.heap [] := va_S.rf
  have hX : MX D cA A ad S s.heap := hX
  have hl : lv_has ls 4 [(0, .ref (ad 0))] := hl
  unfold m_putBack at hf
  refine lv_aload_n hx hb dX11_putBack_0 rfl (lv_at hl 0 rfl) ?_
  refine lv_aload_n hx hb dX11_putBack_1 rfl (lv_at hl 0 rfl) ?_
  refine mget (v := .int (S.1 21)) hx hb hC hK hX 21 (by decide) a_989 rfl dX11_putBack_2 ?_
  obtain ⟨k3, hk3, hf⟩ := jn1_e hf
  have Jk3 : ∀ (x2 : Int32) (H : Heap) (locs : List Loc) (ls : Array Slot), MX D cA A ad S H → va_S A s.heap H locs → lv_has ls 4 [(0, .ref (ad 0))] → k3 x2 = some (r, S') → W p l e (RM 7 0 0) s m args below meth c H locs 0 0 (MQ below (CtQ A (some (.int r)) (MX D cA A ad S')) args s 0 0 A) (F0 m 13 ls [.int x2, .ref (ad 0)]) := by
    intro x2 H locs ls hX hS hl hf
    rw [hk3] at hf
    refine mput_0 hx hb hC hK hX hS a_968 dX11_putBack_13 (fun H locs hX hS => ?_)
    obtain ⟨S4, eS4, hf⟩ := lt_e hf
    rw [← eS4] at hX
    refine lv_aload_n hx hb dX11_putBack_16 rfl (lv_at hl 0 rfl) ?_
    refine mget (v := .int (S4.1 0)) hx hb hC hK hX 0 (by decide) a_968 rfl dX11_putBack_17 ?_
    obtain ⟨k6, hk6, hf⟩ := jn1_e hf
    have Jk6 : ∀ (S5 : St) (H : Heap) (locs : List Loc) (ls : Array Slot), MX D cA A ad S5 H → va_S A s.heap H locs → lv_has ls 4 [(0, .ref (ad 0))] → k6 S5 = some (r, S') → W p l e (RM 7 0 0) s m args below meth c H locs 0 0 (MQ below (CtQ A (some (.int r)) (MX D cA A ad S')) args s 0 0 A) (F0 m 43 ls []) := by
      intro S5 H locs ls hX hS hl hf
      rw [hk6] at hf
      refine lv_aload_n hx hb dX11_putBack_43 rfl (lv_at hl 0 rfl) ?_
      refine mget (v := .int (S5.1 0)) hx hb hC hK hX 0 (by decide) a_968 rfl dX11_putBack_44 ?_
      refine lv_if_le (tgt := 52) hx hb dX11_putBack_47 (by decide) (fun c7 => ?_) (fun c7 => ?_)
      · have hf := it_t c7 hf
        refine lv_aload_n hx hb dX11_putBack_52 rfl (lv_at hl 0 rfl) ?_
        obtain ⟨z8, hz8, hf⟩ := cb_e hf
        refine mVi (As := []) (rest := []) hC (c_m_manyChanges hz8) q_m_manyChanges a_1282 (Nat.le_of_ble_eq_true rfl) hX hKX rfl hl.1 (Nat.le_of_ble_eq_true rfl) dX11_putBack_53 hS (fun H locs hX hS => ?_)
        refine lv_istore_n (lv' := [(1, .int z8), (0, .ref (ad 0))]) hx hb dX11_putBack_56 rfl hl (by decide) rfl (fun ls hl => ?_)
        refine lv_aload_n hx hb dX11_putBack_57 rfl (lv_at hl 1 rfl) ?_
        obtain ⟨S10, hz9, hf⟩ := cb_e hf
        refine mVv (As := []) (rest := []) hC (c_m_keeps hz9) q_m_keeps a_1321 (Nat.le_of_ble_eq_true rfl) hX hKX rfl hl.1 (Nat.le_of_ble_eq_true rfl) dX11_putBack_58 hS (fun H locs hX hS => ?_)
        refine lv_iconst (v := 0) hx hb dX11_putBack_61 (by decide) ?_
        refine lv_istore_n (lv' := [(2, .int 0), (1, .int z8), (0, .ref (ad 0))]) hx hb dX11_putBack_62 rfl hl (by decide) rfl (fun ls hl => ?_)
        obtain ⟨g13, g130, g13s, hf⟩ := lp2_e hf
        have Lg13 : ∀ (n : Nat) (x11 : Int32) (S12 : St) (H : Heap) (locs : List Loc) (ls : Array Slot), MX D cA A ad S12 H → va_S A s.heap H locs → lv_has ls 4 [(0, .ref (ad 0)), (1, .int z8), (2, .int x11)] → g13 n x11 S12 = some (r, S') → W p l e (RM 7 0 0) s m args below meth c H locs 0 0 (MQ below (CtQ A (some (.int r)) (MX D cA A ad S')) args s 0 0 A) (F0 m 63 ls []) := by
          intro n
          induction n with
          | zero => intro x11 S12 H locs ls hX hS hl hf; rw [g130] at hf; cases hf
          | succ n ihg13 =>
            intro x11 S12 H locs ls hX hS hl hf
            rw [g13s] at hf
            refine lv_iload_n hx hb dX11_putBack_63 rfl (lv_at hl 2 rfl) ?_
            refine lv_aload_n hx hb dX11_putBack_64 rfl (lv_at hl 0 rfl) ?_
            refine mget (v := .int (S12.1 2)) hx hb hC hK hX 2 (by decide) a_970 rfl dX11_putBack_65 ?_
            refine lv_icmp_ge (tgt := 129) hx hb dX11_putBack_68 (by decide) (fun c14 => ?_) (fun c14 => ?_)
            · have hf := it_t c14 hf
              refine lv_aload_n hx hb dX11_putBack_129 rfl (lv_at hl 0 rfl) ?_
              refine lv_iconst (v := 0) hx hb dX11_putBack_130 (by decide) ?_
              refine mput_21 hx hb hC hK hX hS (by decide) a_989 dX11_putBack_131 (fun H locs hX hS => ?_)
              obtain ⟨S15, eS15, hf⟩ := lt_e hf
              rw [← eS15] at hX
              refine lv_iload_n hx hb dX11_putBack_134 rfl (lv_at hl 1 rfl) ?_
              cases hf
              exact Ct_ri hx hb hr hlk hX hS dX11_putBack_135
            · have hf := it_f c14 hf
              refine lv_aload_n hx hb dX11_putBack_71 rfl (lv_at hl 0 rfl) ?_
              refine mget (v := .ref (ad 5)) hx hb hC hK hX 5 (by decide) a_973 rfl dX11_putBack_72 ?_
              refine lv_iload_n hx hb dX11_putBack_75 rfl (lv_at hl 2 rfl) ?_
              refine lv_aload_n hx hb dX11_putBack_76 rfl (lv_at hl 0 rfl) ?_
              refine mget (v := .ref (ad 28)) hx hb hC hK hX 28 (by decide) a_996 rfl dX11_putBack_77 ?_
              refine lv_iload_n hx hb dX11_putBack_80 rfl (lv_at hl 2 rfl) ?_
              obtain ⟨h17, j16, ej16, hf⟩ := rd_e hf
              refine mald hx hb hC hK hX (by decide) h17 ej16 dX11_putBack_81 ?_
              obtain ⟨h19, j18, ej18, hf⟩ := rd_e hf
              refine mast hx hb hC hK hX hS (by decide) h19 ej18 dX11_putBack_82 (fun H locs hX hS => ?_)
              obtain ⟨S20, eS20, hf⟩ := lt_e hf
              rw [← eS20] at hX
              refine lv_iconst (v := 0) hx hb dX11_putBack_83 (by decide) ?_
              refine lv_istore_n (lv' := [(3, .int 0), (0, .ref (ad 0)), (1, .int z8), (2, .int x11)]) hx hb dX11_putBack_84 rfl hl (by decide) rfl (fun ls hl => ?_)
              obtain ⟨g23, g230, g23s, hf⟩ := lp2_e hf
              have Lg23 : ∀ (n : Nat) (x21 : Int32) (S22 : St) (H : Heap) (locs : List Loc) (ls : Array Slot), MX D cA A ad S22 H → va_S A s.heap H locs → lv_has ls 4 [(0, .ref (ad 0)), (1, .int z8), (2, .int x11), (3, .int x21)] → g23 n x21 S22 = some (r, S') → W p l e (RM 7 0 0) s m args below meth c H locs 0 0 (MQ below (CtQ A (some (.int r)) (MX D cA A ad S')) args s 0 0 A) (F0 m 85 ls []) := by
                intro n
                induction n with
                | zero => intro x21 S22 H locs ls hX hS hl hf; rw [g230] at hf; cases hf
                | succ n ihg23 =>
                  intro x21 S22 H locs ls hX hS hl hf
                  rw [g23s] at hf
                  refine lv_iload_n hx hb dX11_putBack_85 rfl (lv_at hl 3 rfl) ?_
                  refine lv_aload_n hx hb dX11_putBack_86 rfl (lv_at hl 0 rfl) ?_
                  refine mget (v := .ref (ad 5)) hx hb hC hK hX 5 (by decide) a_973 rfl dX11_putBack_87 ?_
                  refine lv_iload_n hx hb dX11_putBack_90 rfl (lv_at hl 2 rfl) ?_
                  obtain ⟨h25, j24, ej24, hf⟩ := rd_e hf
                  refine mald hx hb hC hK hX (by decide) h25 ej24 dX11_putBack_91 ?_
                  refine lv_icmp_ge (tgt := 123) hx hb dX11_putBack_92 (by decide) (fun c26 => ?_) (fun c26 => ?_)
                  · have hf := it_t c26 hf
                    refine lv_iinc (v := (x11 + 1)) (lv' := [(2, .int (x11 + 1)), (0, .ref (ad 0)), (1, .int z8), (3, .int x21)]) hx hb dX11_putBack_123 hl (k := 2) rfl rfl (by decide) rfl (fun ls hl => ?_)
                    refine lv_goto (tgt := 63) hx hb dX11_putBack_126 (by decide) ?_
                    exact ihg13 _ _ _ _ _ hX hS (lv_sub hl [1, 2, 0] rfl) hf
                  · have hf := it_f c26 hf
                    refine lv_aload_n hx hb dX11_putBack_95 rfl (lv_at hl 0 rfl) ?_
                    refine mget (v := .ref (ad 6)) hx hb hC hK hX 6 (by decide) a_974 rfl dX11_putBack_96 ?_
                    refine lv_bipush (v := 12) hx hb dX11_putBack_99 (by decide) ?_
                    refine lv_iload_n hx hb dX11_putBack_101 rfl (lv_at hl 2 rfl) ?_
                    refine lv_imul hx hb dX11_putBack_102 ?_
                    refine lv_iload_n hx hb dX11_putBack_103 rfl (lv_at hl 3 rfl) ?_
                    refine lv_iadd hx hb dX11_putBack_104 ?_
                    refine lv_aload_n hx hb dX11_putBack_105 rfl (lv_at hl 0 rfl) ?_
                    refine mget (v := .ref (ad 29)) hx hb hC hK hX 29 (by decide) a_997 rfl dX11_putBack_106 ?_
                    refine lv_bipush (v := 12) hx hb dX11_putBack_109 (by decide) ?_
                    refine lv_iload_n hx hb dX11_putBack_111 rfl (lv_at hl 2 rfl) ?_
                    refine lv_imul hx hb dX11_putBack_112 ?_
                    refine lv_iload_n hx hb dX11_putBack_113 rfl (lv_at hl 3 rfl) ?_
                    refine lv_iadd hx hb dX11_putBack_114 ?_
                    obtain ⟨h28, j27, ej27, hf⟩ := rd_e hf
                    refine mald hx hb hC hK hX (by decide) h28 ej27 dX11_putBack_115 ?_
                    obtain ⟨h30, j29, ej29, hf⟩ := rd_e hf
                    refine mast hx hb hC hK hX hS (by decide) h30 ej29 dX11_putBack_116 (fun H locs hX hS => ?_)
                    obtain ⟨S31, eS31, hf⟩ := lt_e hf
                    rw [← eS31] at hX
                    refine lv_iinc (v := (x21 + 1)) (lv' := [(3, .int (x21 + 1)), (0, .ref (ad 0)), (1, .int z8), (2, .int x11)]) hx hb dX11_putBack_117 hl (k := 3) rfl rfl (by decide) rfl (fun ls hl => ?_)
                    refine lv_goto (tgt := 85) hx hb dX11_putBack_120 (by decide) ?_
                    exact ihg23 _ _ _ _ _ hX hS (lv_sub hl [1, 2, 3, 0] rfl) hf
              exact Lg23 FU _ _ _ _ _ hX hS (lv_sub hl [1, 2, 3, 0] rfl) hf
        exact Lg13 FU _ _ _ _ _ hX hS (lv_sub hl [2, 1, 0] rfl) hf
      · have hf := it_f c7 hf
        refine lv_iconst (v := 0) hx hb dX11_putBack_50 (by decide) ?_
        cases hf
        exact Ct_ri hx hb hr hlk hX hS dX11_putBack_51
    refine lv_if_ne (tgt := 43) hx hb dX11_putBack_20 (by decide) (fun c32 => ?_) (fun c32 => ?_)
    · have hf := it_f c32 hf
      exact Jk6 _ _ _ _ hX hS (lv_sub hl [0] rfl) hf
    · have hf := it_t c32 hf
      refine lv_aload_n hx hb dX11_putBack_23 rfl (lv_at hl 0 rfl) ?_
      obtain ⟨S34, hz33, hf⟩ := cb_e hf
      refine mVv (As := []) (rest := []) hC (c_m_goes hz33) q_m_goes a_1222 (Nat.le_of_ble_eq_true rfl) hX hKX rfl hl.1 (Nat.le_of_ble_eq_true rfl) dX11_putBack_24 hS (fun H locs hX hS => ?_)
      refine lv_aload_n hx hb dX11_putBack_27 rfl (lv_at hl 0 rfl) ?_
      refine lv_aload_n hx hb dX11_putBack_28 rfl (lv_at hl 0 rfl) ?_
      refine mget (v := .int (S34.1 25)) hx hb hC hK hX 25 (by decide) a_993 rfl dX11_putBack_29 ?_
      refine lv_if_le (tgt := 39) hx hb dX11_putBack_32 (by decide) (fun c35 => ?_) (fun c35 => ?_)
      · have hf := it_t c35 hf
        refine lv_iconst (v := 0) hx hb dX11_putBack_39 (by decide) ?_
        refine mput_0 hx hb hC hK hX hS a_968 dX11_putBack_40 (fun H locs hX hS => ?_)
        obtain ⟨S36, eS36, hf⟩ := lt_e hf
        rw [← eS36] at hX
        exact Jk6 _ _ _ _ hX hS (lv_sub hl [0] rfl) hf
      · have hf := it_f c35 hf
        refine lv_iconst (v := 1) hx hb dX11_putBack_35 (by decide) ?_
        refine lv_goto (tgt := 40) hx hb dX11_putBack_36 (by decide) ?_
        refine mput_0 hx hb hC hK hX hS a_968 dX11_putBack_40 (fun H locs hX hS => ?_)
        obtain ⟨S37, eS37, hf⟩ := lt_e hf
        rw [← eS37] at hX
        exact Jk6 _ _ _ _ hX hS (lv_sub hl [0] rfl) hf
  refine lv_if_eq (tgt := 12) hx hb dX11_putBack_5 (by decide) (fun c38 => ?_) (fun c38 => ?_)
  · have hf := it_t c38 hf
    refine lv_iconst (v := 1) hx hb dX11_putBack_12 (by decide) ?_
    exact Jk3 _ _ _ _ hX hS (lv_sub hl [0] rfl) hf
  · have hf := it_f c38 hf
    refine lv_iconst (v := 0) hx hb dX11_putBack_8 (by decide) ?_
    refine lv_goto (tgt := 13) hx hb dX11_putBack_9 (by decide) ?_
    exact Jk3 _ _ _ _ hX hS (lv_sub hl [0] rfl) hf

theorem q_m_undo : VWv RX11 yX11_undo cX11_undo 2 (some .int) 0 := ⟨a_1328, a_55, a_1326, a_1327, by decide +kernel⟩
set_option maxRecDepth 100000 in
set_option maxHeartbeats 4000000 in
theorem c_m_undo {l : Launch} {D : va_G} {cA : Nat → ClassId} {A : Nat → Prop} {ad : Nat → Nat}  {S : St} {r : Int32} {S' : St} (hf : m_undo S = some (r, S')) : Ct l D cA A yX11_undo cX11_undo 2 (some .int) 0 0 0 [.ref (ad 0)] (MX D cA A ad S) (some (.int r)) (MX D cA A ad S') := by
  refine Ct_of (by decide +kernel) (Nat.le_of_ble_eq_true rfl) ?_
  intro p e s m args below meth c ls hC hr hlk hnm hX hKX hl
  have hK := hKX.1
  have hx := hC.1
  have hb := hC.2.1
  have hS : va_S A s.heap s.heap [] := va_S.rf
  have hX : MX D cA A ad S s.heap := hX
  have hl : lv_has ls 2 [(0, .ref (ad 0))] := hl
  unfold m_undo at hf
  refine lv_aload_n hx hb dX11_undo_0 rfl (lv_at hl 0 rfl) ?_
  refine lv_aload_n hx hb dX11_undo_1 rfl (lv_at hl 0 rfl) ?_
  refine mget (v := .int (S.1 32)) hx hb hC hK hX 32 (by decide) a_1000 rfl dX11_undo_2 ?_
  obtain ⟨k3, hk3, hf⟩ := jn1_e hf
  have Jk3 : ∀ (x2 : Int32) (H : Heap) (locs : List Loc) (ls : Array Slot), MX D cA A ad S H → va_S A s.heap H locs → lv_has ls 2 [(0, .ref (ad 0))] → k3 x2 = some (r, S') → W p l e (RM 0 0 0) s m args below meth c H locs 0 0 (MQ below (CtQ A (some (.int r)) (MX D cA A ad S')) args s 0 0 A) (F0 m 13 ls [.int x2, .ref (ad 0)]) := by
    intro x2 H locs ls hX hS hl hf
    rw [hk3] at hf
    refine mput_0 hx hb hC hK hX hS a_968 dX11_undo_13 (fun H locs hX hS => ?_)
    obtain ⟨S4, eS4, hf⟩ := lt_e hf
    rw [← eS4] at hX
    refine lv_aload_n hx hb dX11_undo_16 rfl (lv_at hl 0 rfl) ?_
    refine mget (v := .int (S4.1 0)) hx hb hC hK hX 0 (by decide) a_968 rfl dX11_undo_17 ?_
    refine lv_if_le (tgt := 25) hx hb dX11_undo_20 (by decide) (fun c5 => ?_) (fun c5 => ?_)
    · have hf := it_t c5 hf
      refine lv_aload_n hx hb dX11_undo_25 rfl (lv_at hl 0 rfl) ?_
      refine lv_dup hx hb dX11_undo_26 rfl ?_
      refine mget (v := .int (S4.1 32)) hx hb hC hK hX 32 (by decide) a_1000 rfl dX11_undo_27 ?_
      refine lv_iconst (v := 1) hx hb dX11_undo_30 (by decide) ?_
      refine lv_isub hx hb dX11_undo_31 ?_
      refine mput_32 hx hb hC hK hX hS a_1000 dX11_undo_32 (fun H locs hX hS => ?_)
      obtain ⟨S6, eS6, hf⟩ := lt_e hf
      rw [← eS6] at hX
      refine lv_iconst (v := 0) hx hb dX11_undo_35 (by decide) ?_
      refine lv_istore_n (lv' := [(1, .int 0), (0, .ref (ad 0))]) hx hb dX11_undo_36 rfl hl (by decide) rfl (fun ls hl => ?_)
      obtain ⟨g9, g90, g9s, hf⟩ := lp2_e hf
      have Lg9 : ∀ (n : Nat) (x7 : Int32) (S8 : St) (H : Heap) (locs : List Loc) (ls : Array Slot), MX D cA A ad S8 H → va_S A s.heap H locs → lv_has ls 2 [(0, .ref (ad 0)), (1, .int x7)] → g9 n x7 S8 = some (r, S') → W p l e (RM 0 0 0) s m args below meth c H locs 0 0 (MQ below (CtQ A (some (.int r)) (MX D cA A ad S')) args s 0 0 A) (F0 m 37 ls []) := by
        intro n
        induction n with
        | zero => intro x7 S8 H locs ls hX hS hl hf; rw [g90] at hf; cases hf
        | succ n ihg9 =>
          intro x7 S8 H locs ls hX hS hl hf
          rw [g9s] at hf
          refine lv_iload_n hx hb dX11_undo_37 rfl (lv_at hl 1 rfl) ?_
          refine lv_aload_n hx hb dX11_undo_38 rfl (lv_at hl 0 rfl) ?_
          refine mget (v := .int (S8.1 2)) hx hb hC hK hX 2 (by decide) a_970 rfl dX11_undo_39 ?_
          refine lv_icmp_ge (tgt := 70) hx hb dX11_undo_42 (by decide) (fun c10 => ?_) (fun c10 => ?_)
          · have hf := it_t c10 hf
            refine lv_iconst (v := 0) hx hb dX11_undo_70 (by decide) ?_
            refine lv_istore_n (lv' := [(1, .int 0), (0, .ref (ad 0))]) hx hb dX11_undo_71 rfl hl (by decide) rfl (fun ls hl => ?_)
            obtain ⟨g13, g130, g13s, hf⟩ := lp2_e hf
            have Lg13 : ∀ (n : Nat) (x11 : Int32) (S12 : St) (H : Heap) (locs : List Loc) (ls : Array Slot), MX D cA A ad S12 H → va_S A s.heap H locs → lv_has ls 2 [(0, .ref (ad 0)), (1, .int x11)] → g13 n x11 S12 = some (r, S') → W p l e (RM 0 0 0) s m args below meth c H locs 0 0 (MQ below (CtQ A (some (.int r)) (MX D cA A ad S')) args s 0 0 A) (F0 m 72 ls []) := by
              intro n
              induction n with
              | zero => intro x11 S12 H locs ls hX hS hl hf; rw [g130] at hf; cases hf
              | succ n ihg13 =>
                intro x11 S12 H locs ls hX hS hl hf
                rw [g13s] at hf
                refine lv_iload_n hx hb dX11_undo_72 rfl (lv_at hl 1 rfl) ?_
                refine lv_bipush (v := 36) hx hb dX11_undo_73 (by decide) ?_
                refine lv_icmp_ge (tgt := 104) hx hb dX11_undo_75 (by decide) (fun c14 => ?_) (fun c14 => ?_)
                · have hf := it_t c14 hf
                  refine lv_aload_n hx hb dX11_undo_104 rfl (lv_at hl 0 rfl) ?_
                  refine mget (v := .int (S12.1 32)) hx hb hC hK hX 32 (by decide) a_1000 rfl dX11_undo_105 ?_
                  cases hf
                  exact Ct_ri hx hb hr hlk hX hS dX11_undo_108
                · have hf := it_f c14 hf
                  refine lv_aload_n hx hb dX11_undo_78 rfl (lv_at hl 0 rfl) ?_
                  refine mget (v := .ref (ad 6)) hx hb hC hK hX 6 (by decide) a_974 rfl dX11_undo_79 ?_
                  refine lv_iload_n hx hb dX11_undo_82 rfl (lv_at hl 1 rfl) ?_
                  refine lv_aload_n hx hb dX11_undo_83 rfl (lv_at hl 0 rfl) ?_
                  refine mget (v := .ref (ad 34)) hx hb hC hK hX 34 (by decide) a_1002 rfl dX11_undo_84 ?_
                  refine lv_bipush (v := 36) hx hb dX11_undo_87 (by decide) ?_
                  refine lv_aload_n hx hb dX11_undo_89 rfl (lv_at hl 0 rfl) ?_
                  refine mget (v := .int (S12.1 32)) hx hb hC hK hX 32 (by decide) a_1000 rfl dX11_undo_90 ?_
                  refine lv_imul hx hb dX11_undo_93 ?_
                  refine lv_iload_n hx hb dX11_undo_94 rfl (lv_at hl 1 rfl) ?_
                  refine lv_iadd hx hb dX11_undo_95 ?_
                  obtain ⟨h16, j15, ej15, hf⟩ := rd_e hf
                  refine mald hx hb hC hK hX (by decide) h16 ej15 dX11_undo_96 ?_
                  obtain ⟨h18, j17, ej17, hf⟩ := rd_e hf
                  refine mast hx hb hC hK hX hS (by decide) h18 ej17 dX11_undo_97 (fun H locs hX hS => ?_)
                  obtain ⟨S19, eS19, hf⟩ := lt_e hf
                  rw [← eS19] at hX
                  refine lv_iinc (v := (x11 + 1)) (lv' := [(1, .int (x11 + 1)), (0, .ref (ad 0))]) hx hb dX11_undo_98 hl (k := 1) rfl rfl (by decide) rfl (fun ls hl => ?_)
                  refine lv_goto (tgt := 72) hx hb dX11_undo_101 (by decide) ?_
                  exact ihg13 _ _ _ _ _ hX hS (lv_sub hl [1, 0] rfl) hf
            exact Lg13 FU _ _ _ _ _ hX hS (lv_sub hl [1, 0] rfl) hf
          · have hf := it_f c10 hf
            refine lv_aload_n hx hb dX11_undo_45 rfl (lv_at hl 0 rfl) ?_
            refine mget (v := .ref (ad 5)) hx hb hC hK hX 5 (by decide) a_973 rfl dX11_undo_46 ?_
            refine lv_iload_n hx hb dX11_undo_49 rfl (lv_at hl 1 rfl) ?_
            refine lv_aload_n hx hb dX11_undo_50 rfl (lv_at hl 0 rfl) ?_
            refine mget (v := .ref (ad 33)) hx hb hC hK hX 33 (by decide) a_1001 rfl dX11_undo_51 ?_
            refine lv_iconst (v := 3) hx hb dX11_undo_54 (by decide) ?_
            refine lv_aload_n hx hb dX11_undo_55 rfl (lv_at hl 0 rfl) ?_
            refine mget (v := .int (S8.1 32)) hx hb hC hK hX 32 (by decide) a_1000 rfl dX11_undo_56 ?_
            refine lv_imul hx hb dX11_undo_59 ?_
            refine lv_iload_n hx hb dX11_undo_60 rfl (lv_at hl 1 rfl) ?_
            refine lv_iadd hx hb dX11_undo_61 ?_
            obtain ⟨h21, j20, ej20, hf⟩ := rd_e hf
            refine mald hx hb hC hK hX (by decide) h21 ej20 dX11_undo_62 ?_
            obtain ⟨h23, j22, ej22, hf⟩ := rd_e hf
            refine mast hx hb hC hK hX hS (by decide) h23 ej22 dX11_undo_63 (fun H locs hX hS => ?_)
            obtain ⟨S24, eS24, hf⟩ := lt_e hf
            rw [← eS24] at hX
            refine lv_iinc (v := (x7 + 1)) (lv' := [(1, .int (x7 + 1)), (0, .ref (ad 0))]) hx hb dX11_undo_64 hl (k := 1) rfl rfl (by decide) rfl (fun ls hl => ?_)
            refine lv_goto (tgt := 37) hx hb dX11_undo_67 (by decide) ?_
            exact ihg9 _ _ _ _ _ hX hS (lv_sub hl [1, 0] rfl) hf
      exact Lg9 FU _ _ _ _ _ hX hS (lv_sub hl [1, 0] rfl) hf
    · have hf := it_f c5 hf
      refine lv_iconst (v := 0) hx hb dX11_undo_23 (by decide) ?_
      cases hf
      exact Ct_ri hx hb hr hlk hX hS dX11_undo_24
  refine lv_if_ne (tgt := 12) hx hb dX11_undo_5 (by decide) (fun c25 => ?_) (fun c25 => ?_)
  · have hf := it_f c25 hf
    refine lv_iconst (v := 0) hx hb dX11_undo_12 (by decide) ?_
    exact Jk3 _ _ _ _ hX hS (lv_sub hl [0] rfl) hf
  · have hf := it_t c25 hf
    refine lv_iconst (v := 1) hx hb dX11_undo_8 (by decide) ?_
    refine lv_goto (tgt := 13) hx hb dX11_undo_9 (by decide) ?_
    exact Jk3 _ _ _ _ hX hS (lv_sub hl [0] rfl) hf
