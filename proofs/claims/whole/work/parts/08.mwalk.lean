theorem q_m_thrown : VWv RX11 yX11_thrown cX11_thrown 1 (some .int) 0 := ⟨a_1081, a_55, a_1079, a_1080, by decide +kernel⟩
set_option maxRecDepth 100000 in
set_option maxHeartbeats 4000000 in
theorem c_m_thrown {l : Launch} {D : va_G} {cA : Nat → ClassId} {A : Nat → Prop} {ad : Nat → Nat}  {S : St} {r : Int32} (hf : m_thrown S = some r) : Ct l D cA A yX11_thrown cX11_thrown 1 (some .int) 0 0 0 [.ref (ad 0)] (MX D cA A ad S) (some (.int r)) (MX D cA A ad S) := by
  refine Ct_of (by decide +kernel) (Nat.le_of_ble_eq_true rfl) ?_
  intro p e s m args below meth c ls hC hr hlk hnm hX hK hl
  have hx := hC.1
  have hb := hC.2.1
  have hS : va_S A s.heap s.heap [] := va_S.rf
  have hX : MX D cA A ad S s.heap := hX
  have hl : lv_has ls 1 [(0, .ref (ad 0))] := hl
  unfold m_thrown at hf
  refine lv_aload_n hx hb dX11_thrown_0 rfl (lv_at hl 0 rfl) ?_
  refine mget (v := .int (S.1 0)) hx hb hC hK hX 0 (by decide) a_968 rfl dX11_thrown_1 ?_
  cases hf
  exact Ct_ri hx hb hr hlk hX hS dX11_thrown_4

theorem q_m_in : VWs yX11_in cX11_in 3 (some .boolean) 3 := ⟨a_1088, a_55, a_1087, by decide +kernel⟩
set_option maxRecDepth 100000 in
set_option maxHeartbeats 4000000 in
theorem c_m_in {l : Launch} {D : va_G} {cA : Nat → ClassId} {A : Nat → Prop} {ad : Nat → Nat} {x1 : Int32} {x2 : Int32} {x3 : Int32} {S : St} {r : Int32} (hf : m_in x1 x2 x3 = some r) : Ct l D cA A yX11_in cX11_in 3 (some .boolean) 0 0 0 [.int x1, .int x2, .int x3] (MX D cA A ad S) (some (.int r)) (MX D cA A ad S) := by
  refine Ct_of (by decide +kernel) (Nat.le_of_ble_eq_true rfl) ?_
  intro p e s m args below meth c ls hC hr hlk hnm hX hK hl
  have hx := hC.1
  have hb := hC.2.1
  have hS : va_S A s.heap s.heap [] := va_S.rf
  have hX : MX D cA A ad S s.heap := hX
  have hl : lv_has ls 3 [(0, .int x1), (1, .int x2), (2, .int x3)] := hl
  unfold m_in at hf
  refine lv_iload_n hx hb dX11_in_0 rfl (lv_at hl 0 rfl) ?_
  refine lv_iload_n hx hb dX11_in_1 rfl (lv_at hl 1 rfl) ?_
  refine lv_icmp_lt (tgt := 14) hx hb dX11_in_2 (by decide) (fun c5 => ?_) (fun c5 => ?_)
  · have hf := it_t c5 hf
    refine lv_iconst (v := 0) hx hb dX11_in_14 (by decide) ?_
    cases hf
    exact Ct_rz hx hb hr hlk nz0 hX hS dX11_in_15
  · have hf := it_f c5 hf
    refine lv_iload_n hx hb dX11_in_5 rfl (lv_at hl 0 rfl) ?_
    refine lv_iload_n hx hb dX11_in_6 rfl (lv_at hl 2 rfl) ?_
    refine lv_icmp_gt (tgt := 14) hx hb dX11_in_7 (by decide) (fun c6 => ?_) (fun c6 => ?_)
    · have hf := it_t c6 hf
      refine lv_iconst (v := 0) hx hb dX11_in_14 (by decide) ?_
      cases hf
      exact Ct_rz hx hb hr hlk nz0 hX hS dX11_in_15
    · have hf := it_f c6 hf
      refine lv_iconst (v := 1) hx hb dX11_in_10 (by decide) ?_
      refine lv_goto (tgt := 15) hx hb dX11_in_11 (by decide) ?_
      cases hf
      exact Ct_rz hx hb hr hlk nz1 hX hS dX11_in_15

theorem q_m_digit : VWv RX11 yX11_digit cX11_digit 3 (some .int) 2 := ⟨a_1109, a_55, a_1108, a_18, by decide +kernel⟩
set_option maxRecDepth 100000 in
set_option maxHeartbeats 4000000 in
theorem c_m_digit {l : Launch} {D : va_G} {cA : Nat → ClassId} {A : Nat → Prop} {ad : Nat → Nat} {x1 : Int32} {x2 : Int32} {S : St} {r : Int32} (hf : m_digit x1 x2 S = some r) : Ct l D cA A yX11_digit cX11_digit 3 (some .int) 0 0 0 [.ref (ad 0), .int x1, .int x2] (MX D cA A ad S) (some (.int r)) (MX D cA A ad S) := by
  refine Ct_of (by decide +kernel) (Nat.le_of_ble_eq_true rfl) ?_
  intro p e s m args below meth c ls hC hr hlk hnm hX hK hl
  have hx := hC.1
  have hb := hC.2.1
  have hS : va_S A s.heap s.heap [] := va_S.rf
  have hX : MX D cA A ad S s.heap := hX
  have hl : lv_has ls 3 [(0, .ref (ad 0)), (1, .int x1), (2, .int x2)] := hl
  unfold m_digit at hf
  refine lv_iload_n hx hb dX11_digit_0 rfl (lv_at hl 1 rfl) ?_
  refine lv_aload_n hx hb dX11_digit_1 rfl (lv_at hl 0 rfl) ?_
  refine mget (v := .ref (ad 1)) hx hb hC hK hX 1 (by decide) a_969 rfl dX11_digit_2 ?_
  refine lv_iload_n hx hb dX11_digit_5 rfl (lv_at hl 2 rfl) ?_
  obtain ⟨h5, j4, ej4, hf⟩ := rd_e hf
  refine mald hx hb hC hK hX (by decide) h5 ej4 dX11_digit_6 ?_
  obtain ⟨h6, hf⟩ := dv_e hf
  refine lv_idiv hx hb dX11_digit_7 h6 ?_
  refine lv_bipush (v := 10) hx hb dX11_digit_8 (by decide) ?_
  have h7 : ¬ (10 : Int32) = 0 := by decide
  refine lv_irem hx hb dX11_digit_10 h7 ?_
  cases hf
  exact Ct_ri hx hb hr hlk hX hS dX11_digit_11

theorem q_m_part : VWv RX11 yX11_part cX11_part 5 (some .int) 2 := ⟨a_1105, a_55, a_1104, a_17, by decide +kernel⟩
set_option maxRecDepth 100000 in
set_option maxHeartbeats 4000000 in
theorem c_m_part {l : Launch} {D : va_G} {cA : Nat → ClassId} {A : Nat → Prop} {ad : Nat → Nat} {x1 : Int32} {x2 : Int32} {S : St} {r : Int32} (hf : m_part x1 x2 S = some r) : Ct l D cA A yX11_part cX11_part 5 (some .int) 1 0 0 [.ref (ad 0), .int x1, .int x2] (MX D cA A ad S) (some (.int r)) (MX D cA A ad S) := by
  refine Ct_of (by decide +kernel) (Nat.le_of_ble_eq_true rfl) ?_
  intro p e s m args below meth c ls hC hr hlk hnm hX hK hl
  have hx := hC.1
  have hb := hC.2.1
  have hS : va_S A s.heap s.heap [] := va_S.rf
  have hX : MX D cA A ad S s.heap := hX
  have hl : lv_has ls 5 [(0, .ref (ad 0)), (1, .int x1), (2, .int x2)] := hl
  unfold m_part at hf
  refine lv_iconst (v := 0) hx hb dX11_part_0 (by decide) ?_
  refine lv_istore_n (lv' := [(3, .int 0), (0, .ref (ad 0)), (1, .int x1), (2, .int x2)]) hx hb dX11_part_1 rfl hl (by decide) rfl (fun ls hl => ?_)
  refine lv_iconst (v := 0) hx hb dX11_part_2 (by decide) ?_
  refine lv_istore (lv' := [(4, .int 0), (3, .int 0), (0, .ref (ad 0)), (1, .int x1), (2, .int x2)]) hx hb dX11_part_3 hl (by decide) rfl (fun ls hl => ?_)
  obtain ⟨g6, g60, g6s, hf⟩ := lp2_e hf
  have Lg6 : ∀ (n : Nat) (x4 : Int32) (x5 : Int32) (H : Heap) (locs : List Loc) (ls : Array Slot), MX D cA A ad S H → va_S A s.heap H locs → lv_has ls 5 [(0, .ref (ad 0)), (1, .int x1), (2, .int x2), (3, .int x4), (4, .int x5)] → g6 n x4 x5 = some r → W p l e (RM 1 0 0) s m args below meth c H locs 0 0 (MQ below (CtQ A (some (.int r)) (MX D cA A ad S)) args s 0 0 A) (F0 m 5 ls []) := by
    intro n
    induction n with
    | zero => intro x4 x5 H locs ls hX hS hl hf; rw [g60] at hf; cases hf
    | succ n ihg6 =>
      intro x4 x5 H locs ls hX hS hl hf
      rw [g6s] at hf
      refine lv_iload hx hb dX11_part_5 (lv_at hl 4 rfl) ?_
      refine lv_bipush (v := 6) hx hb dX11_part_7 (by decide) ?_
      refine lv_icmp_ge (tgt := 50) hx hb dX11_part_9 (by decide) (fun c7 => ?_) (fun c7 => ?_)
      · have hf := it_t c7 hf
        refine lv_iload_n hx hb dX11_part_50 rfl (lv_at hl 3 rfl) ?_
        cases hf
        exact Ct_ri hx hb hr hlk hX hS dX11_part_51
      · have hf := it_f c7 hf
        refine lv_iload_n hx hb dX11_part_12 rfl (lv_at hl 3 rfl) ?_
        refine lv_iload_n hx hb dX11_part_13 rfl (lv_at hl 2 rfl) ?_
        refine lv_iload hx hb dX11_part_14 (lv_at hl 4 rfl) ?_
        refine lv_ishr hx hb dX11_part_16 ?_
        refine lv_iconst (v := 1) hx hb dX11_part_17 (by decide) ?_
        refine lv_iand hx hb dX11_part_18 ?_
        refine lv_iconst (v := 1) hx hb dX11_part_19 (by decide) ?_
        obtain ⟨k9, hk9, hf⟩ := jn1_e hf
        have Jk9 : ∀ (x8 : Int32) (H : Heap) (locs : List Loc) (ls : Array Slot), MX D cA A ad S H → va_S A s.heap H locs → lv_has ls 5 [(0, .ref (ad 0)), (1, .int x1), (2, .int x2), (4, .int x5)] → k9 x8 = some r → W p l e (RM 1 0 0) s m args below meth c H locs 0 0 (MQ below (CtQ A (some (.int r)) (MX D cA A ad S)) args s 0 0 A) (F0 m 42 ls [.int x8, .int x4]) := by
          intro x8 H locs ls hX hS hl hf
          rw [hk9] at hf
          refine lv_iadd hx hb dX11_part_42 ?_
          refine lv_istore_n (lv' := [(3, .int (x4 + x8)), (0, .ref (ad 0)), (1, .int x1), (2, .int x2), (4, .int x5)]) hx hb dX11_part_43 rfl hl (by decide) rfl (fun ls hl => ?_)
          refine lv_iinc (v := (x5 + 1)) (lv' := [(4, .int (x5 + 1)), (3, .int (x4 + x8)), (0, .ref (ad 0)), (1, .int x1), (2, .int x2)]) hx hb dX11_part_44 hl (k := 4) rfl rfl (by decide) rfl (fun ls hl => ?_)
          refine lv_goto (tgt := 5) hx hb dX11_part_47 (by decide) ?_
          exact ihg6 _ _ _ _ _ hX hS (lv_sub hl [2, 3, 4, 1, 0] rfl) hf
        refine lv_icmp_ne (tgt := 41) hx hb dX11_part_20 (by decide) (fun c10 => ?_) (fun c10 => ?_)
        · have hf := it_f c10 hf
          refine lv_iconst (v := 0) hx hb dX11_part_41 (by decide) ?_
          exact Jk9 _ _ _ _ hX hS (lv_sub hl [0, 1, 2, 4] rfl) hf
        · have hf := it_t c10 hf
          refine lv_aload_n hx hb dX11_part_23 rfl (lv_at hl 0 rfl) ?_
          refine lv_iload_n hx hb dX11_part_24 rfl (lv_at hl 1 rfl) ?_
          refine lv_iload hx hb dX11_part_25 (lv_at hl 4 rfl) ?_
          obtain ⟨z11, hz11, hf⟩ := cb_e hf
          refine mVi (As := [.int x1, .int x5]) (rest := [.int x4]) hC (c_m_digit hz11) q_m_digit a_1106 (Nat.le_of_ble_eq_true rfl) hX hK rfl hl.1 (by decide) dX11_part_27 hS (fun H locs hX hS => ?_)
          refine lv_aload_n hx hb dX11_part_30 rfl (lv_at hl 0 rfl) ?_
          refine mget (v := .ref (ad 1)) hx hb hC hK hX 1 (by decide) a_969 rfl dX11_part_31 ?_
          refine lv_iload hx hb dX11_part_34 (lv_at hl 4 rfl) ?_
          obtain ⟨h13, j12, ej12, hf⟩ := rd_e hf
          refine mald hx hb hC hK hX (by decide) h13 ej12 dX11_part_36 ?_
          refine lv_imul hx hb dX11_part_37 ?_
          refine lv_goto (tgt := 42) hx hb dX11_part_38 (by decide) ?_
          exact Jk9 _ _ _ _ hX hS (lv_sub hl [0, 1, 2, 4] rfl) hf
  exact Lg6 FU _ _ _ _ _ hX hS (lv_sub hl [2, 3, 4, 1, 0] rfl) hf

theorem q_m_isRow : VWv RX11 yX11_isRow cX11_isRow 3 (some .boolean) 2 := ⟨a_1100, a_55, a_1099, a_16, by decide +kernel⟩
set_option maxRecDepth 100000 in
set_option maxHeartbeats 4000000 in
theorem c_m_isRow {l : Launch} {D : va_G} {cA : Nat → ClassId} {A : Nat → Prop} {ad : Nat → Nat} {x1 : Int32} {x2 : Int32} {S : St} {r : Int32} (hf : m_isRow x1 x2 S = some r) : Ct l D cA A yX11_isRow cX11_isRow 3 (some .boolean) 2 0 0 [.ref (ad 0), .int x1, .int x2] (MX D cA A ad S) (some (.int r)) (MX D cA A ad S) := by
  refine Ct_of (by decide +kernel) (Nat.le_of_ble_eq_true rfl) ?_
  intro p e s m args below meth c ls hC hr hlk hnm hX hK hl
  have hx := hC.1
  have hb := hC.2.1
  have hS : va_S A s.heap s.heap [] := va_S.rf
  have hX : MX D cA A ad S s.heap := hX
  have hl : lv_has ls 3 [(0, .ref (ad 0)), (1, .int x1), (2, .int x2)] := hl
  unfold m_isRow at hf
  refine lv_iload_n hx hb dX11_isRow_0 rfl (lv_at hl 1 rfl) ?_
  refine lv_iconst (v := 0) hx hb dX11_isRow_1 (by decide) ?_
  refine lv_ldc (v := 999999) hx hb hC.2.2.2.1 (tA hC.2.2.2.2 a_1101) dX11_isRow_2 ?_
  obtain ⟨z4, hz4, hf⟩ := cb_e hf
  refine mSi (As := [.int x1, .int 0, .int 999999]) (rest := []) hC (c_m_in hz4) q_m_in a_1086 (Nat.le_of_ble_eq_true rfl) hX hK rfl hl.1 (by decide) dX11_isRow_4 hS (fun H locs hX hS => ?_)
  refine lv_if_eq (tgt := 24) hx hb dX11_isRow_7 (by decide) (fun c5 => ?_) (fun c5 => ?_)
  · have hf := it_t c5 hf
    refine lv_iconst (v := 0) hx hb dX11_isRow_24 (by decide) ?_
    cases hf
    exact Ct_rz hx hb hr hlk nz0 hX hS dX11_isRow_25
  · have hf := it_f c5 hf
    refine lv_aload_n hx hb dX11_isRow_10 rfl (lv_at hl 0 rfl) ?_
    refine lv_iload_n hx hb dX11_isRow_11 rfl (lv_at hl 1 rfl) ?_
    refine lv_iload_n hx hb dX11_isRow_12 rfl (lv_at hl 2 rfl) ?_
    obtain ⟨z6, hz6, hf⟩ := cb_e hf
    refine mVi (As := [.int x1, .int x2]) (rest := []) hC (c_m_part hz6) q_m_part a_1102 (Nat.le_of_ble_eq_true rfl) hX hK rfl hl.1 (by decide) dX11_isRow_13 hS (fun H locs hX hS => ?_)
    refine lv_iload_n hx hb dX11_isRow_16 rfl (lv_at hl 1 rfl) ?_
    refine lv_icmp_ne (tgt := 24) hx hb dX11_isRow_17 (by decide) (fun c7 => ?_) (fun c7 => ?_)
    · have hf := it_f c7 hf
      refine lv_iconst (v := 0) hx hb dX11_isRow_24 (by decide) ?_
      cases hf
      exact Ct_rz hx hb hr hlk nz0 hX hS dX11_isRow_25
    · have hf := it_t c7 hf
      refine lv_iconst (v := 1) hx hb dX11_isRow_20 (by decide) ?_
      refine lv_goto (tgt := 25) hx hb dX11_isRow_21 (by decide) ?_
      cases hf
      exact Ct_rz hx hb hr hlk nz1 hX hS dX11_isRow_25

theorem q_m_lays : VWs yX11_lays cX11_lays 6 (some .int) 4 := ⟨a_1116, a_55, a_1115, by decide +kernel⟩
set_option maxRecDepth 100000 in
set_option maxHeartbeats 4000000 in
theorem c_m_lays {l : Launch} {D : va_G} {cA : Nat → ClassId} {A : Nat → Prop} {ad : Nat → Nat} {a1 : Nat} (ha1 : a1 ∈ La) {x2 : Int32} {x3 : Int32} {x4 : Int32} {S : St} {r : Int32} {S' : St} (hf : m_lays a1 x2 x3 x4 S = some (r, S')) : Ct l D cA A yX11_lays cX11_lays 6 (some .int) 0 0 0 [.ref (ad a1), .int x2, .int x3, .int x4] (MX D cA A ad S) (some (.int r)) (MX D cA A ad S') := by
  refine Ct_of (by decide +kernel) (Nat.le_of_ble_eq_true rfl) ?_
  intro p e s m args below meth c ls hC hr hlk hnm hX hK hl
  have hx := hC.1
  have hb := hC.2.1
  have hS : va_S A s.heap s.heap [] := va_S.rf
  have hX : MX D cA A ad S s.heap := hX
  have hl : lv_has ls 6 [(0, .ref (ad a1)), (1, .int x2), (2, .int x3), (3, .int x4)] := hl
  unfold m_lays at hf
  refine lv_iload_n hx hb dX11_lays_0 rfl (lv_at hl 2 rfl) ?_
  refine lv_istore (lv' := [(4, .int x3), (0, .ref (ad a1)), (1, .int x2), (2, .int x3), (3, .int x4)]) hx hb dX11_lays_1 hl (by decide) rfl (fun ls hl => ?_)
  refine lv_iconst (v := 0) hx hb dX11_lays_3 (by decide) ?_
  refine lv_istore (lv' := [(5, .int 0), (4, .int x3), (0, .ref (ad a1)), (1, .int x2), (2, .int x3), (3, .int x4)]) hx hb dX11_lays_4 hl (by decide) rfl (fun ls hl => ?_)
  obtain ⟨g7, g70, g7s, hf⟩ := lp1_e hf
  have Lg7 : ∀ (n : Nat) (x6 : Int32) (H : Heap) (locs : List Loc) (ls : Array Slot), MX D cA A ad S H → va_S A s.heap H locs → lv_has ls 6 [(0, .ref (ad a1)), (1, .int x2), (2, .int x3), (3, .int x4), (4, .int x3), (5, .int x6)] → g7 n x6 = some (r, S') → W p l e (RM 0 0 0) s m args below meth c H locs 0 0 (MQ below (CtQ A (some (.int r)) (MX D cA A ad S')) args s 0 0 A) (F0 m 6 ls []) := by
    intro n
    induction n with
    | zero => intro x6 H locs ls hX hS hl hf; rw [g70] at hf; cases hf
    | succ n ihg7 =>
      intro x6 H locs ls hX hS hl hf
      rw [g7s] at hf
      refine lv_iload hx hb dX11_lays_6 (lv_at hl 5 rfl) ?_
      refine lv_iload_n hx hb dX11_lays_8 rfl (lv_at hl 2 rfl) ?_
      refine lv_icmp_ge (tgt := 30) hx hb dX11_lays_9 (by decide) (fun c8 => ?_) (fun c8 => ?_)
      · have hf := it_t c8 hf
        obtain ⟨g11, g110, g11s, hf⟩ := lp2_e hf
        have Lg11 : ∀ (n : Nat) (x9 : Int32) (S10 : St) (H : Heap) (locs : List Loc) (ls : Array Slot), MX D cA A ad S10 H → va_S A s.heap H locs → lv_has ls 6 [(0, .ref (ad a1)), (1, .int x2), (2, .int x3), (3, .int x4), (4, .int x9)] → g11 n x9 S10 = some (r, S') → W p l e (RM 0 0 0) s m args below meth c H locs 0 0 (MQ below (CtQ A (some (.int r)) (MX D cA A ad S')) args s 0 0 A) (F0 m 30 ls []) := by
          intro n
          induction n with
          | zero => intro x9 S10 H locs ls hX hS hl hf; rw [g110] at hf; cases hf
          | succ n ihg11 =>
            intro x9 S10 H locs ls hX hS hl hf
            rw [g11s] at hf
            refine lv_iload hx hb dX11_lays_30 (lv_at hl 4 rfl) ?_
            obtain ⟨k12, hk12, hf⟩ := jn0_e hf
            have Jk12 : ∀  (H : Heap) (locs : List Loc) (ls : Array Slot), MX D cA A ad S10 H → va_S A s.heap H locs → lv_has ls 6 [(0, .ref (ad a1)), (1, .int x2), (2, .int x3), (3, .int x4), (4, .int x9)] → k12 = some (r, S') → W p l e (RM 0 0 0) s m args below meth c H locs 0 0 (MQ below (CtQ A (some (.int r)) (MX D cA A ad S')) args s 0 0 A) (F0 m 67 ls []) := by
              intro  H locs ls hX hS hl hf
              rw [hk12] at hf
              refine lv_aload_n hx hb dX11_lays_67 rfl (lv_at hl 0 rfl) ?_
              refine lv_iload_n hx hb dX11_lays_68 rfl (lv_at hl 1 rfl) ?_
              refine lv_iload hx hb dX11_lays_69 (lv_at hl 4 rfl) ?_
              refine lv_iadd hx hb dX11_lays_71 ?_
              refine lv_iload_n hx hb dX11_lays_72 rfl (lv_at hl 3 rfl) ?_
              obtain ⟨h14, j13, ej13, hf⟩ := rd_e hf
              refine mast hx hb hC hK hX hS ha1 h14 ej13 dX11_lays_73 (fun H locs hX hS => ?_)
              obtain ⟨S15, eS15, hf⟩ := lt_e hf
              rw [← eS15] at hX
              refine lv_iload_n hx hb dX11_lays_74 rfl (lv_at hl 2 rfl) ?_
              refine lv_iconst (v := 1) hx hb dX11_lays_75 (by decide) ?_
              refine lv_iadd hx hb dX11_lays_76 ?_
              cases hf
              exact Ct_ri hx hb hr hlk hX hS dX11_lays_77
            refine lv_if_le (tgt := 67) hx hb dX11_lays_32 (by decide) (fun c16 => ?_) (fun c16 => ?_)
            · have hf := it_t c16 hf
              exact Jk12 _ _ _ hX hS (lv_sub hl [0, 1, 2, 3, 4] rfl) hf
            · have hf := it_f c16 hf
              refine lv_aload_n hx hb dX11_lays_35 rfl (lv_at hl 0 rfl) ?_
              refine lv_iload_n hx hb dX11_lays_36 rfl (lv_at hl 1 rfl) ?_
              refine lv_iload hx hb dX11_lays_37 (lv_at hl 4 rfl) ?_
              refine lv_iadd hx hb dX11_lays_39 ?_
              refine lv_iconst (v := 1) hx hb dX11_lays_40 (by decide) ?_
              refine lv_isub hx hb dX11_lays_41 ?_
              obtain ⟨h18, j17, ej17, hf⟩ := rd_e hf
              refine mald hx hb hC hK hX ha1 h18 ej17 dX11_lays_42 ?_
              refine lv_iload_n hx hb dX11_lays_43 rfl (lv_at hl 3 rfl) ?_
              refine lv_icmp_le (tgt := 67) hx hb dX11_lays_44 (by decide) (fun c19 => ?_) (fun c19 => ?_)
              · have hf := it_t c19 hf
                exact Jk12 _ _ _ hX hS (lv_sub hl [0, 1, 2, 3, 4] rfl) hf
              · have hf := it_f c19 hf
                refine lv_aload_n hx hb dX11_lays_47 rfl (lv_at hl 0 rfl) ?_
                refine lv_iload_n hx hb dX11_lays_48 rfl (lv_at hl 1 rfl) ?_
                refine lv_iload hx hb dX11_lays_49 (lv_at hl 4 rfl) ?_
                refine lv_iadd hx hb dX11_lays_51 ?_
                refine lv_aload_n hx hb dX11_lays_52 rfl (lv_at hl 0 rfl) ?_
                refine lv_iload_n hx hb dX11_lays_53 rfl (lv_at hl 1 rfl) ?_
                refine lv_iload hx hb dX11_lays_54 (lv_at hl 4 rfl) ?_
                refine lv_iadd hx hb dX11_lays_56 ?_
                refine lv_iconst (v := 1) hx hb dX11_lays_57 (by decide) ?_
                refine lv_isub hx hb dX11_lays_58 ?_
                obtain ⟨h21, j20, ej20, hf⟩ := rd_e hf
                refine mald hx hb hC hK hX ha1 h21 ej20 dX11_lays_59 ?_
                obtain ⟨h23, j22, ej22, hf⟩ := rd_e hf
                refine mast hx hb hC hK hX hS ha1 h23 ej22 dX11_lays_60 (fun H locs hX hS => ?_)
                obtain ⟨S24, eS24, hf⟩ := lt_e hf
                rw [← eS24] at hX
                refine lv_iinc (v := (x9 + (-1))) (lv' := [(4, .int (x9 + (-1))), (0, .ref (ad a1)), (1, .int x2), (2, .int x3), (3, .int x4)]) hx hb dX11_lays_61 hl (k := 4) rfl rfl (by decide) rfl (fun ls hl => ?_)
                refine lv_goto (tgt := 30) hx hb dX11_lays_64 (by decide) ?_
                exact ihg11 _ _ _ _ _ hX hS (lv_sub hl [1, 2, 3, 4, 0] rfl) hf
        exact Lg11 FU _ _ _ _ _ hX hS (lv_sub hl [0, 1, 2, 3, 4] rfl) hf
      · have hf := it_f c8 hf
        refine lv_aload_n hx hb dX11_lays_12 rfl (lv_at hl 0 rfl) ?_
        refine lv_iload_n hx hb dX11_lays_13 rfl (lv_at hl 1 rfl) ?_
        refine lv_iload hx hb dX11_lays_14 (lv_at hl 5 rfl) ?_
        refine lv_iadd hx hb dX11_lays_16 ?_
        obtain ⟨h26, j25, ej25, hf⟩ := rd_e hf
        refine mald hx hb hC hK hX ha1 h26 ej25 dX11_lays_17 ?_
        refine lv_iload_n hx hb dX11_lays_18 rfl (lv_at hl 3 rfl) ?_
        refine lv_icmp_ne (tgt := 24) hx hb dX11_lays_19 (by decide) (fun c27 => ?_) (fun c27 => ?_)
        · have hf := it_f c27 hf
          refine lv_iinc (v := (x6 + 1)) (lv' := [(5, .int (x6 + 1)), (0, .ref (ad a1)), (1, .int x2), (2, .int x3), (3, .int x4), (4, .int x3)]) hx hb dX11_lays_24 hl (k := 5) rfl rfl (by decide) rfl (fun ls hl => ?_)
          refine lv_goto (tgt := 6) hx hb dX11_lays_27 (by decide) ?_
          exact ihg7 _ _ _ _ hX hS (lv_sub hl [1, 2, 3, 4, 5, 0] rfl) hf
        · have hf := it_t c27 hf
          refine lv_iload_n hx hb dX11_lays_22 rfl (lv_at hl 2 rfl) ?_
          cases hf
          exact Ct_ri hx hb hr hlk hX hS dX11_lays_23
  exact Lg7 FU _ _ _ _ hX hS (lv_sub hl [2, 3, 4, 5, 1, 0] rfl) hf

theorem q_m_placeOf : VWs yX11_placeOf cX11_placeOf 6 (some .int) 4 := ⟨a_1123, a_55, a_1122, by decide +kernel⟩
set_option maxRecDepth 100000 in
set_option maxHeartbeats 4000000 in
theorem c_m_placeOf {l : Launch} {D : va_G} {cA : Nat → ClassId} {A : Nat → Prop} {ad : Nat → Nat} {a1 : Nat} (ha1 : a1 ∈ La) {x2 : Int32} {x3 : Int32} {x4 : Int32} {S : St} {r : Int32} (hf : m_placeOf a1 x2 x3 x4 S = some r) : Ct l D cA A yX11_placeOf cX11_placeOf 6 (some .int) 0 0 0 [.ref (ad a1), .int x2, .int x3, .int x4] (MX D cA A ad S) (some (.int r)) (MX D cA A ad S) := by
  refine Ct_of (by decide +kernel) (Nat.le_of_ble_eq_true rfl) ?_
  intro p e s m args below meth c ls hC hr hlk hnm hX hK hl
  have hx := hC.1
  have hb := hC.2.1
  have hS : va_S A s.heap s.heap [] := va_S.rf
  have hX : MX D cA A ad S s.heap := hX
  have hl : lv_has ls 6 [(0, .ref (ad a1)), (1, .int x2), (2, .int x3), (3, .int x4)] := hl
  unfold m_placeOf at hf
  refine lv_iconst (v := (-1)) hx hb dX11_placeOf_0 (by decide) ?_
  refine lv_istore (lv' := [(4, .int (-1)), (0, .ref (ad a1)), (1, .int x2), (2, .int x3), (3, .int x4)]) hx hb dX11_placeOf_1 hl (by decide) rfl (fun ls hl => ?_)
  refine lv_iconst (v := 0) hx hb dX11_placeOf_3 (by decide) ?_
  refine lv_istore (lv' := [(5, .int 0), (4, .int (-1)), (0, .ref (ad a1)), (1, .int x2), (2, .int x3), (3, .int x4)]) hx hb dX11_placeOf_4 hl (by decide) rfl (fun ls hl => ?_)
  obtain ⟨g8, g80, g8s, hf⟩ := lp2_e hf
  have Lg8 : ∀ (n : Nat) (x6 : Int32) (x7 : Int32) (H : Heap) (locs : List Loc) (ls : Array Slot), MX D cA A ad S H → va_S A s.heap H locs → lv_has ls 6 [(0, .ref (ad a1)), (1, .int x2), (2, .int x3), (3, .int x4), (4, .int x6), (5, .int x7)] → g8 n x6 x7 = some r → W p l e (RM 0 0 0) s m args below meth c H locs 0 0 (MQ below (CtQ A (some (.int r)) (MX D cA A ad S)) args s 0 0 A) (F0 m 6 ls []) := by
    intro n
    induction n with
    | zero => intro x6 x7 H locs ls hX hS hl hf; rw [g80] at hf; cases hf
    | succ n ihg8 =>
      intro x6 x7 H locs ls hX hS hl hf
      rw [g8s] at hf
      refine lv_iload hx hb dX11_placeOf_6 (lv_at hl 5 rfl) ?_
      refine lv_iload_n hx hb dX11_placeOf_8 rfl (lv_at hl 2 rfl) ?_
      refine lv_icmp_ge (tgt := 37) hx hb dX11_placeOf_9 (by decide) (fun c9 => ?_) (fun c9 => ?_)
      · have hf := it_t c9 hf
        refine lv_iload hx hb dX11_placeOf_37 (lv_at hl 4 rfl) ?_
        cases hf
        exact Ct_ri hx hb hr hlk hX hS dX11_placeOf_39
      · have hf := it_f c9 hf
        refine lv_aload_n hx hb dX11_placeOf_12 rfl (lv_at hl 0 rfl) ?_
        refine lv_iload_n hx hb dX11_placeOf_13 rfl (lv_at hl 1 rfl) ?_
        refine lv_iload hx hb dX11_placeOf_14 (lv_at hl 5 rfl) ?_
        refine lv_iadd hx hb dX11_placeOf_16 ?_
        obtain ⟨h11, j10, ej10, hf⟩ := rd_e hf
        refine mald hx hb hC hK hX ha1 h11 ej10 dX11_placeOf_17 ?_
        refine lv_iload_n hx hb dX11_placeOf_18 rfl (lv_at hl 3 rfl) ?_
        refine lv_icmp_ne (tgt := 27) hx hb dX11_placeOf_19 (by decide) (fun c12 => ?_) (fun c12 => ?_)
        · have hf := it_f c12 hf
          refine lv_iload hx hb dX11_placeOf_27 (lv_at hl 4 rfl) ?_
          refine lv_istore (lv' := [(4, .int x6), (0, .ref (ad a1)), (1, .int x2), (2, .int x3), (3, .int x4), (5, .int x7)]) hx hb dX11_placeOf_29 hl (by decide) rfl (fun ls hl => ?_)
          refine lv_iinc (v := (x7 + 1)) (lv' := [(5, .int (x7 + 1)), (4, .int x6), (0, .ref (ad a1)), (1, .int x2), (2, .int x3), (3, .int x4)]) hx hb dX11_placeOf_31 hl (k := 5) rfl rfl (by decide) rfl (fun ls hl => ?_)
          refine lv_goto (tgt := 6) hx hb dX11_placeOf_34 (by decide) ?_
          exact ihg8 _ _ _ _ _ hX hS (lv_sub hl [2, 3, 4, 5, 1, 0] rfl) hf
        · have hf := it_t c12 hf
          refine lv_iload hx hb dX11_placeOf_22 (lv_at hl 5 rfl) ?_
          refine lv_goto (tgt := 29) hx hb dX11_placeOf_24 (by decide) ?_
          refine lv_istore (lv' := [(4, .int x7), (0, .ref (ad a1)), (1, .int x2), (2, .int x3), (3, .int x4), (5, .int x7)]) hx hb dX11_placeOf_29 hl (by decide) rfl (fun ls hl => ?_)
          refine lv_iinc (v := (x7 + 1)) (lv' := [(5, .int (x7 + 1)), (4, .int x7), (0, .ref (ad a1)), (1, .int x2), (2, .int x3), (3, .int x4)]) hx hb dX11_placeOf_31 hl (k := 5) rfl rfl (by decide) rfl (fun ls hl => ?_)
          refine lv_goto (tgt := 6) hx hb dX11_placeOf_34 (by decide) ?_
          exact ihg8 _ _ _ _ _ hX hS (lv_sub hl [2, 3, 4, 5, 1, 0] rfl) hf
  exact Lg8 FU _ _ _ _ _ hX hS (lv_sub hl [2, 3, 4, 5, 1, 0] rfl) hf

theorem q_m_takes : VWs yX11_takes cX11_takes 5 (some .int) 4 := ⟨a_1126, a_55, a_1125, by decide +kernel⟩
set_option maxRecDepth 100000 in
set_option maxHeartbeats 4000000 in
theorem c_m_takes {l : Launch} {D : va_G} {cA : Nat → ClassId} {A : Nat → Prop} {ad : Nat → Nat} {a1 : Nat} (ha1 : a1 ∈ La) {x2 : Int32} {x3 : Int32} {x4 : Int32} {S : St} {r : Int32} {S' : St} (hf : m_takes a1 x2 x3 x4 S = some (r, S')) : Ct l D cA A yX11_takes cX11_takes 5 (some .int) 0 0 0 [.ref (ad a1), .int x2, .int x3, .int x4] (MX D cA A ad S) (some (.int r)) (MX D cA A ad S') := by
  refine Ct_of (by decide +kernel) (Nat.le_of_ble_eq_true rfl) ?_
  intro p e s m args below meth c ls hC hr hlk hnm hX hK hl
  have hx := hC.1
  have hb := hC.2.1
  have hS : va_S A s.heap s.heap [] := va_S.rf
  have hX : MX D cA A ad S s.heap := hX
  have hl : lv_has ls 5 [(0, .ref (ad a1)), (1, .int x2), (2, .int x3), (3, .int x4)] := hl
  unfold m_takes at hf
  refine lv_iload_n hx hb dX11_takes_0 rfl (lv_at hl 3 rfl) ?_
  refine lv_istore (lv' := [(4, .int x4), (0, .ref (ad a1)), (1, .int x2), (2, .int x3), (3, .int x4)]) hx hb dX11_takes_1 hl (by decide) rfl (fun ls hl => ?_)
  obtain ⟨g8, g80, g8s, hf⟩ := lp2_e hf
  have Lg8 : ∀ (n : Nat) (x6 : Int32) (S7 : St) (H : Heap) (locs : List Loc) (ls : Array Slot), MX D cA A ad S7 H → va_S A s.heap H locs → lv_has ls 5 [(0, .ref (ad a1)), (1, .int x2), (2, .int x3), (4, .int x6)] → g8 n x6 S7 = some (r, S') → W p l e (RM 0 0 0) s m args below meth c H locs 0 0 (MQ below (CtQ A (some (.int r)) (MX D cA A ad S')) args s 0 0 A) (F0 m 3 ls []) := by
    intro n
    induction n with
    | zero => intro x6 S7 H locs ls hX hS hl hf; rw [g80] at hf; cases hf
    | succ n ihg8 =>
      intro x6 S7 H locs ls hX hS hl hf
      rw [g8s] at hf
      refine lv_iload hx hb dX11_takes_3 (lv_at hl 3 rfl) ?_
      refine lv_iload_n hx hb dX11_takes_5 rfl (lv_at hl 2 rfl) ?_
      refine lv_iconst (v := 1) hx hb dX11_takes_6 (by decide) ?_
      refine lv_isub hx hb dX11_takes_7 ?_
      refine lv_icmp_ge (tgt := 31) hx hb dX11_takes_8 (by decide) (fun c9 => ?_) (fun c9 => ?_)
      · have hf := it_t c9 hf
        refine lv_iload_n hx hb dX11_takes_31 rfl (lv_at hl 2 rfl) ?_
        refine lv_iconst (v := 1) hx hb dX11_takes_32 (by decide) ?_
        refine lv_isub hx hb dX11_takes_33 ?_
        cases hf
        exact Ct_ri hx hb hr hlk hX hS dX11_takes_34
      · have hf := it_f c9 hf
        refine lv_aload_n hx hb dX11_takes_11 rfl (lv_at hl 0 rfl) ?_
        refine lv_iload_n hx hb dX11_takes_12 rfl (lv_at hl 1 rfl) ?_
        refine lv_iload hx hb dX11_takes_13 (lv_at hl 3 rfl) ?_
        refine lv_iadd hx hb dX11_takes_15 ?_
        refine lv_aload_n hx hb dX11_takes_16 rfl (lv_at hl 0 rfl) ?_
        refine lv_iload_n hx hb dX11_takes_17 rfl (lv_at hl 1 rfl) ?_
        refine lv_iload hx hb dX11_takes_18 (lv_at hl 3 rfl) ?_
        refine lv_iadd hx hb dX11_takes_20 ?_
        refine lv_iconst (v := 1) hx hb dX11_takes_21 (by decide) ?_
        refine lv_iadd hx hb dX11_takes_22 ?_
        obtain ⟨h11, j10, ej10, hf⟩ := rd_e hf
        refine mald hx hb hC hK hX ha1 h11 ej10 dX11_takes_23 ?_
        obtain ⟨h13, j12, ej12, hf⟩ := rd_e hf
        refine mast hx hb hC hK hX hS ha1 h13 ej12 dX11_takes_24 (fun H locs hX hS => ?_)
        obtain ⟨S14, eS14, hf⟩ := lt_e hf
        rw [← eS14] at hX
        refine lv_iinc (v := (x6 + 1)) (lv' := [(4, .int (x6 + 1)), (0, .ref (ad a1)), (1, .int x2), (2, .int x3)]) hx hb dX11_takes_25 hl (k := 3) rfl rfl (by decide) rfl (fun ls hl => ?_)
        refine lv_goto (tgt := 3) hx hb dX11_takes_28 (by decide) ?_
        exact ihg8 _ _ _ _ _ hX hS (lv_sub hl [1, 2, 3, 0] rfl) hf
  exact Lg8 FU _ _ _ _ _ hX hS (lv_sub hl [1, 2, 3, 0] rfl) hf

theorem q_m_rowWith : VWv RX11 yX11_rowWith cX11_rowWith 8 (some .int) 5 := ⟨a_1113, a_55, a_1112, a_19, by decide +kernel⟩
set_option maxRecDepth 100000 in
set_option maxHeartbeats 4000000 in
theorem c_m_rowWith {l : Launch} {D : va_G} {cA : Nat → ClassId} {A : Nat → Prop} {ad : Nat → Nat} {a1 : Nat} (ha1 : a1 ∈ La) {x2 : Int32} {x3 : Int32} {x4 : Int32} {x5 : Int32} {S : St} {r : Int32} (hf : m_rowWith a1 x2 x3 x4 x5 S = some r) : Ct l D cA A yX11_rowWith cX11_rowWith 8 (some .int) 2 0 0 [.ref (ad 0), .ref (ad a1), .int x2, .int x3, .int x4, .int x5] (MX D cA A ad S) (some (.int r)) (MX D cA A ad S) := by
  refine Ct_of (by decide +kernel) (Nat.le_of_ble_eq_true rfl) ?_
  intro p e s m args below meth c ls hC hr hlk hnm hX hK hl
  have hx := hC.1
  have hb := hC.2.1
  have hS : va_S A s.heap s.heap [] := va_S.rf
  have hX : MX D cA A ad S s.heap := hX
  have hl : lv_has ls 8 [(0, .ref (ad 0)), (1, .ref (ad a1)), (2, .int x2), (3, .int x3), (4, .int x4), (5, .int x5)] := hl
  unfold m_rowWith at hf
  refine lv_iconst (v := (-1)) hx hb dX11_rowWith_0 (by decide) ?_
  refine lv_istore (lv' := [(6, .int (-1)), (0, .ref (ad 0)), (1, .ref (ad a1)), (2, .int x2), (3, .int x3), (4, .int x4), (5, .int x5)]) hx hb dX11_rowWith_1 hl (by decide) rfl (fun ls hl => ?_)
  refine lv_iload_n hx hb dX11_rowWith_3 rfl (lv_at hl 4 rfl) ?_
  refine lv_iconst (v := 1) hx hb dX11_rowWith_4 (by decide) ?_
  refine lv_isub hx hb dX11_rowWith_5 ?_
  refine lv_istore (lv' := [(7, .int (x3 - 1)), (6, .int (-1)), (0, .ref (ad 0)), (1, .ref (ad a1)), (2, .int x2), (3, .int x3), (4, .int x4), (5, .int x5)]) hx hb dX11_rowWith_6 hl (by decide) rfl (fun ls hl => ?_)
  obtain ⟨g9, g90, g9s, hf⟩ := lp2_e hf
  have Lg9 : ∀ (n : Nat) (x7 : Int32) (x8 : Int32) (H : Heap) (locs : List Loc) (ls : Array Slot), MX D cA A ad S H → va_S A s.heap H locs → lv_has ls 8 [(0, .ref (ad 0)), (1, .ref (ad a1)), (2, .int x2), (4, .int x4), (5, .int x5), (6, .int x7), (7, .int x8)] → g9 n x7 x8 = some r → W p l e (RM 2 0 0) s m args below meth c H locs 0 0 (MQ below (CtQ A (some (.int r)) (MX D cA A ad S)) args s 0 0 A) (F0 m 8 ls []) := by
    intro n
    induction n with
    | zero => intro x7 x8 H locs ls hX hS hl hf; rw [g90] at hf; cases hf
    | succ n ihg9 =>
      intro x7 x8 H locs ls hX hS hl hf
      rw [g9s] at hf
      refine lv_iload hx hb dX11_rowWith_8 (lv_at hl 6 rfl) ?_
      refine lv_if_lt (tgt := 49) hx hb dX11_rowWith_10 (by decide) (fun c10 => ?_) (fun c10 => ?_)
      · have hf := it_t c10 hf
        refine lv_iload hx hb dX11_rowWith_49 (lv_at hl 5 rfl) ?_
        cases hf
        exact Ct_ri hx hb hr hlk hX hS dX11_rowWith_51
      · have hf := it_f c10 hf
        refine lv_aload_n hx hb dX11_rowWith_13 rfl (lv_at hl 0 rfl) ?_
        refine lv_aload_n hx hb dX11_rowWith_14 rfl (lv_at hl 1 rfl) ?_
        refine lv_iload_n hx hb dX11_rowWith_15 rfl (lv_at hl 2 rfl) ?_
        refine lv_iload hx hb dX11_rowWith_16 (lv_at hl 6 rfl) ?_
        refine lv_iadd hx hb dX11_rowWith_18 ?_
        obtain ⟨h12, j11, ej11, hf⟩ := rd_e hf
        refine mald hx hb hC hK hX ha1 h12 ej11 dX11_rowWith_19 ?_
        refine lv_iload hx hb dX11_rowWith_20 (lv_at hl 3 rfl) ?_
        obtain ⟨z13, hz13, hf⟩ := cb_e hf
        refine mVi (As := [.int (S.2 a1 j11), .int x4]) (rest := []) hC (c_m_part hz13) q_m_part a_1102 (Nat.le_of_ble_eq_true rfl) hX hK rfl hl.1 (by decide) dX11_rowWith_22 hS (fun H locs hX hS => ?_)
        refine lv_iload hx hb dX11_rowWith_25 (lv_at hl 4 rfl) ?_
        refine lv_icmp_ne (tgt := 39) hx hb dX11_rowWith_27 (by decide) (fun c14 => ?_) (fun c14 => ?_)
        · have hf := it_f c14 hf
          refine lv_iload hx hb dX11_rowWith_39 (lv_at hl 5 rfl) ?_
          refine lv_istore (lv' := [(6, .int x7), (0, .ref (ad 0)), (1, .ref (ad a1)), (2, .int x2), (4, .int x4), (5, .int x5), (7, .int x8)]) hx hb dX11_rowWith_41 hl (by decide) rfl (fun ls hl => ?_)
          refine lv_iinc (v := (x8 + (-1))) (lv' := [(7, .int (x8 + (-1))), (6, .int x7), (0, .ref (ad 0)), (1, .ref (ad a1)), (2, .int x2), (4, .int x4), (5, .int x5)]) hx hb dX11_rowWith_43 hl (k := 6) rfl rfl (by decide) rfl (fun ls hl => ?_)
          refine lv_goto (tgt := 8) hx hb dX11_rowWith_46 (by decide) ?_
          exact ihg9 _ _ _ _ _ hX hS (lv_sub hl [2, 3, 4, 5, 6, 1, 0] rfl) hf
        · have hf := it_t c14 hf
          refine lv_aload_n hx hb dX11_rowWith_30 rfl (lv_at hl 1 rfl) ?_
          refine lv_iload_n hx hb dX11_rowWith_31 rfl (lv_at hl 2 rfl) ?_
          refine lv_iload hx hb dX11_rowWith_32 (lv_at hl 6 rfl) ?_
          refine lv_iadd hx hb dX11_rowWith_34 ?_
          obtain ⟨h16, j15, ej15, hf⟩ := rd_e hf
          refine mald hx hb hC hK hX ha1 h16 ej15 dX11_rowWith_35 ?_
          refine lv_goto (tgt := 41) hx hb dX11_rowWith_36 (by decide) ?_
          refine lv_istore (lv' := [(6, .int (S.2 a1 j15)), (0, .ref (ad 0)), (1, .ref (ad a1)), (2, .int x2), (4, .int x4), (5, .int x5), (7, .int x8)]) hx hb dX11_rowWith_41 hl (by decide) rfl (fun ls hl => ?_)
          refine lv_iinc (v := (x8 + (-1))) (lv' := [(7, .int (x8 + (-1))), (6, .int (S.2 a1 j15)), (0, .ref (ad 0)), (1, .ref (ad a1)), (2, .int x2), (4, .int x4), (5, .int x5)]) hx hb dX11_rowWith_43 hl (k := 6) rfl rfl (by decide) rfl (fun ls hl => ?_)
          refine lv_goto (tgt := 8) hx hb dX11_rowWith_46 (by decide) ?_
          exact ihg9 _ _ _ _ _ hX hS (lv_sub hl [2, 3, 4, 5, 6, 1, 0] rfl) hf
  exact Lg9 FU _ _ _ _ _ hX hS (lv_sub hl [2, 3, 4, 6, 7, 1, 0] rfl) hf

theorem q_m_isTable : VWv RX11 yX11_isTable cX11_isTable 2 (some .boolean) 1 := ⟨a_1096, a_55, a_1095, a_15, by decide +kernel⟩
set_option maxRecDepth 100000 in
set_option maxHeartbeats 4000000 in
theorem c_m_isTable {l : Launch} {D : va_G} {cA : Nat → ClassId} {A : Nat → Prop} {ad : Nat → Nat} {x1 : Int32} {S : St} {r : Int32} (hf : m_isTable x1 S = some r) : Ct l D cA A yX11_isTable cX11_isTable 2 (some .boolean) 1 0 0 [.ref (ad 0), .int x1] (MX D cA A ad S) (some (.int r)) (MX D cA A ad S) := by
  refine Ct_of (by decide +kernel) (Nat.le_of_ble_eq_true rfl) ?_
  intro p e s m args below meth c ls hC hr hlk hnm hX hK hl
  have hx := hC.1
  have hb := hC.2.1
  have hS : va_S A s.heap s.heap [] := va_S.rf
  have hX : MX D cA A ad S s.heap := hX
  have hl : lv_has ls 2 [(0, .ref (ad 0)), (1, .int x1)] := hl
  unfold m_isTable at hf
  refine lv_iload_n hx hb dX11_isTable_0 rfl (lv_at hl 1 rfl) ?_
  refine lv_iconst (v := 0) hx hb dX11_isTable_1 (by decide) ?_
  refine lv_aload_n hx hb dX11_isTable_2 rfl (lv_at hl 0 rfl) ?_
  refine mget (v := .int (S.1 2)) hx hb hC hK hX 2 (by decide) a_970 rfl dX11_isTable_3 ?_
  refine lv_iconst (v := 1) hx hb dX11_isTable_6 (by decide) ?_
  refine lv_isub hx hb dX11_isTable_7 ?_
  obtain ⟨z3, hz3, hf⟩ := cb_e hf
  refine mSi (As := [.int x1, .int 0, .int ((S.1 2) - 1)]) (rest := []) hC (c_m_in hz3) q_m_in a_1086 (Nat.le_of_ble_eq_true rfl) hX hK rfl hl.1 (by decide) dX11_isTable_8 hS (fun H locs hX hS => ?_)
  obtain ⟨h4, hf⟩ := gd_e hf
  cases hf
  exact Ct_rz hx hb hr hlk (nz01 h4) hX hS dX11_isTable_11

