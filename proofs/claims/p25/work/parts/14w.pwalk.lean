theorem q_d10_insert : VWv RX10 yX10_insert cX10_insert 4 (some .int) 2 := ⟨a_941, a_16, a_939, a_940, by decide +kernel, Nat.le_of_ble_eq_true rfl⟩
set_option maxRecDepth 100000 in
set_option maxHeartbeats 4000000 in
theorem c_d10_insert {l : Launch} {D : va_G} {cA : Nat → ClassId} {A : Nat → Prop} {ad : Cd → Nat} {L : List Cd} {G : Gt} {nt nv : Nat} (hfl : l.stackTraces = false) (hG : WF L G nt nv) {x1 : Int32} {x2 : Int32} {S : St} {e0 : Nat} {r : Int32} {S' : St} (hf : d10_insert G nt nv x1 x2 S = some (e0, r, S')) : CtX l D cA A yX10_insert cX10_insert 4 (some .int) 6 20 200 [.ref (ad (5, 0)), .int x1, .int x2] (DX D cA A ad L G S) e0 (some (.int r)) (DX D cA A ad L G S') := by
  refine CtX_of (by decide +kernel) (Nat.le_of_ble_eq_true rfl) ?_
  intro p e s m args below meth c ls hC hr hlk htab hX hKX hTX hl
  have hx := hC.1
  have hb := hC.2.1
  have hS : va_S A s.heap s.heap [] := va_S.rf
  have hl : lv_has ls 4 [(0, .ref (ad (5, 0))), (1, .int x1), (2, .int x2)] := hl
  unfold d10_insert at hf
  refine lv_aload_n hx hb dX10_insert_0 rfl (lv_at hl 0 rfl) ?_
  refine lv_iload_n hx hb dX10_insert_1 rfl (lv_at hl 1 rfl) ?_
  obtain ⟨z11, hz11, hf⟩ := cb_e hf
  refine dVx (cd := (5, 0)) (As := [.int x1]) (rest := []) hC (c_d10_tableAt hG hz11) q_d10_tableAt a_225 (Nat.le_of_ble_eq_true rfl) hX hKX (hG.F 0 (by decide)) rfl rfl rfl hl.1 (Nat.le_of_ble_eq_true rfl) dX10_insert_2 hS (fun H locs hX hS => ?_)
  refine lv_astoreO_n (lv' := [(3, rO ad 2 z11), (0, .ref (ad (5, 0))), (1, .int x1), (2, .int x2)]) hx hb dX10_insert_5 rfl hl (by decide) rfl (fun ls hl => ?_)
  refine lv_aloadO_n hx hb dX10_insert_6 rfl (lv_at hl 0 rfl) ?_
  rcases oc_e hf with ⟨ho, hf⟩ | ⟨u13, ho, hf⟩
  · subst ho
    have hl : lv_has ls 4 [(3, .null), (0, .ref (ad (5, 0))), (1, .int x1), (2, .int x2)] := hl
    refine lv_ifnonnullN hx hb dX10_insert_7 ?_
    cases hf
    exact CtX_th (is := 69) (text := "no such table") hfl hC hlk htab hTX hX (fun H1 q => HP.kept hX q) hS thw_3 (by decide) ⟨by decide, rfl⟩ hl.1 dX10_insert_10 dX10_insert_13 dX10_insert_14 dX10_insert_16 dX10_insert_19 (Nat.le_of_ble_eq_true rfl) (Nat.le_of_ble_eq_true rfl) (Nat.le_of_ble_eq_true rfl) (Nat.le_of_ble_eq_true rfl)
  · subst ho
    obtain ⟨h14, hf⟩ := gd_e hf
    have hl : lv_has ls 4 [(3, .ref (ad (2, u13))), (0, .ref (ad (5, 0))), (1, .int x1), (2, .int x2)] := hl
    refine lv_ifnonnull (x := ad (2, u13)) (tgt := 20) hx hb dX10_insert_7 (by decide) ?_
    refine lv_iload_n hx hb dX10_insert_20 rfl (lv_at hl 3 rfl) ?_
    refine lv_aload_n hx hb dX10_insert_21 rfl (lv_at hl 0 rfl) ?_
    refine dget (cd := (2, u13)) (ci := 5) (C := RX6) (T := TX6) (N := 5) (v := .int (G (20 + u13) 0)) hx hb hC hKX.1 hX (hG.T h14) rfl rfl inX6 0 (by decide) a_911 (Or.inl rfl) rfl dX10_insert_22 ?_
    obtain ⟨z15, hz15, hf⟩ := cb_e hf
    refine dSx (As := [.int x2, .int (G (20 + u13) 0)]) (rest := []) hC (c_d1_isRow hG hz15) q_d1_isRow a_527 (Nat.le_of_ble_eq_true rfl) hX hKX rfl hl.1 (Nat.le_of_ble_eq_true rfl) dX10_insert_25 hS (fun H locs hX hS => ?_)
    refine lv_if_ne (tgt := 41) hx hb dX10_insert_28 (by decide) (fun c17 => ?_) (fun c17 => ?_)
    · have hf := it_f c17 hf
      refine lv_aload_n hx hb dX10_insert_41 rfl (lv_at hl 0 rfl) ?_
      refine dget (cd := (2, u13)) (ci := 5) (C := RX6) (T := TX6) (N := 5) (v := .ref (ad (0, (1 + 7 * u13)))) hx hb hC hKX.1 hX (hG.T h14) rfl rfl inX6 2 (by decide) a_919 (Or.inl rfl) rfl dX10_insert_42 ?_
      obtain ⟨z18, hz18, hf⟩ := cb_e hf
      refine dVx (cd := (0, (1 + 7 * u13))) (As := []) (rest := []) hC (c_d4_size hG (hG.r1 h14) hz18) q_d4_size a_525 (Nat.le_of_ble_eq_true rfl) hX hKX (hG.r1 h14).1 rfl rfl rfl hl.1 (Nat.le_of_ble_eq_true rfl) dX10_insert_45 hS (fun H locs hX hS => ?_)
      refine lv_bipush (v := 12) hx hb dX10_insert_48 (by decide) ?_
      refine lv_icmp_ge (tgt := 69) hx hb dX10_insert_50 (by decide) (fun c20 => ?_) (fun c20 => ?_)
      · have hf := it_t c20 hf
        cases hf
        exact CtX_th (is := 97) (text := "key taken, or table full") hfl hC hlk htab hTX hX (fun H1 q => HP.kept hX q) hS thw_2 (by decide) ⟨by decide, rfl⟩ hl.1 dX10_insert_69 dX10_insert_72 dX10_insert_73 dX10_insert_75 dX10_insert_78 (Nat.le_of_ble_eq_true rfl) (Nat.le_of_ble_eq_true rfl) (Nat.le_of_ble_eq_true rfl) (Nat.le_of_ble_eq_true rfl)
      · have hf := it_f c20 hf
        refine lv_aload_n hx hb dX10_insert_53 rfl (lv_at hl 0 rfl) ?_
        refine dget (cd := (2, u13)) (ci := 5) (C := RX6) (T := TX6) (N := 5) (v := .ref (ad (0, (1 + 7 * u13)))) hx hb hC hKX.1 hX (hG.T h14) rfl rfl inX6 2 (by decide) a_919 (Or.inl rfl) rfl dX10_insert_54 ?_
        refine lv_iload_n hx hb dX10_insert_57 rfl (lv_at hl 3 rfl) ?_
        refine lv_aload_n hx hb dX10_insert_58 rfl (lv_at hl 0 rfl) ?_
        refine dget (cd := (2, u13)) (ci := 5) (C := RX6) (T := TX6) (N := 5) (v := .int (G (20 + u13) 1)) hx hb hC hKX.1 hX (hG.T h14) rfl rfl inX6 1 (by decide) a_914 (Or.inl rfl) rfl dX10_insert_59 ?_
        obtain ⟨z21, hz21, hf⟩ := cb_e hf
        refine dVx (cd := (0, (1 + 7 * u13))) (As := [.int x2, .int (G (20 + u13) 1)]) (rest := []) hC (c_d4_firstLike hG (hG.r1 h14) hz21) q_d4_firstLike a_942 (Nat.le_of_ble_eq_true rfl) hX hKX (hG.r1 h14).1 rfl rfl rfl hl.1 (Nat.le_of_ble_eq_true rfl) dX10_insert_62 hS (fun H locs hX hS => ?_)
        refine lv_iconst (v := (-1)) hx hb dX10_insert_65 (by decide) ?_
        refine lv_icmp_eq (tgt := 79) hx hb dX10_insert_66 (by decide) (fun c23 => ?_) (fun c23 => ?_)
        · have hf := it_t c23 hf
          refine lv_aload_n hx hb dX10_insert_79 rfl (lv_at hl 0 rfl) ?_
          refine dget (cd := (2, u13)) (ci := 5) (C := RX6) (T := TX6) (N := 5) (v := .ref (ad (0, (1 + 7 * u13)))) hx hb hC hKX.1 hX (hG.T h14) rfl rfl inX6 2 (by decide) a_919 (Or.inl rfl) rfl dX10_insert_80 ?_
          refine lv_iload_n hx hb dX10_insert_83 rfl (lv_at hl 3 rfl) ?_
          obtain ⟨S26, hz24, hf⟩ := cb_e hf
          refine dVv (cd := (0, (1 + 7 * u13))) (As := [.int x2]) (rest := []) hC (c_d4_put hG (hG.r1 h14) hz24) q_d4_put a_533 (Nat.le_of_ble_eq_true rfl) hX hKX (hG.r1 h14).1 rfl rfl rfl hl.1 (Nat.le_of_ble_eq_true rfl) dX10_insert_84 hS (fun H locs hX hS => ?_)
          refine lv_aload_n hx hb dX10_insert_87 rfl (lv_at hl 1 rfl) ?_
          obtain ⟨S29, hz27, hf⟩ := cb_e hf
          refine dVv (cd := (5, 0)) (As := []) (rest := []) hC (c_d10_showViews hG hz27) q_d10_showViews a_944 (Nat.le_of_ble_eq_true rfl) hX hKX (hG.F 0 (by decide)) rfl rfl rfl hl.1 (Nat.le_of_ble_eq_true rfl) dX10_insert_88 hS (fun H locs hX hS => ?_)
          refine lv_aload_n hx hb dX10_insert_91 rfl (lv_at hl 0 rfl) ?_
          refine dget (cd := (2, u13)) (ci := 5) (C := RX6) (T := TX6) (N := 5) (v := .ref (ad (0, (1 + 7 * u13)))) hx hb hC hKX.1 hX (hG.T h14) rfl rfl inX6 2 (by decide) a_919 (Or.inl rfl) rfl dX10_insert_92 ?_
          obtain ⟨z30, hz30, hf⟩ := cb_e hf
          refine dVx (cd := (0, (1 + 7 * u13))) (As := []) (rest := []) hC (c_d4_size hG (hG.r1 h14) hz30) q_d4_size a_525 (Nat.le_of_ble_eq_true rfl) hX hKX (hG.r1 h14).1 rfl rfl rfl hl.1 (Nat.le_of_ble_eq_true rfl) dX10_insert_95 hS (fun H locs hX hS => ?_)
          cases hf
          exact CtX_ri hx hb hr hlk hX hS (Nat.zero_le _) (Nat.zero_le _) dX10_insert_98
        · have hf := it_f c23 hf
          cases hf
          exact CtX_th (is := 97) (text := "key taken, or table full") hfl hC hlk htab hTX hX (fun H1 q => HP.kept hX q) hS thw_2 (by decide) ⟨by decide, rfl⟩ hl.1 dX10_insert_69 dX10_insert_72 dX10_insert_73 dX10_insert_75 dX10_insert_78 (Nat.le_of_ble_eq_true rfl) (Nat.le_of_ble_eq_true rfl) (Nat.le_of_ble_eq_true rfl) (Nat.le_of_ble_eq_true rfl)
    · have hf := it_t c17 hf
      cases hf
      exact CtX_th (is := 81) (text := "row out of range") hfl hC hlk htab hTX hX (fun H1 q => HP.kept hX q) hS thw_1 (by decide) ⟨by decide, rfl⟩ hl.1 dX10_insert_31 dX10_insert_34 dX10_insert_35 dX10_insert_37 dX10_insert_40 (Nat.le_of_ble_eq_true rfl) (Nat.le_of_ble_eq_true rfl) (Nat.le_of_ble_eq_true rfl) (Nat.le_of_ble_eq_true rfl)

theorem q_d10_delete : VWv RX10 yX10_delete cX10_delete 4 (some .int) 2 := ⟨a_954, a_16, a_952, a_953, by decide +kernel, Nat.le_of_ble_eq_true rfl⟩
set_option maxRecDepth 100000 in
set_option maxHeartbeats 4000000 in
theorem c_d10_delete {l : Launch} {D : va_G} {cA : Nat → ClassId} {A : Nat → Prop} {ad : Cd → Nat} {L : List Cd} {G : Gt} {nt nv : Nat} (hfl : l.stackTraces = false) (hG : WF L G nt nv) {x1 : Int32} {x2 : Int32} {S : St} {e0 : Nat} {r : Int32} {S' : St} (hf : d10_delete G nt nv x1 x2 S = some (e0, r, S')) : CtX l D cA A yX10_delete cX10_delete 4 (some .int) 6 20 200 [.ref (ad (5, 0)), .int x1, .int x2] (DX D cA A ad L G S) e0 (some (.int r)) (DX D cA A ad L G S') := by
  refine CtX_of (by decide +kernel) (Nat.le_of_ble_eq_true rfl) ?_
  intro p e s m args below meth c ls hC hr hlk htab hX hKX hTX hl
  have hx := hC.1
  have hb := hC.2.1
  have hS : va_S A s.heap s.heap [] := va_S.rf
  have hl : lv_has ls 4 [(0, .ref (ad (5, 0))), (1, .int x1), (2, .int x2)] := hl
  unfold d10_delete at hf
  refine lv_aload_n hx hb dX10_delete_0 rfl (lv_at hl 0 rfl) ?_
  refine lv_iload_n hx hb dX10_delete_1 rfl (lv_at hl 1 rfl) ?_
  obtain ⟨z11, hz11, hf⟩ := cb_e hf
  refine dVx (cd := (5, 0)) (As := [.int x1]) (rest := []) hC (c_d10_tableAt hG hz11) q_d10_tableAt a_225 (Nat.le_of_ble_eq_true rfl) hX hKX (hG.F 0 (by decide)) rfl rfl rfl hl.1 (Nat.le_of_ble_eq_true rfl) dX10_delete_2 hS (fun H locs hX hS => ?_)
  refine lv_astoreO_n (lv' := [(3, rO ad 2 z11), (0, .ref (ad (5, 0))), (1, .int x1), (2, .int x2)]) hx hb dX10_delete_5 rfl hl (by decide) rfl (fun ls hl => ?_)
  refine lv_aloadO_n hx hb dX10_delete_6 rfl (lv_at hl 0 rfl) ?_
  rcases oc_e hf with ⟨ho, hf⟩ | ⟨u13, ho, hf⟩
  · subst ho
    have hl : lv_has ls 4 [(3, .null), (0, .ref (ad (5, 0))), (1, .int x1), (2, .int x2)] := hl
    refine lv_ifnonnullN hx hb dX10_delete_7 ?_
    cases hf
    exact CtX_th (is := 69) (text := "no such table") hfl hC hlk htab hTX hX (fun H1 q => HP.kept hX q) hS thw_3 (by decide) ⟨by decide, rfl⟩ hl.1 dX10_delete_10 dX10_delete_13 dX10_delete_14 dX10_delete_16 dX10_delete_19 (Nat.le_of_ble_eq_true rfl) (Nat.le_of_ble_eq_true rfl) (Nat.le_of_ble_eq_true rfl) (Nat.le_of_ble_eq_true rfl)
  · subst ho
    obtain ⟨h14, hf⟩ := gd_e hf
    have hl : lv_has ls 4 [(3, .ref (ad (2, u13))), (0, .ref (ad (5, 0))), (1, .int x1), (2, .int x2)] := hl
    refine lv_ifnonnull (x := ad (2, u13)) (tgt := 20) hx hb dX10_delete_7 (by decide) ?_
    refine lv_aload_n hx hb dX10_delete_20 rfl (lv_at hl 0 rfl) ?_
    refine dget (cd := (2, u13)) (ci := 5) (C := RX6) (T := TX6) (N := 5) (v := .ref (ad (0, (1 + 7 * u13)))) hx hb hC hKX.1 hX (hG.T h14) rfl rfl inX6 2 (by decide) a_919 (Or.inl rfl) rfl dX10_delete_21 ?_
    refine lv_iload_n hx hb dX10_delete_24 rfl (lv_at hl 3 rfl) ?_
    obtain ⟨z15, hz15, hf⟩ := cb_e hf
    refine dVx (cd := (0, (1 + 7 * u13))) (As := [.int x2]) (rest := []) hC (c_d4_has hG (hG.r1 h14) hz15) q_d4_has a_524 (Nat.le_of_ble_eq_true rfl) hX hKX (hG.r1 h14).1 rfl rfl rfl hl.1 (Nat.le_of_ble_eq_true rfl) dX10_delete_25 hS (fun H locs hX hS => ?_)
    refine lv_if_ne (tgt := 41) hx hb dX10_delete_28 (by decide) (fun c17 => ?_) (fun c17 => ?_)
    · have hf := it_f c17 hf
      refine lv_aload_n hx hb dX10_delete_41 rfl (lv_at hl 0 rfl) ?_
      refine dget (cd := (2, u13)) (ci := 5) (C := RX6) (T := TX6) (N := 5) (v := .ref (ad (0, (1 + 7 * u13)))) hx hb hC hKX.1 hX (hG.T h14) rfl rfl inX6 2 (by decide) a_919 (Or.inl rfl) rfl dX10_delete_42 ?_
      refine lv_iload_n hx hb dX10_delete_45 rfl (lv_at hl 3 rfl) ?_
      obtain ⟨S20, hz18, hf⟩ := cb_e hf
      refine dVv (cd := (0, (1 + 7 * u13))) (As := [.int x2]) (rest := []) hC (c_d4_remove hG (hG.r1 h14) hz18) q_d4_remove a_558 (Nat.le_of_ble_eq_true rfl) hX hKX (hG.r1 h14).1 rfl rfl rfl hl.1 (Nat.le_of_ble_eq_true rfl) dX10_delete_46 hS (fun H locs hX hS => ?_)
      refine lv_aload_n hx hb dX10_delete_49 rfl (lv_at hl 1 rfl) ?_
      obtain ⟨S23, hz21, hf⟩ := cb_e hf
      refine dVv (cd := (5, 0)) (As := []) (rest := []) hC (c_d10_showViews hG hz21) q_d10_showViews a_944 (Nat.le_of_ble_eq_true rfl) hX hKX (hG.F 0 (by decide)) rfl rfl rfl hl.1 (Nat.le_of_ble_eq_true rfl) dX10_delete_50 hS (fun H locs hX hS => ?_)
      refine lv_aload_n hx hb dX10_delete_53 rfl (lv_at hl 0 rfl) ?_
      refine dget (cd := (2, u13)) (ci := 5) (C := RX6) (T := TX6) (N := 5) (v := .ref (ad (0, (1 + 7 * u13)))) hx hb hC hKX.1 hX (hG.T h14) rfl rfl inX6 2 (by decide) a_919 (Or.inl rfl) rfl dX10_delete_54 ?_
      obtain ⟨z24, hz24, hf⟩ := cb_e hf
      refine dVx (cd := (0, (1 + 7 * u13))) (As := []) (rest := []) hC (c_d4_size hG (hG.r1 h14) hz24) q_d4_size a_525 (Nat.le_of_ble_eq_true rfl) hX hKX (hG.r1 h14).1 rfl rfl rfl hl.1 (Nat.le_of_ble_eq_true rfl) dX10_delete_57 hS (fun H locs hX hS => ?_)
      cases hf
      exact CtX_ri hx hb hr hlk hX hS (Nat.zero_le _) (Nat.zero_le _) dX10_delete_60
    · have hf := it_t c17 hf
      cases hf
      exact CtX_thN (is := 111) (text := "no such row") hfl hC hlk htab hTX hX (fun H1 q => HP.kept hX q) hS thw_4 (by decide) hl.1 dX10_delete_31 dX10_delete_34 dX10_delete_35 dX10_delete_37 dX10_delete_40 (Nat.le_of_ble_eq_true rfl) (Nat.le_of_ble_eq_true rfl) (Nat.le_of_ble_eq_true rfl) (Nat.le_of_ble_eq_true rfl)

theorem q_d10_columns : VWv RX10 yX10_columns cX10_columns 3 (some .int) 1 := ⟨a_652, a_16, a_650, a_651, by decide +kernel, Nat.le_of_ble_eq_true rfl⟩
set_option maxRecDepth 100000 in
set_option maxHeartbeats 4000000 in
theorem c_d10_columns {l : Launch} {D : va_G} {cA : Nat → ClassId} {A : Nat → Prop} {ad : Cd → Nat} {L : List Cd} {G : Gt} {nt nv : Nat} (hfl : l.stackTraces = false) (hG : WF L G nt nv) {x1 : Int32} {S : St} {e0 : Nat} {r : Int32} {S' : St} (hf : d10_columns G nt nv x1 S = some (e0, r, S')) : CtX l D cA A yX10_columns cX10_columns 3 (some .int) 6 20 200 [.ref (ad (5, 0)), .int x1] (DX D cA A ad L G S) e0 (some (.int r)) (DX D cA A ad L G S') := by
  refine CtX_of (by decide +kernel) (Nat.le_of_ble_eq_true rfl) ?_
  intro p e s m args below meth c ls hC hr hlk htab hX hKX hTX hl
  have hx := hC.1
  have hb := hC.2.1
  have hS : va_S A s.heap s.heap [] := va_S.rf
  have hl : lv_has ls 3 [(0, .ref (ad (5, 0))), (1, .int x1)] := hl
  unfold d10_columns at hf
  refine lv_aload_n hx hb dX10_columns_0 rfl (lv_at hl 0 rfl) ?_
  refine lv_iload_n hx hb dX10_columns_1 rfl (lv_at hl 1 rfl) ?_
  obtain ⟨z11, hz11, hf⟩ := cb_e hf
  refine dVx (cd := (5, 0)) (As := [.int x1]) (rest := []) hC (c_d10_viewAt hG hz11) q_d10_viewAt a_633 (Nat.le_of_ble_eq_true rfl) hX hKX (hG.F 0 (by decide)) rfl rfl rfl hl.1 (Nat.le_of_ble_eq_true rfl) dX10_columns_2 hS (fun H locs hX hS => ?_)
  refine lv_astoreO_n (lv' := [(2, rO ad 4 z11), (0, .ref (ad (5, 0))), (1, .int x1)]) hx hb dX10_columns_5 rfl hl (by decide) rfl (fun ls hl => ?_)
  refine lv_aloadO_n hx hb dX10_columns_6 rfl (lv_at hl 0 rfl) ?_
  rcases oc_e hf with ⟨ho, hf⟩ | ⟨u13, ho, hf⟩
  · subst ho
    have hl : lv_has ls 3 [(2, .null), (0, .ref (ad (5, 0))), (1, .int x1)] := hl
    refine lv_ifnonnullN hx hb dX10_columns_7 ?_
    cases hf
    exact CtX_th (is := 135) (text := "no such view") hfl hC hlk htab hTX hX (fun H1 q => HP.kept hX q) hS thw_3 (by decide) ⟨by decide, rfl⟩ hl.1 dX10_columns_10 dX10_columns_13 dX10_columns_14 dX10_columns_16 dX10_columns_19 (Nat.le_of_ble_eq_true rfl) (Nat.le_of_ble_eq_true rfl) (Nat.le_of_ble_eq_true rfl) (Nat.le_of_ble_eq_true rfl)
  · subst ho
    obtain ⟨h14, hf⟩ := gd_e hf
    have hl : lv_has ls 3 [(2, .ref (ad (4, u13))), (0, .ref (ad (5, 0))), (1, .int x1)] := hl
    refine lv_ifnonnull (x := ad (4, u13)) (tgt := 20) hx hb dX10_columns_7 (by decide) ?_
    refine lv_aload_n hx hb dX10_columns_20 rfl (lv_at hl 0 rfl) ?_
    refine dgetV (v := u13) (k := 1) (x := .int (G u13 1)) hx hb hC hKX.1 hX hG h14 (by decide) a_706 (Or.inl rfl) rfl dX10_columns_21 ?_
    cases hf
    exact CtX_ri hx hb hr hlk hX hS (Nat.zero_le _) (Nat.zero_le _) dX10_columns_24

theorem q_d10_key : VWv RX10 yX10_key cX10_key 3 (some .int) 1 := ⟨a_659, a_16, a_657, a_658, by decide +kernel, Nat.le_of_ble_eq_true rfl⟩
set_option maxRecDepth 100000 in
set_option maxHeartbeats 4000000 in
theorem c_d10_key {l : Launch} {D : va_G} {cA : Nat → ClassId} {A : Nat → Prop} {ad : Cd → Nat} {L : List Cd} {G : Gt} {nt nv : Nat} (hfl : l.stackTraces = false) (hG : WF L G nt nv) {x1 : Int32} {S : St} {e0 : Nat} {r : Int32} {S' : St} (hf : d10_key G nt nv x1 S = some (e0, r, S')) : CtX l D cA A yX10_key cX10_key 3 (some .int) 6 20 200 [.ref (ad (5, 0)), .int x1] (DX D cA A ad L G S) e0 (some (.int r)) (DX D cA A ad L G S') := by
  refine CtX_of (by decide +kernel) (Nat.le_of_ble_eq_true rfl) ?_
  intro p e s m args below meth c ls hC hr hlk htab hX hKX hTX hl
  have hx := hC.1
  have hb := hC.2.1
  have hS : va_S A s.heap s.heap [] := va_S.rf
  have hl : lv_has ls 3 [(0, .ref (ad (5, 0))), (1, .int x1)] := hl
  unfold d10_key at hf
  refine lv_aload_n hx hb dX10_key_0 rfl (lv_at hl 0 rfl) ?_
  refine lv_iload_n hx hb dX10_key_1 rfl (lv_at hl 1 rfl) ?_
  obtain ⟨z11, hz11, hf⟩ := cb_e hf
  refine dVx (cd := (5, 0)) (As := [.int x1]) (rest := []) hC (c_d10_viewAt hG hz11) q_d10_viewAt a_633 (Nat.le_of_ble_eq_true rfl) hX hKX (hG.F 0 (by decide)) rfl rfl rfl hl.1 (Nat.le_of_ble_eq_true rfl) dX10_key_2 hS (fun H locs hX hS => ?_)
  refine lv_astoreO_n (lv' := [(2, rO ad 4 z11), (0, .ref (ad (5, 0))), (1, .int x1)]) hx hb dX10_key_5 rfl hl (by decide) rfl (fun ls hl => ?_)
  refine lv_aloadO_n hx hb dX10_key_6 rfl (lv_at hl 0 rfl) ?_
  rcases oc_e hf with ⟨ho, hf⟩ | ⟨u13, ho, hf⟩
  · subst ho
    have hl : lv_has ls 3 [(2, .null), (0, .ref (ad (5, 0))), (1, .int x1)] := hl
    refine lv_ifnonnullN hx hb dX10_key_7 ?_
    cases hf
    exact CtX_th (is := 135) (text := "no such view") hfl hC hlk htab hTX hX (fun H1 q => HP.kept hX q) hS thw_3 (by decide) ⟨by decide, rfl⟩ hl.1 dX10_key_10 dX10_key_13 dX10_key_14 dX10_key_16 dX10_key_19 (Nat.le_of_ble_eq_true rfl) (Nat.le_of_ble_eq_true rfl) (Nat.le_of_ble_eq_true rfl) (Nat.le_of_ble_eq_true rfl)
  · subst ho
    obtain ⟨h14, hf⟩ := gd_e hf
    have hl : lv_has ls 3 [(2, .ref (ad (4, u13))), (0, .ref (ad (5, 0))), (1, .int x1)] := hl
    refine lv_ifnonnull (x := ad (4, u13)) (tgt := 20) hx hb dX10_key_7 (by decide) ?_
    refine lv_aload_n hx hb dX10_key_20 rfl (lv_at hl 0 rfl) ?_
    refine dgetV (v := u13) (k := 2) (x := .int (G u13 2)) hx hb hC hKX.1 hX hG h14 (by decide) a_714 (Or.inl rfl) rfl dX10_key_21 ?_
    cases hf
    exact CtX_ri hx hb hr hlk hX hS (Nat.zero_le _) (Nat.zero_le _) dX10_key_24

theorem q_d10_rows : VWv RX10 yX10_rows cX10_rows 3 (some .int) 1 := ⟨a_644, a_16, a_642, a_643, by decide +kernel, Nat.le_of_ble_eq_true rfl⟩
set_option maxRecDepth 100000 in
set_option maxHeartbeats 4000000 in
theorem c_d10_rows {l : Launch} {D : va_G} {cA : Nat → ClassId} {A : Nat → Prop} {ad : Cd → Nat} {L : List Cd} {G : Gt} {nt nv : Nat} (hfl : l.stackTraces = false) (hG : WF L G nt nv) {x1 : Int32} {S : St} {e0 : Nat} {r : Int32} {S' : St} (hf : d10_rows G nt nv x1 S = some (e0, r, S')) : CtX l D cA A yX10_rows cX10_rows 3 (some .int) 6 20 200 [.ref (ad (5, 0)), .int x1] (DX D cA A ad L G S) e0 (some (.int r)) (DX D cA A ad L G S') := by
  refine CtX_of (by decide +kernel) (Nat.le_of_ble_eq_true rfl) ?_
  intro p e s m args below meth c ls hC hr hlk htab hX hKX hTX hl
  have hx := hC.1
  have hb := hC.2.1
  have hS : va_S A s.heap s.heap [] := va_S.rf
  have hl : lv_has ls 3 [(0, .ref (ad (5, 0))), (1, .int x1)] := hl
  unfold d10_rows at hf
  refine lv_aload_n hx hb dX10_rows_0 rfl (lv_at hl 0 rfl) ?_
  refine lv_iload_n hx hb dX10_rows_1 rfl (lv_at hl 1 rfl) ?_
  obtain ⟨z11, hz11, hf⟩ := cb_e hf
  refine dVx (cd := (5, 0)) (As := [.int x1]) (rest := []) hC (c_d10_viewAt hG hz11) q_d10_viewAt a_633 (Nat.le_of_ble_eq_true rfl) hX hKX (hG.F 0 (by decide)) rfl rfl rfl hl.1 (Nat.le_of_ble_eq_true rfl) dX10_rows_2 hS (fun H locs hX hS => ?_)
  refine lv_astoreO_n (lv' := [(2, rO ad 4 z11), (0, .ref (ad (5, 0))), (1, .int x1)]) hx hb dX10_rows_5 rfl hl (by decide) rfl (fun ls hl => ?_)
  refine lv_aloadO_n hx hb dX10_rows_6 rfl (lv_at hl 0 rfl) ?_
  rcases oc_e hf with ⟨ho, hf⟩ | ⟨u13, ho, hf⟩
  · subst ho
    have hl : lv_has ls 3 [(2, .null), (0, .ref (ad (5, 0))), (1, .int x1)] := hl
    refine lv_ifnonnullN hx hb dX10_rows_7 ?_
    cases hf
    exact CtX_th (is := 135) (text := "no such view") hfl hC hlk htab hTX hX (fun H1 q => HP.kept hX q) hS thw_3 (by decide) ⟨by decide, rfl⟩ hl.1 dX10_rows_10 dX10_rows_13 dX10_rows_14 dX10_rows_16 dX10_rows_19 (Nat.le_of_ble_eq_true rfl) (Nat.le_of_ble_eq_true rfl) (Nat.le_of_ble_eq_true rfl) (Nat.le_of_ble_eq_true rfl)
  · subst ho
    obtain ⟨h14, hf⟩ := gd_e hf
    have hl : lv_has ls 3 [(2, .ref (ad (4, u13))), (0, .ref (ad (5, 0))), (1, .int x1)] := hl
    refine lv_ifnonnull (x := ad (4, u13)) (tgt := 20) hx hb dX10_rows_7 (by decide) ?_
    refine lv_aload_n hx hb dX10_rows_20 rfl (lv_at hl 0 rfl) ?_
    refine dgetV (v := u13) (k := 6) (x := .ref (ad (0, (22 + 2 * u13)))) hx hb hC hKX.1 hX hG h14 (by decide) a_737 (Or.inl rfl) rfl dX10_rows_21 ?_
    obtain ⟨z15, hz15, hf⟩ := cb_e hf
    refine dVx (cd := (0, (22 + 2 * u13))) (As := []) (rest := []) hC (c_d4_size hG (hG.rs h14) hz15) q_d4_size a_525 (Nat.le_of_ble_eq_true rfl) hX hKX (hG.rs h14).1 rfl rfl rfl hl.1 (Nat.le_of_ble_eq_true rfl) dX10_rows_24 hS (fun H locs hX hS => ?_)
    cases hf
    exact CtX_ri hx hb hr hlk hX hS (Nat.zero_le _) (Nat.zero_le _) dX10_rows_27

theorem q_d10_row : VWv RX10 yX10_row cX10_row 4 (some .int) 2 := ⟨a_632, a_16, a_630, a_631, by decide +kernel, Nat.le_of_ble_eq_true rfl⟩
set_option maxRecDepth 100000 in
set_option maxHeartbeats 4000000 in
theorem c_d10_row {l : Launch} {D : va_G} {cA : Nat → ClassId} {A : Nat → Prop} {ad : Cd → Nat} {L : List Cd} {G : Gt} {nt nv : Nat} (hfl : l.stackTraces = false) (hG : WF L G nt nv) {x1 : Int32} {x2 : Int32} {S : St} {e0 : Nat} {r : Int32} {S' : St} (hf : d10_row G nt nv x1 x2 S = some (e0, r, S')) : CtX l D cA A yX10_row cX10_row 4 (some .int) 6 20 200 [.ref (ad (5, 0)), .int x1, .int x2] (DX D cA A ad L G S) e0 (some (.int r)) (DX D cA A ad L G S') := by
  refine CtX_of (by decide +kernel) (Nat.le_of_ble_eq_true rfl) ?_
  intro p e s m args below meth c ls hC hr hlk htab hX hKX hTX hl
  have hx := hC.1
  have hb := hC.2.1
  have hS : va_S A s.heap s.heap [] := va_S.rf
  have hl : lv_has ls 4 [(0, .ref (ad (5, 0))), (1, .int x1), (2, .int x2)] := hl
  unfold d10_row at hf
  refine lv_aload_n hx hb dX10_row_0 rfl (lv_at hl 0 rfl) ?_
  refine lv_iload_n hx hb dX10_row_1 rfl (lv_at hl 1 rfl) ?_
  obtain ⟨z11, hz11, hf⟩ := cb_e hf
  refine dVx (cd := (5, 0)) (As := [.int x1]) (rest := []) hC (c_d10_viewAt hG hz11) q_d10_viewAt a_633 (Nat.le_of_ble_eq_true rfl) hX hKX (hG.F 0 (by decide)) rfl rfl rfl hl.1 (Nat.le_of_ble_eq_true rfl) dX10_row_2 hS (fun H locs hX hS => ?_)
  refine lv_astoreO_n (lv' := [(3, rO ad 4 z11), (0, .ref (ad (5, 0))), (1, .int x1), (2, .int x2)]) hx hb dX10_row_5 rfl hl (by decide) rfl (fun ls hl => ?_)
  refine lv_aloadO_n hx hb dX10_row_6 rfl (lv_at hl 0 rfl) ?_
  rcases oc_e hf with ⟨ho, hf⟩ | ⟨u13, ho, hf⟩
  · subst ho
    have hl : lv_has ls 4 [(3, .null), (0, .ref (ad (5, 0))), (1, .int x1), (2, .int x2)] := hl
    refine lv_ifnullN (tgt := 25) hx hb dX10_row_7 (by decide) ?_
    cases hf
    exact CtX_th (is := 169) (text := "no such view or place") hfl hC hlk htab hTX hX (fun H1 q => HP.kept hX q) hS thw_3 (by decide) ⟨by decide, rfl⟩ hl.1 dX10_row_25 dX10_row_28 dX10_row_29 dX10_row_31 dX10_row_34 (Nat.le_of_ble_eq_true rfl) (Nat.le_of_ble_eq_true rfl) (Nat.le_of_ble_eq_true rfl) (Nat.le_of_ble_eq_true rfl)
  · subst ho
    obtain ⟨h14, hf⟩ := gd_e hf
    have hl : lv_has ls 4 [(3, .ref (ad (4, u13))), (0, .ref (ad (5, 0))), (1, .int x1), (2, .int x2)] := hl
    refine lv_ifnull (x := ad (4, u13)) hx hb dX10_row_7 ?_
    refine lv_iload_n hx hb dX10_row_10 rfl (lv_at hl 3 rfl) ?_
    refine lv_if_lt (tgt := 25) hx hb dX10_row_11 (by decide) (fun c15 => ?_) (fun c15 => ?_)
    · have hf := it_t c15 hf
      cases hf
      exact CtX_th (is := 169) (text := "no such view or place") hfl hC hlk htab hTX hX (fun H1 q => HP.kept hX q) hS thw_3 (by decide) ⟨by decide, rfl⟩ hl.1 dX10_row_25 dX10_row_28 dX10_row_29 dX10_row_31 dX10_row_34 (Nat.le_of_ble_eq_true rfl) (Nat.le_of_ble_eq_true rfl) (Nat.le_of_ble_eq_true rfl) (Nat.le_of_ble_eq_true rfl)
    · have hf := it_f c15 hf
      refine lv_iload_n hx hb dX10_row_14 rfl (lv_at hl 3 rfl) ?_
      refine lv_aload_n hx hb dX10_row_15 rfl (lv_at hl 0 rfl) ?_
      refine dgetV (v := u13) (k := 6) (x := .ref (ad (0, (22 + 2 * u13)))) hx hb hC hKX.1 hX hG h14 (by decide) a_737 (Or.inl rfl) rfl dX10_row_16 ?_
      obtain ⟨z16, hz16, hf⟩ := cb_e hf
      refine dVx (cd := (0, (22 + 2 * u13))) (As := []) (rest := [.int x2]) hC (c_d4_size hG (hG.rs h14) hz16) q_d4_size a_525 (Nat.le_of_ble_eq_true rfl) hX hKX (hG.rs h14).1 rfl rfl rfl hl.1 (Nat.le_of_ble_eq_true rfl) dX10_row_19 hS (fun H locs hX hS => ?_)
      refine lv_icmp_lt (tgt := 35) hx hb dX10_row_22 (by decide) (fun c18 => ?_) (fun c18 => ?_)
      · have hf := it_t c18 hf
        refine lv_aload_n hx hb dX10_row_35 rfl (lv_at hl 0 rfl) ?_
        refine dgetV (v := u13) (k := 6) (x := .ref (ad (0, (22 + 2 * u13)))) hx hb hC hKX.1 hX hG h14 (by decide) a_737 (Or.inl rfl) rfl dX10_row_36 ?_
        refine lv_iload_n hx hb dX10_row_39 rfl (lv_at hl 3 rfl) ?_
        obtain ⟨z19, hz19, hf⟩ := cb_e hf
        refine dVx (cd := (0, (22 + 2 * u13))) (As := [.int x2]) (rest := []) hC (c_d4_at hG (hG.rs h14) hz19) q_d4_at a_516 (Nat.le_of_ble_eq_true rfl) hX hKX (hG.rs h14).1 rfl rfl rfl hl.1 (Nat.le_of_ble_eq_true rfl) dX10_row_40 hS (fun H locs hX hS => ?_)
        cases hf
        exact CtX_ri hx hb hr hlk hX hS (Nat.zero_le _) (Nat.zero_le _) dX10_row_43
      · have hf := it_f c18 hf
        cases hf
        exact CtX_th (is := 169) (text := "no such view or place") hfl hC hlk htab hTX hX (fun H1 q => HP.kept hX q) hS thw_3 (by decide) ⟨by decide, rfl⟩ hl.1 dX10_row_25 dX10_row_28 dX10_row_29 dX10_row_31 dX10_row_34 (Nat.le_of_ble_eq_true rfl) (Nat.le_of_ble_eq_true rfl) (Nat.le_of_ble_eq_true rfl) (Nat.le_of_ble_eq_true rfl)

theorem q_d10_open : VWv RX10 yX10_open cX10_open 3 (some .int) 1 := ⟨a_666, a_16, a_664, a_665, by decide +kernel, Nat.le_of_ble_eq_true rfl⟩
set_option maxRecDepth 100000 in
set_option maxHeartbeats 4000000 in
theorem c_d10_open {l : Launch} {D : va_G} {cA : Nat → ClassId} {A : Nat → Prop} {ad : Cd → Nat} {L : List Cd} {G : Gt} {nt nv : Nat} (hfl : l.stackTraces = false) (hG : WF L G nt nv) {x1 : Int32} {S : St} {e0 : Nat} {r : Int32} {S' : St} (hf : d10_open G nt nv x1 S = some (e0, r, S')) : CtX l D cA A yX10_open cX10_open 3 (some .int) 6 20 200 [.ref (ad (5, 0)), .int x1] (DX D cA A ad L G S) e0 (some (.int r)) (DX D cA A ad L G S') := by
  refine CtX_of (by decide +kernel) (Nat.le_of_ble_eq_true rfl) ?_
  intro p e s m args below meth c ls hC hr hlk htab hX hKX hTX hl
  have hx := hC.1
  have hb := hC.2.1
  have hS : va_S A s.heap s.heap [] := va_S.rf
  have hl : lv_has ls 3 [(0, .ref (ad (5, 0))), (1, .int x1)] := hl
  unfold d10_open at hf
  refine lv_aload_n hx hb dX10_open_0 rfl (lv_at hl 0 rfl) ?_
  refine lv_iload_n hx hb dX10_open_1 rfl (lv_at hl 1 rfl) ?_
  obtain ⟨z11, hz11, hf⟩ := cb_e hf
  refine dVx (cd := (5, 0)) (As := [.int x1]) (rest := []) hC (c_d10_viewAt hG hz11) q_d10_viewAt a_633 (Nat.le_of_ble_eq_true rfl) hX hKX (hG.F 0 (by decide)) rfl rfl rfl hl.1 (Nat.le_of_ble_eq_true rfl) dX10_open_2 hS (fun H locs hX hS => ?_)
  refine lv_astoreO_n (lv' := [(2, rO ad 4 z11), (0, .ref (ad (5, 0))), (1, .int x1)]) hx hb dX10_open_5 rfl hl (by decide) rfl (fun ls hl => ?_)
  refine lv_aloadO_n hx hb dX10_open_6 rfl (lv_at hl 0 rfl) ?_
  rcases oc_e hf with ⟨ho, hf⟩ | ⟨u13, ho, hf⟩
  · subst ho
    have hl : lv_has ls 3 [(2, .null), (0, .ref (ad (5, 0))), (1, .int x1)] := hl
    refine lv_ifnonnullN hx hb dX10_open_7 ?_
    cases hf
    exact CtX_th (is := 135) (text := "no such view") hfl hC hlk htab hTX hX (fun H1 q => HP.kept hX q) hS thw_3 (by decide) ⟨by decide, rfl⟩ hl.1 dX10_open_10 dX10_open_13 dX10_open_14 dX10_open_16 dX10_open_19 (Nat.le_of_ble_eq_true rfl) (Nat.le_of_ble_eq_true rfl) (Nat.le_of_ble_eq_true rfl) (Nat.le_of_ble_eq_true rfl)
  · subst ho
    obtain ⟨h14, hf⟩ := gd_e hf
    have hl : lv_has ls 3 [(2, .ref (ad (4, u13))), (0, .ref (ad (5, 0))), (1, .int x1)] := hl
    refine lv_ifnonnull (x := ad (4, u13)) (tgt := 20) hx hb dX10_open_7 (by decide) ?_
    refine lv_aload_n hx hb dX10_open_20 rfl (lv_at hl 1 rfl) ?_
    refine lv_aload_n hx hb dX10_open_21 rfl (lv_at hl 0 rfl) ?_
    refine dput (cd := (5, 0)) (ci := 8) (C := RX10) (T := TX10) (N := 9) (ty := (.object "Lensbench$View")) hx hb hC hKX.1 hX hS (hG.F 0 (by decide)) rfl rfl inX10 tyX10 tyX10_ok nmX10 5 (by decide) a_111 rfl rfl (by decide +kernel) rfl rfl (Nat.le_of_ble_eq_true rfl) (dset44 (o := some u13) (x := nI u13) hG (oid_nI (Nat.lt_of_lt_of_le h14 (Nat.le_trans hG.1.2 (by decide))))) dX10_open_22 (fun H locs hX hS => ?_)
    obtain ⟨S15, eS15, hf⟩ := lt_e hf
    rw [← eS15] at hX
    refine lv_aload_n hx hb dX10_open_25 rfl (lv_at hl 1 rfl) ?_
    refine dget (cd := (5, 0)) (ci := 8) (C := RX10) (T := TX10) (N := 9) (v := .ref (ad (0, 0))) hx hb hC hKX.1 hX (hG.F 0 (by decide)) rfl rfl inX10 4 (by decide) a_110 (Or.inl rfl) rfl dX10_open_26 ?_
    refine lv_aload_n hx hb dX10_open_29 rfl (lv_at hl 0 rfl) ?_
    refine dgetV (v := u13) (k := 6) (x := .ref (ad (0, (22 + 2 * u13)))) hx hb hC hKX.1 hX hG h14 (by decide) a_737 (Or.inl rfl) rfl dX10_open_30 ?_
    obtain ⟨S18, hz16, hf⟩ := cb_e hf
    refine dVv (cd := (0, 0)) (As := [.ref (ad (0, (22 + 2 * u13)))]) (rest := []) hC (c_d4_takeOver hG hG.r0 (hG.rs h14) hz16) q_d4_takeOver a_229 (Nat.le_of_ble_eq_true rfl) hX hKX hG.r0.1 rfl rfl rfl hl.1 (Nat.le_of_ble_eq_true rfl) dX10_open_33 hS (fun H locs hX hS => ?_)
    refine lv_aload_n hx hb dX10_open_36 rfl (lv_at hl 1 rfl) ?_
    refine dget (cd := (5, 0)) (ci := 8) (C := RX10) (T := TX10) (N := 9) (v := .ref (ad (0, 0))) hx hb hC hKX.1 hX (hG.F 0 (by decide)) rfl rfl inX10 4 (by decide) a_110 (Or.inl rfl) rfl dX10_open_37 ?_
    obtain ⟨z19, hz19, hf⟩ := cb_e hf
    refine dVx (cd := (0, 0)) (As := []) (rest := []) hC (c_d4_size hG hG.r0 hz19) q_d4_size a_525 (Nat.le_of_ble_eq_true rfl) hX hKX hG.r0.1 rfl rfl rfl hl.1 (Nat.le_of_ble_eq_true rfl) dX10_open_40 hS (fun H locs hX hS => ?_)
    cases hf
    exact CtX_ri hx hb hr hlk hX hS (Nat.zero_le _) (Nat.zero_le _) dX10_open_43

theorem q_d10_add : VWv RX10 yX10_add cX10_add 2 (some .int) 1 := ⟨a_523, a_16, a_521, a_522, by decide +kernel, Nat.le_of_ble_eq_true rfl⟩
set_option maxRecDepth 100000 in
set_option maxHeartbeats 4000000 in
theorem c_d10_add {l : Launch} {D : va_G} {cA : Nat → ClassId} {A : Nat → Prop} {ad : Cd → Nat} {L : List Cd} {G : Gt} {nt nv : Nat} (hfl : l.stackTraces = false) (hG : WF L G nt nv) {x1 : Int32} {S : St} {e0 : Nat} {r : Int32} {S' : St} (hf : d10_add G nt nv x1 S = some (e0, r, S')) : CtX l D cA A yX10_add cX10_add 2 (some .int) 6 20 200 [.ref (ad (5, 0)), .int x1] (DX D cA A ad L G S) e0 (some (.int r)) (DX D cA A ad L G S') := by
  refine CtX_of (by decide +kernel) (Nat.le_of_ble_eq_true rfl) ?_
  intro p e s m args below meth c ls hC hr hlk htab hX hKX hTX hl
  have hx := hC.1
  have hb := hC.2.1
  have hS : va_S A s.heap s.heap [] := va_S.rf
  have hl : lv_has ls 2 [(0, .ref (ad (5, 0))), (1, .int x1)] := hl
  unfold d10_add at hf
  refine lv_aload_n hx hb dX10_add_0 rfl (lv_at hl 0 rfl) ?_
  obtain ⟨o11, eo11, hf⟩ := lt_e hf
  refine dget (cd := (5, 0)) (ci := 8) (C := RX10) (T := TX10) (N := 9) (v := rO ad 4 o11) hx hb hC hKX.1 hX (hG.F 0 (by decide)) rfl rfl inX10 5 (by decide) a_111 (Or.inl rfl) (by rw [eo11]; rfl) dX10_add_1 ?_
  rcases oc_e hf with ⟨ho, hf⟩ | ⟨u12, ho, hf⟩
  · subst ho
    have hl : lv_has ls 2 [(0, .ref (ad (5, 0))), (1, .int x1)] := hl
    refine lv_ifnullN (tgt := 30) hx hb dX10_add_4 (by decide) ?_
    cases hf
    exact CtX_th (is := 183) (text := "no draft, row is there, or draft full") hfl hC hlk htab hTX hX (fun H1 q => HP.kept hX q) hS thw_2 (by decide) ⟨by decide, rfl⟩ hl.1 dX10_add_30 dX10_add_33 dX10_add_34 dX10_add_36 dX10_add_39 (Nat.le_of_ble_eq_true rfl) (Nat.le_of_ble_eq_true rfl) (Nat.le_of_ble_eq_true rfl) (Nat.le_of_ble_eq_true rfl)
  · subst ho
    obtain ⟨h13, hf⟩ := gd_e hf
    have hl : lv_has ls 2 [(0, .ref (ad (5, 0))), (1, .int x1)] := hl
    refine lv_ifnull (x := ad (4, u12)) hx hb dX10_add_4 ?_
    refine lv_aload_n hx hb dX10_add_7 rfl (lv_at hl 0 rfl) ?_
    refine dget (cd := (5, 0)) (ci := 8) (C := RX10) (T := TX10) (N := 9) (v := .ref (ad (0, 0))) hx hb hC hKX.1 hX (hG.F 0 (by decide)) rfl rfl inX10 4 (by decide) a_110 (Or.inl rfl) rfl dX10_add_8 ?_
    refine lv_iload_n hx hb dX10_add_11 rfl (lv_at hl 1 rfl) ?_
    obtain ⟨z14, hz14, hf⟩ := cb_e hf
    refine dVx (cd := (0, 0)) (As := [.int x1]) (rest := []) hC (c_d4_has hG hG.r0 hz14) q_d4_has a_524 (Nat.le_of_ble_eq_true rfl) hX hKX hG.r0.1 rfl rfl rfl hl.1 (Nat.le_of_ble_eq_true rfl) dX10_add_12 hS (fun H locs hX hS => ?_)
    refine lv_if_ne (tgt := 30) hx hb dX10_add_15 (by decide) (fun c16 => ?_) (fun c16 => ?_)
    · have hf := it_f c16 hf
      cases hf
      exact CtX_th (is := 183) (text := "no draft, row is there, or draft full") hfl hC hlk htab hTX hX (fun H1 q => HP.kept hX q) hS thw_2 (by decide) ⟨by decide, rfl⟩ hl.1 dX10_add_30 dX10_add_33 dX10_add_34 dX10_add_36 dX10_add_39 (Nat.le_of_ble_eq_true rfl) (Nat.le_of_ble_eq_true rfl) (Nat.le_of_ble_eq_true rfl) (Nat.le_of_ble_eq_true rfl)
    · have hf := it_t c16 hf
      refine lv_aload_n hx hb dX10_add_18 rfl (lv_at hl 0 rfl) ?_
      refine dget (cd := (5, 0)) (ci := 8) (C := RX10) (T := TX10) (N := 9) (v := .ref (ad (0, 0))) hx hb hC hKX.1 hX (hG.F 0 (by decide)) rfl rfl inX10 4 (by decide) a_110 (Or.inl rfl) rfl dX10_add_19 ?_
      obtain ⟨z17, hz17, hf⟩ := cb_e hf
      refine dVx (cd := (0, 0)) (As := []) (rest := []) hC (c_d4_size hG hG.r0 hz17) q_d4_size a_525 (Nat.le_of_ble_eq_true rfl) hX hKX hG.r0.1 rfl rfl rfl hl.1 (Nat.le_of_ble_eq_true rfl) dX10_add_22 hS (fun H locs hX hS => ?_)
      refine lv_bipush (v := 20) hx hb dX10_add_25 (by decide) ?_
      refine lv_icmp_lt (tgt := 40) hx hb dX10_add_27 (by decide) (fun c19 => ?_) (fun c19 => ?_)
      · have hf := it_t c19 hf
        refine lv_iload_n hx hb dX10_add_40 rfl (lv_at hl 1 rfl) ?_
        refine lv_aload_n hx hb dX10_add_41 rfl (lv_at hl 0 rfl) ?_
        obtain ⟨o20, eo20, hf⟩ := lt_e hf
        refine dget (cd := (5, 0)) (ci := 8) (C := RX10) (T := TX10) (N := 9) (v := rO ad 4 o20) hx hb hC hKX.1 hX (hG.F 0 (by decide)) rfl rfl inX10 5 (by decide) a_111 (Or.inl rfl) (by rw [eo20]; rfl) dX10_add_42 ?_
        rcases oc_e hf with ⟨ho, hf⟩ | ⟨u21, ho, hf⟩
        · cases hf
        subst ho
        obtain ⟨h22, hf⟩ := gd_e hf
        have hl : lv_has ls 2 [(0, .ref (ad (5, 0))), (1, .int x1)] := hl
        refine W.eq (g2 := F0 m 45 ls [.ref (ad (4, u21)), .int x1]) rfl ?_
        refine dgetV (v := u21) (k := 1) (x := .int (G u21 1)) hx hb hC hKX.1 hX hG h22 (by decide) a_706 (Or.inl rfl) rfl dX10_add_45 ?_
        obtain ⟨z23, hz23, hf⟩ := cb_e hf
        refine dSx (As := [.int x1, .int (G u21 1)]) (rest := []) hC (c_d1_isRow hG hz23) q_d1_isRow a_527 (Nat.le_of_ble_eq_true rfl) hX hKX rfl hl.1 (Nat.le_of_ble_eq_true rfl) dX10_add_48 hS (fun H locs hX hS => ?_)
        refine lv_if_ne (tgt := 64) hx hb dX10_add_51 (by decide) (fun c25 => ?_) (fun c25 => ?_)
        · have hf := it_f c25 hf
          refine lv_aload_n hx hb dX10_add_64 rfl (lv_at hl 0 rfl) ?_
          refine dget (cd := (5, 0)) (ci := 8) (C := RX10) (T := TX10) (N := 9) (v := .ref (ad (0, 0))) hx hb hC hKX.1 hX (hG.F 0 (by decide)) rfl rfl inX10 4 (by decide) a_110 (Or.inl rfl) rfl dX10_add_65 ?_
          refine lv_iload_n hx hb dX10_add_68 rfl (lv_at hl 1 rfl) ?_
          obtain ⟨S28, hz26, hf⟩ := cb_e hf
          refine dVv (cd := (0, 0)) (As := [.int x1]) (rest := []) hC (c_d4_put hG hG.r0 hz26) q_d4_put a_533 (Nat.le_of_ble_eq_true rfl) hX hKX hG.r0.1 rfl rfl rfl hl.1 (Nat.le_of_ble_eq_true rfl) dX10_add_69 hS (fun H locs hX hS => ?_)
          refine lv_aload_n hx hb dX10_add_72 rfl (lv_at hl 0 rfl) ?_
          refine dget (cd := (5, 0)) (ci := 8) (C := RX10) (T := TX10) (N := 9) (v := .ref (ad (0, 0))) hx hb hC hKX.1 hX (hG.F 0 (by decide)) rfl rfl inX10 4 (by decide) a_110 (Or.inl rfl) rfl dX10_add_73 ?_
          obtain ⟨z29, hz29, hf⟩ := cb_e hf
          refine dVx (cd := (0, 0)) (As := []) (rest := []) hC (c_d4_size hG hG.r0 hz29) q_d4_size a_525 (Nat.le_of_ble_eq_true rfl) hX hKX hG.r0.1 rfl rfl rfl hl.1 (Nat.le_of_ble_eq_true rfl) dX10_add_76 hS (fun H locs hX hS => ?_)
          cases hf
          exact CtX_ri hx hb hr hlk hX hS (Nat.zero_le _) (Nat.zero_le _) dX10_add_79
        · have hf := it_t c25 hf
          cases hf
          exact CtX_th (is := 81) (text := "row out of range") hfl hC hlk htab hTX hX (fun H1 q => HP.kept hX q) hS thw_1 (by decide) ⟨by decide, rfl⟩ hl.1 dX10_add_54 dX10_add_57 dX10_add_58 dX10_add_60 dX10_add_63 (Nat.le_of_ble_eq_true rfl) (Nat.le_of_ble_eq_true rfl) (Nat.le_of_ble_eq_true rfl) (Nat.le_of_ble_eq_true rfl)
      · have hf := it_f c19 hf
        cases hf
        exact CtX_th (is := 183) (text := "no draft, row is there, or draft full") hfl hC hlk htab hTX hX (fun H1 q => HP.kept hX q) hS thw_2 (by decide) ⟨by decide, rfl⟩ hl.1 dX10_add_30 dX10_add_33 dX10_add_34 dX10_add_36 dX10_add_39 (Nat.le_of_ble_eq_true rfl) (Nat.le_of_ble_eq_true rfl) (Nat.le_of_ble_eq_true rfl) (Nat.le_of_ble_eq_true rfl)

theorem q_d10_takeOut : VWv RX10 yX10_takeOut cX10_takeOut 2 (some .int) 1 := ⟨a_541, a_16, a_539, a_540, by decide +kernel, Nat.le_of_ble_eq_true rfl⟩
set_option maxRecDepth 100000 in
set_option maxHeartbeats 4000000 in
theorem c_d10_takeOut {l : Launch} {D : va_G} {cA : Nat → ClassId} {A : Nat → Prop} {ad : Cd → Nat} {L : List Cd} {G : Gt} {nt nv : Nat} (hfl : l.stackTraces = false) (hG : WF L G nt nv) {x1 : Int32} {S : St} {e0 : Nat} {r : Int32} {S' : St} (hf : d10_takeOut G nt nv x1 S = some (e0, r, S')) : CtX l D cA A yX10_takeOut cX10_takeOut 2 (some .int) 6 20 200 [.ref (ad (5, 0)), .int x1] (DX D cA A ad L G S) e0 (some (.int r)) (DX D cA A ad L G S') := by
  refine CtX_of (by decide +kernel) (Nat.le_of_ble_eq_true rfl) ?_
  intro p e s m args below meth c ls hC hr hlk htab hX hKX hTX hl
  have hx := hC.1
  have hb := hC.2.1
  have hS : va_S A s.heap s.heap [] := va_S.rf
  have hl : lv_has ls 2 [(0, .ref (ad (5, 0))), (1, .int x1)] := hl
  unfold d10_takeOut at hf
  refine lv_aload_n hx hb dX10_takeOut_0 rfl (lv_at hl 0 rfl) ?_
  obtain ⟨o11, eo11, hf⟩ := lt_e hf
  refine dget (cd := (5, 0)) (ci := 8) (C := RX10) (T := TX10) (N := 9) (v := rO ad 4 o11) hx hb hC hKX.1 hX (hG.F 0 (by decide)) rfl rfl inX10 5 (by decide) a_111 (Or.inl rfl) (by rw [eo11]; rfl) dX10_takeOut_1 ?_
  rcases oc_e hf with ⟨ho, hf⟩ | ⟨u12, ho, hf⟩
  · subst ho
    have hl : lv_has ls 2 [(0, .ref (ad (5, 0))), (1, .int x1)] := hl
    refine lv_ifnonnullN hx hb dX10_takeOut_4 ?_
    cases hf
    exact CtX_th (is := 185) (text := "no draft") hfl hC hlk htab hTX hX (fun H1 q => HP.kept hX q) hS thw_2 (by decide) ⟨by decide, rfl⟩ hl.1 dX10_takeOut_7 dX10_takeOut_10 dX10_takeOut_11 dX10_takeOut_13 dX10_takeOut_16 (Nat.le_of_ble_eq_true rfl) (Nat.le_of_ble_eq_true rfl) (Nat.le_of_ble_eq_true rfl) (Nat.le_of_ble_eq_true rfl)
  · subst ho
    obtain ⟨h13, hf⟩ := gd_e hf
    have hl : lv_has ls 2 [(0, .ref (ad (5, 0))), (1, .int x1)] := hl
    refine lv_ifnonnull (x := ad (4, u12)) (tgt := 17) hx hb dX10_takeOut_4 (by decide) ?_
    refine lv_aload_n hx hb dX10_takeOut_17 rfl (lv_at hl 0 rfl) ?_
    refine dget (cd := (5, 0)) (ci := 8) (C := RX10) (T := TX10) (N := 9) (v := .ref (ad (0, 0))) hx hb hC hKX.1 hX (hG.F 0 (by decide)) rfl rfl inX10 4 (by decide) a_110 (Or.inl rfl) rfl dX10_takeOut_18 ?_
    refine lv_iload_n hx hb dX10_takeOut_21 rfl (lv_at hl 1 rfl) ?_
    obtain ⟨z14, hz14, hf⟩ := cb_e hf
    refine dVx (cd := (0, 0)) (As := [.int x1]) (rest := []) hC (c_d4_has hG hG.r0 hz14) q_d4_has a_524 (Nat.le_of_ble_eq_true rfl) hX hKX hG.r0.1 rfl rfl rfl hl.1 (Nat.le_of_ble_eq_true rfl) dX10_takeOut_22 hS (fun H locs hX hS => ?_)
    refine lv_if_ne (tgt := 38) hx hb dX10_takeOut_25 (by decide) (fun c16 => ?_) (fun c16 => ?_)
    · have hf := it_f c16 hf
      refine lv_aload_n hx hb dX10_takeOut_38 rfl (lv_at hl 0 rfl) ?_
      refine dget (cd := (5, 0)) (ci := 8) (C := RX10) (T := TX10) (N := 9) (v := .ref (ad (0, 0))) hx hb hC hKX.1 hX (hG.F 0 (by decide)) rfl rfl inX10 4 (by decide) a_110 (Or.inl rfl) rfl dX10_takeOut_39 ?_
      refine lv_iload_n hx hb dX10_takeOut_42 rfl (lv_at hl 1 rfl) ?_
      obtain ⟨S19, hz17, hf⟩ := cb_e hf
      refine dVv (cd := (0, 0)) (As := [.int x1]) (rest := []) hC (c_d4_remove hG hG.r0 hz17) q_d4_remove a_558 (Nat.le_of_ble_eq_true rfl) hX hKX hG.r0.1 rfl rfl rfl hl.1 (Nat.le_of_ble_eq_true rfl) dX10_takeOut_43 hS (fun H locs hX hS => ?_)
      refine lv_aload_n hx hb dX10_takeOut_46 rfl (lv_at hl 0 rfl) ?_
      refine dget (cd := (5, 0)) (ci := 8) (C := RX10) (T := TX10) (N := 9) (v := .ref (ad (0, 0))) hx hb hC hKX.1 hX (hG.F 0 (by decide)) rfl rfl inX10 4 (by decide) a_110 (Or.inl rfl) rfl dX10_takeOut_47 ?_
      obtain ⟨z20, hz20, hf⟩ := cb_e hf
      refine dVx (cd := (0, 0)) (As := []) (rest := []) hC (c_d4_size hG hG.r0 hz20) q_d4_size a_525 (Nat.le_of_ble_eq_true rfl) hX hKX hG.r0.1 rfl rfl rfl hl.1 (Nat.le_of_ble_eq_true rfl) dX10_takeOut_50 hS (fun H locs hX hS => ?_)
      cases hf
      exact CtX_ri hx hb hr hlk hX hS (Nat.zero_le _) (Nat.zero_le _) dX10_takeOut_53
    · have hf := it_t c16 hf
      cases hf
      exact CtX_thN (is := 111) (text := "no such row") hfl hC hlk htab hTX hX (fun H1 q => HP.kept hX q) hS thw_4 (by decide) hl.1 dX10_takeOut_28 dX10_takeOut_31 dX10_takeOut_32 dX10_takeOut_34 dX10_takeOut_37 (Nat.le_of_ble_eq_true rfl) (Nat.le_of_ble_eq_true rfl) (Nat.le_of_ble_eq_true rfl) (Nat.le_of_ble_eq_true rfl)

theorem q_d10_change : VWv RX10 yX10_change cX10_change 5 (some .int) 3 := ⟨a_568, a_16, a_566, a_567, by decide +kernel, Nat.le_of_ble_eq_true rfl⟩
set_option maxRecDepth 100000 in
set_option maxHeartbeats 4000000 in
theorem c_d10_change {l : Launch} {D : va_G} {cA : Nat → ClassId} {A : Nat → Prop} {ad : Cd → Nat} {L : List Cd} {G : Gt} {nt nv : Nat} (hfl : l.stackTraces = false) (hG : WF L G nt nv) {x1 : Int32} {x2 : Int32} {x3 : Int32} {S : St} {e0 : Nat} {r : Int32} {S' : St} (hf : d10_change G nt nv x1 x2 x3 S = some (e0, r, S')) : CtX l D cA A yX10_change cX10_change 5 (some .int) 6 20 200 [.ref (ad (5, 0)), .int x1, .int x2, .int x3] (DX D cA A ad L G S) e0 (some (.int r)) (DX D cA A ad L G S') := by
  refine CtX_of (by decide +kernel) (Nat.le_of_ble_eq_true rfl) ?_
  intro p e s m args below meth c ls hC hr hlk htab hX hKX hTX hl
  have hx := hC.1
  have hb := hC.2.1
  have hS : va_S A s.heap s.heap [] := va_S.rf
  have hl : lv_has ls 5 [(0, .ref (ad (5, 0))), (1, .int x1), (2, .int x2), (3, .int x3)] := hl
  unfold d10_change at hf
  refine lv_aload_n hx hb dX10_change_0 rfl (lv_at hl 0 rfl) ?_
  obtain ⟨o11, eo11, hf⟩ := lt_e hf
  refine dget (cd := (5, 0)) (ci := 8) (C := RX10) (T := TX10) (N := 9) (v := rO ad 4 o11) hx hb hC hKX.1 hX (hG.F 0 (by decide)) rfl rfl inX10 5 (by decide) a_111 (Or.inl rfl) (by rw [eo11]; rfl) dX10_change_1 ?_
  rcases oc_e hf with ⟨ho, hf⟩ | ⟨u12, ho, hf⟩
  · subst ho
    have hl : lv_has ls 5 [(0, .ref (ad (5, 0))), (1, .int x1), (2, .int x2), (3, .int x3)] := hl
    refine lv_ifnonnullN hx hb dX10_change_4 ?_
    cases hf
    exact CtX_th (is := 185) (text := "no draft") hfl hC hlk htab hTX hX (fun H1 q => HP.kept hX q) hS thw_2 (by decide) ⟨by decide, rfl⟩ hl.1 dX10_change_7 dX10_change_10 dX10_change_11 dX10_change_13 dX10_change_16 (Nat.le_of_ble_eq_true rfl) (Nat.le_of_ble_eq_true rfl) (Nat.le_of_ble_eq_true rfl) (Nat.le_of_ble_eq_true rfl)
  · subst ho
    obtain ⟨h13, hf⟩ := gd_e hf
    have hl : lv_has ls 5 [(0, .ref (ad (5, 0))), (1, .int x1), (2, .int x2), (3, .int x3)] := hl
    refine lv_ifnonnull (x := ad (4, u12)) (tgt := 17) hx hb dX10_change_4 (by decide) ?_
    refine lv_iload_n hx hb dX10_change_17 rfl (lv_at hl 2 rfl) ?_
    refine lv_aload_n hx hb dX10_change_18 rfl (lv_at hl 0 rfl) ?_
    obtain ⟨o14, eo14, hf⟩ := lt_e hf
    refine dget (cd := (5, 0)) (ci := 8) (C := RX10) (T := TX10) (N := 9) (v := rO ad 4 o14) hx hb hC hKX.1 hX (hG.F 0 (by decide)) rfl rfl inX10 5 (by decide) a_111 (Or.inl rfl) (by rw [eo14]; rfl) dX10_change_19 ?_
    rcases oc_e hf with ⟨ho, hf⟩ | ⟨u15, ho, hf⟩
    · cases hf
    subst ho
    obtain ⟨h16, hf⟩ := gd_e hf
    have hl : lv_has ls 5 [(0, .ref (ad (5, 0))), (1, .int x1), (2, .int x2), (3, .int x3)] := hl
    refine W.eq (g2 := F0 m 22 ls [.ref (ad (4, u15)), .int x2]) rfl ?_
    refine dgetV (v := u15) (k := 1) (x := .int (G u15 1)) hx hb hC hKX.1 hX hG h16 (by decide) a_706 (Or.inl rfl) rfl dX10_change_22 ?_
    obtain ⟨z17, hz17, hf⟩ := cb_e hf
    refine dSx (As := [.int x2, .int (G u15 1)]) (rest := []) hC (c_d1_isColumn hG hz17) q_d1_isColumn a_569 (Nat.le_of_ble_eq_true rfl) hX hKX rfl hl.1 (Nat.le_of_ble_eq_true rfl) dX10_change_25 hS (fun H locs hX hS => ?_)
    refine lv_if_eq (tgt := 38) hx hb dX10_change_28 (by decide) (fun c19 => ?_) (fun c19 => ?_)
    · have hf := it_t c19 hf
      cases hf
      exact CtX_th (is := 144) (text := "column or value out of range") hfl hC hlk htab hTX hX (fun H1 q => HP.kept hX q) hS thw_1 (by decide) ⟨by decide, rfl⟩ hl.1 dX10_change_38 dX10_change_41 dX10_change_42 dX10_change_44 dX10_change_47 (Nat.le_of_ble_eq_true rfl) (Nat.le_of_ble_eq_true rfl) (Nat.le_of_ble_eq_true rfl) (Nat.le_of_ble_eq_true rfl)
    · have hf := it_f c19 hf
      refine lv_iload_n hx hb dX10_change_31 rfl (lv_at hl 3 rfl) ?_
      obtain ⟨z20, hz20, hf⟩ := cb_e hf
      refine dSx (As := [.int x3]) (rest := []) hC (c_d1_isValue hG hz20) q_d1_isValue a_572 (Nat.le_of_ble_eq_true rfl) hX hKX rfl hl.1 (Nat.le_of_ble_eq_true rfl) dX10_change_32 hS (fun H locs hX hS => ?_)
      refine lv_if_ne (tgt := 48) hx hb dX10_change_35 (by decide) (fun c22 => ?_) (fun c22 => ?_)
      · have hf := it_f c22 hf
        refine lv_aload_n hx hb dX10_change_48 rfl (lv_at hl 0 rfl) ?_
        refine dget (cd := (5, 0)) (ci := 8) (C := RX10) (T := TX10) (N := 9) (v := .ref (ad (0, 0))) hx hb hC hKX.1 hX (hG.F 0 (by decide)) rfl rfl inX10 4 (by decide) a_110 (Or.inl rfl) rfl dX10_change_49 ?_
        refine lv_iload_n hx hb dX10_change_52 rfl (lv_at hl 1 rfl) ?_
        obtain ⟨z23, hz23, hf⟩ := cb_e hf
        refine dVx (cd := (0, 0)) (As := [.int x1]) (rest := []) hC (c_d4_has hG hG.r0 hz23) q_d4_has a_524 (Nat.le_of_ble_eq_true rfl) hX hKX hG.r0.1 rfl rfl rfl hl.1 (Nat.le_of_ble_eq_true rfl) dX10_change_53 hS (fun H locs hX hS => ?_)
        refine lv_if_ne (tgt := 69) hx hb dX10_change_56 (by decide) (fun c25 => ?_) (fun c25 => ?_)
        · have hf := it_f c25 hf
          refine lv_iload_n hx hb dX10_change_69 rfl (lv_at hl 1 rfl) ?_
          refine lv_iload_n hx hb dX10_change_70 rfl (lv_at hl 2 rfl) ?_
          refine lv_iload_n hx hb dX10_change_71 rfl (lv_at hl 3 rfl) ?_
          obtain ⟨z26, hz26, hf⟩ := cb_e hf
          refine dSx (As := [.int x1, .int x2, .int x3]) (rest := []) hC (c_d1_with hG hz26) q_d1_with a_576 (Nat.le_of_ble_eq_true rfl) hX hKX rfl hl.1 (Nat.le_of_ble_eq_true rfl) dX10_change_72 hS (fun H locs hX hS => ?_)
          refine lv_istore (lv' := [(4, .int z26), (0, .ref (ad (5, 0))), (1, .int x1), (2, .int x2), (3, .int x3)]) hx hb dX10_change_75 hl (by decide) rfl (fun ls hl => ?_)
          refine lv_iload hx hb dX10_change_77 (lv_at hl 0 rfl) ?_
          refine lv_iload_n hx hb dX10_change_79 rfl (lv_at hl 2 rfl) ?_
          obtain ⟨k28, hk28, hf⟩ := jn0_e hf
          have Jk28 : ∀  (H : Heap) (locs : List Loc) (ls : Array Slot), DX D cA A ad L G S H → va_S A s.heap H locs → lv_has ls 5 [(0, .ref (ad (5, 0))), (1, .int x1), (4, .int z26)] → k28 = some (e0, r, S') → W p l e (RM 6 20 200) s m args below meth c H locs 0 0 (vx_MQ below (CtQX A e0 (some (.int r)) (DX D cA A ad L G S')) (CtXX A e0 (DX D cA A ad L G S')) args s 20 200 A) (F0 m 105 ls []) := by
            intro  H locs ls hX hS hl hf
            rw [hk28] at hf
            refine lv_aload_n hx hb dX10_change_105 rfl (lv_at hl 0 rfl) ?_
            refine dget (cd := (5, 0)) (ci := 8) (C := RX10) (T := TX10) (N := 9) (v := .ref (ad (0, 0))) hx hb hC hKX.1 hX (hG.F 0 (by decide)) rfl rfl inX10 4 (by decide) a_110 (Or.inl rfl) rfl dX10_change_106 ?_
            refine lv_iload_n hx hb dX10_change_109 rfl (lv_at hl 1 rfl) ?_
            obtain ⟨S31, hz29, hf⟩ := cb_e hf
            refine dVv (cd := (0, 0)) (As := [.int x1]) (rest := []) hC (c_d4_remove hG hG.r0 hz29) q_d4_remove a_558 (Nat.le_of_ble_eq_true rfl) hX hKX hG.r0.1 rfl rfl rfl hl.1 (Nat.le_of_ble_eq_true rfl) dX10_change_110 hS (fun H locs hX hS => ?_)
            refine lv_aload_n hx hb dX10_change_113 rfl (lv_at hl 0 rfl) ?_
            refine dget (cd := (5, 0)) (ci := 8) (C := RX10) (T := TX10) (N := 9) (v := .ref (ad (0, 0))) hx hb hC hKX.1 hX (hG.F 0 (by decide)) rfl rfl inX10 4 (by decide) a_110 (Or.inl rfl) rfl dX10_change_114 ?_
            refine lv_iload hx hb dX10_change_117 (lv_at hl 2 rfl) ?_
            obtain ⟨S34, hz32, hf⟩ := cb_e hf
            refine dVv (cd := (0, 0)) (As := [.int z26]) (rest := []) hC (c_d4_put hG hG.r0 hz32) q_d4_put a_533 (Nat.le_of_ble_eq_true rfl) hX hKX hG.r0.1 rfl rfl rfl hl.1 (Nat.le_of_ble_eq_true rfl) dX10_change_119 hS (fun H locs hX hS => ?_)
            refine lv_iload hx hb dX10_change_122 (lv_at hl 2 rfl) ?_
            cases hf
            exact CtX_ri hx hb hr hlk hX hS (Nat.zero_le _) (Nat.zero_le _) dX10_change_124
          refine lv_icmp_eq (tgt := 105) hx hb dX10_change_80 (by decide) (fun c35 => ?_) (fun c35 => ?_)
          · have hf := it_t c35 hf
            exact Jk28 _ _ _ hX hS (lv_sub hl [1, 2, 0] rfl) hf
          · have hf := it_f c35 hf
            refine lv_aload_n hx hb dX10_change_83 rfl (lv_at hl 1 rfl) ?_
            refine dget (cd := (5, 0)) (ci := 8) (C := RX10) (T := TX10) (N := 9) (v := .ref (ad (0, 0))) hx hb hC hKX.1 hX (hG.F 0 (by decide)) rfl rfl inX10 4 (by decide) a_110 (Or.inl rfl) rfl dX10_change_84 ?_
            refine lv_iload hx hb dX10_change_87 (lv_at hl 0 rfl) ?_
            obtain ⟨z36, hz36, hf⟩ := cb_e hf
            refine dVx (cd := (0, 0)) (As := [.int z26]) (rest := []) hC (c_d4_has hG hG.r0 hz36) q_d4_has a_524 (Nat.le_of_ble_eq_true rfl) hX hKX hG.r0.1 rfl rfl rfl hl.1 (Nat.le_of_ble_eq_true rfl) dX10_change_89 hS (fun H locs hX hS => ?_)
            refine lv_if_eq (tgt := 105) hx hb dX10_change_92 (by decide) (fun c38 => ?_) (fun c38 => ?_)
            · have hf := it_t c38 hf
              exact Jk28 _ _ _ hX hS (lv_sub hl [1, 2, 0] rfl) hf
            · have hf := it_f c38 hf
              cases hf
              exact CtX_thN (is := 191) (text := "the new row is there") hfl hC hlk htab hTX hX (fun H1 q => HP.kept hX q) hS thw_4 (by decide) hl.1 dX10_change_95 dX10_change_98 dX10_change_99 dX10_change_101 dX10_change_104 (Nat.le_of_ble_eq_true rfl) (Nat.le_of_ble_eq_true rfl) (Nat.le_of_ble_eq_true rfl) (Nat.le_of_ble_eq_true rfl)
        · have hf := it_t c25 hf
          cases hf
          exact CtX_thN (is := 111) (text := "no such row") hfl hC hlk htab hTX hX (fun H1 q => HP.kept hX q) hS thw_4 (by decide) hl.1 dX10_change_59 dX10_change_62 dX10_change_63 dX10_change_65 dX10_change_68 (Nat.le_of_ble_eq_true rfl) (Nat.le_of_ble_eq_true rfl) (Nat.le_of_ble_eq_true rfl) (Nat.le_of_ble_eq_true rfl)
      · have hf := it_t c22 hf
        cases hf
        exact CtX_th (is := 144) (text := "column or value out of range") hfl hC hlk htab hTX hX (fun H1 q => HP.kept hX q) hS thw_1 (by decide) ⟨by decide, rfl⟩ hl.1 dX10_change_38 dX10_change_41 dX10_change_42 dX10_change_44 dX10_change_47 (Nat.le_of_ble_eq_true rfl) (Nat.le_of_ble_eq_true rfl) (Nat.le_of_ble_eq_true rfl) (Nat.le_of_ble_eq_true rfl)

theorem q_d10_draftRow : VWv RX10 yX10_draftRow cX10_draftRow 2 (some .int) 1 := ⟨a_499, a_16, a_497, a_498, by decide +kernel, Nat.le_of_ble_eq_true rfl⟩
set_option maxRecDepth 100000 in
set_option maxHeartbeats 4000000 in
theorem c_d10_draftRow {l : Launch} {D : va_G} {cA : Nat → ClassId} {A : Nat → Prop} {ad : Cd → Nat} {L : List Cd} {G : Gt} {nt nv : Nat} (hfl : l.stackTraces = false) (hG : WF L G nt nv) {x1 : Int32} {S : St} {e0 : Nat} {r : Int32} {S' : St} (hf : d10_draftRow G nt nv x1 S = some (e0, r, S')) : CtX l D cA A yX10_draftRow cX10_draftRow 2 (some .int) 6 20 200 [.ref (ad (5, 0)), .int x1] (DX D cA A ad L G S) e0 (some (.int r)) (DX D cA A ad L G S') := by
  refine CtX_of (by decide +kernel) (Nat.le_of_ble_eq_true rfl) ?_
  intro p e s m args below meth c ls hC hr hlk htab hX hKX hTX hl
  have hx := hC.1
  have hb := hC.2.1
  have hS : va_S A s.heap s.heap [] := va_S.rf
  have hl : lv_has ls 2 [(0, .ref (ad (5, 0))), (1, .int x1)] := hl
  unfold d10_draftRow at hf
  refine lv_aload_n hx hb dX10_draftRow_0 rfl (lv_at hl 0 rfl) ?_
  obtain ⟨o11, eo11, hf⟩ := lt_e hf
  refine dget (cd := (5, 0)) (ci := 8) (C := RX10) (T := TX10) (N := 9) (v := rO ad 4 o11) hx hb hC hKX.1 hX (hG.F 0 (by decide)) rfl rfl inX10 5 (by decide) a_111 (Or.inl rfl) (by rw [eo11]; rfl) dX10_draftRow_1 ?_
  rcases oc_e hf with ⟨ho, hf⟩ | ⟨u12, ho, hf⟩
  · subst ho
    have hl : lv_has ls 2 [(0, .ref (ad (5, 0))), (1, .int x1)] := hl
    refine lv_ifnonnullN hx hb dX10_draftRow_4 ?_
    cases hf
    exact CtX_th (is := 185) (text := "no draft") hfl hC hlk htab hTX hX (fun H1 q => HP.kept hX q) hS thw_2 (by decide) ⟨by decide, rfl⟩ hl.1 dX10_draftRow_7 dX10_draftRow_10 dX10_draftRow_11 dX10_draftRow_13 dX10_draftRow_16 (Nat.le_of_ble_eq_true rfl) (Nat.le_of_ble_eq_true rfl) (Nat.le_of_ble_eq_true rfl) (Nat.le_of_ble_eq_true rfl)
  · subst ho
    obtain ⟨h13, hf⟩ := gd_e hf
    have hl : lv_has ls 2 [(0, .ref (ad (5, 0))), (1, .int x1)] := hl
    refine lv_ifnonnull (x := ad (4, u12)) (tgt := 17) hx hb dX10_draftRow_4 (by decide) ?_
    refine lv_iload_n hx hb dX10_draftRow_17 rfl (lv_at hl 1 rfl) ?_
    refine lv_if_ge (tgt := 31) hx hb dX10_draftRow_18 (by decide) (fun c14 => ?_) (fun c14 => ?_)
    · have hf := it_t c14 hf
      refine lv_aload_n hx hb dX10_draftRow_31 rfl (lv_at hl 0 rfl) ?_
      refine dget (cd := (5, 0)) (ci := 8) (C := RX10) (T := TX10) (N := 9) (v := .ref (ad (0, 0))) hx hb hC hKX.1 hX (hG.F 0 (by decide)) rfl rfl inX10 4 (by decide) a_110 (Or.inl rfl) rfl dX10_draftRow_32 ?_
      refine lv_iload_n hx hb dX10_draftRow_35 rfl (lv_at hl 1 rfl) ?_
      obtain ⟨z15, hz15, hf⟩ := cb_e hf
      refine dVx (cd := (0, 0)) (As := [.int x1]) (rest := []) hC (c_d4_at hG hG.r0 hz15) q_d4_at a_516 (Nat.le_of_ble_eq_true rfl) hX hKX hG.r0.1 rfl rfl rfl hl.1 (Nat.le_of_ble_eq_true rfl) dX10_draftRow_36 hS (fun H locs hX hS => ?_)
      cases hf
      exact CtX_ri hx hb hr hlk hX hS (Nat.zero_le _) (Nat.zero_le _) dX10_draftRow_39
    · have hf := it_f c14 hf
      cases hf
      exact CtX_th (is := 193) (text := "no such place") hfl hC hlk htab hTX hX (fun H1 q => HP.kept hX q) hS thw_3 (by decide) ⟨by decide, rfl⟩ hl.1 dX10_draftRow_21 dX10_draftRow_24 dX10_draftRow_25 dX10_draftRow_27 dX10_draftRow_30 (Nat.le_of_ble_eq_true rfl) (Nat.le_of_ble_eq_true rfl) (Nat.le_of_ble_eq_true rfl) (Nat.le_of_ble_eq_true rfl)

theorem q_d10_conflict : VWv RX10 yX10_conflict cX10_conflict 1 (some .int) 0 := ⟨a_151, a_16, a_149, a_150, by decide +kernel, Nat.le_of_ble_eq_true rfl⟩
set_option maxRecDepth 100000 in
set_option maxHeartbeats 4000000 in
theorem c_d10_conflict {l : Launch} {D : va_G} {cA : Nat → ClassId} {A : Nat → Prop} {ad : Cd → Nat} {L : List Cd} {G : Gt} {nt nv : Nat} (hfl : l.stackTraces = false) (hG : WF L G nt nv)  {S : St} {e0 : Nat} {r : Int32} {S' : St} (hf : d10_conflict G nt nv S = some (e0, r, S')) : CtX l D cA A yX10_conflict cX10_conflict 1 (some .int) 19 20 200 [.ref (ad (5, 0))] (DX D cA A ad L G S) e0 (some (.int r)) (DX D cA A ad L G S') := by
  refine CtX_of (by decide +kernel) (Nat.le_of_ble_eq_true rfl) ?_
  intro p e s m args below meth c ls hC hr hlk htab hX hKX hTX hl
  have hx := hC.1
  have hb := hC.2.1
  have hS : va_S A s.heap s.heap [] := va_S.rf
  have hl : lv_has ls 1 [(0, .ref (ad (5, 0)))] := hl
  unfold d10_conflict at hf
  refine lv_aload_n hx hb dX10_conflict_0 rfl (lv_at hl 0 rfl) ?_
  obtain ⟨o11, eo11, hf⟩ := lt_e hf
  refine dget (cd := (5, 0)) (ci := 8) (C := RX10) (T := TX10) (N := 9) (v := rO ad 4 o11) hx hb hC hKX.1 hX (hG.F 0 (by decide)) rfl rfl inX10 5 (by decide) a_111 (Or.inl rfl) (by rw [eo11]; rfl) dX10_conflict_1 ?_
  rcases oc_e hf with ⟨ho, hf⟩ | ⟨u12, ho, hf⟩
  · subst ho
    have hl : lv_has ls 1 [(0, .ref (ad (5, 0)))] := hl
    refine lv_ifnonnullN hx hb dX10_conflict_4 ?_
    cases hf
    exact CtX_th (is := 185) (text := "no draft") hfl hC hlk htab hTX hX (fun H1 q => HP.kept hX q) hS thw_2 (by decide) ⟨by decide, rfl⟩ hl.1 dX10_conflict_7 dX10_conflict_10 dX10_conflict_11 dX10_conflict_13 dX10_conflict_16 (Nat.le_of_ble_eq_true rfl) (Nat.le_of_ble_eq_true rfl) (Nat.le_of_ble_eq_true rfl) (Nat.le_of_ble_eq_true rfl)
  · subst ho
    obtain ⟨h13, hf⟩ := gd_e hf
    have hl : lv_has ls 1 [(0, .ref (ad (5, 0)))] := hl
    refine lv_ifnonnull (x := ad (4, u12)) (tgt := 17) hx hb dX10_conflict_4 (by decide) ?_
    refine lv_aload_n hx hb dX10_conflict_17 rfl (lv_at hl 0 rfl) ?_
    obtain ⟨S16, hz14, hf⟩ := cb_e hf
    refine dVv (cd := (5, 0)) (As := []) (rest := []) hC (c_d10_planPutBack hG hz14) q_d10_planPutBack a_221 (Nat.le_of_ble_eq_true rfl) hX hKX (hG.F 0 (by decide)) rfl rfl rfl hl.1 (Nat.le_of_ble_eq_true rfl) dX10_conflict_18 hS (fun H locs hX hS => ?_)
    refine lv_aload_n hx hb dX10_conflict_21 rfl (lv_at hl 0 rfl) ?_
    refine dget (cd := (5, 0)) (ci := 8) (C := RX10) (T := TX10) (N := 9) (v := .ref (ad (5, 3))) hx hb hC hKX.1 hX (hG.F 0 (by decide)) rfl rfl inX10 6 (by decide) a_112 (Or.inl rfl) rfl dX10_conflict_22 ?_
    refine dget (cd := (5, 3)) (ci := 0) (C := RX0) (T := TX0) (N := 3) (v := .int (S16.1 46)) hx hb hC hKX.1 hX (hG.F 3 (by decide)) rfl rfl inX0 0 (by decide) a_69 (Or.inl rfl) rfl dX10_conflict_25 ?_
    cases hf
    exact CtX_ri hx hb hr hlk hX hS (Nat.zero_le _) (Nat.zero_le _) dX10_conflict_28

theorem q_d10_conflictRow : VWv RX10 yX10_conflictRow cX10_conflictRow 2 (some .int) 1 := ⟨a_396, a_16, a_394, a_395, by decide +kernel, Nat.le_of_ble_eq_true rfl⟩
set_option maxRecDepth 100000 in
set_option maxHeartbeats 4000000 in
theorem c_d10_conflictRow {l : Launch} {D : va_G} {cA : Nat → ClassId} {A : Nat → Prop} {ad : Cd → Nat} {L : List Cd} {G : Gt} {nt nv : Nat} (hfl : l.stackTraces = false) (hG : WF L G nt nv) {x1 : Int32} {S : St} {e0 : Nat} {r : Int32} {S' : St} (hf : d10_conflictRow G nt nv x1 S = some (e0, r, S')) : CtX l D cA A yX10_conflictRow cX10_conflictRow 2 (some .int) 19 20 200 [.ref (ad (5, 0)), .int x1] (DX D cA A ad L G S) e0 (some (.int r)) (DX D cA A ad L G S') := by
  refine CtX_of (by decide +kernel) (Nat.le_of_ble_eq_true rfl) ?_
  intro p e s m args below meth c ls hC hr hlk htab hX hKX hTX hl
  have hx := hC.1
  have hb := hC.2.1
  have hS : va_S A s.heap s.heap [] := va_S.rf
  have hl : lv_has ls 2 [(0, .ref (ad (5, 0))), (1, .int x1)] := hl
  unfold d10_conflictRow at hf
  refine lv_aload_n hx hb dX10_conflictRow_0 rfl (lv_at hl 0 rfl) ?_
  obtain ⟨o11, eo11, hf⟩ := lt_e hf
  refine dget (cd := (5, 0)) (ci := 8) (C := RX10) (T := TX10) (N := 9) (v := rO ad 4 o11) hx hb hC hKX.1 hX (hG.F 0 (by decide)) rfl rfl inX10 5 (by decide) a_111 (Or.inl rfl) (by rw [eo11]; rfl) dX10_conflictRow_1 ?_
  rcases oc_e hf with ⟨ho, hf⟩ | ⟨u12, ho, hf⟩
  · subst ho
    have hl : lv_has ls 2 [(0, .ref (ad (5, 0))), (1, .int x1)] := hl
    refine lv_ifnonnullN hx hb dX10_conflictRow_4 ?_
    cases hf
    exact CtX_th (is := 185) (text := "no draft") hfl hC hlk htab hTX hX (fun H1 q => HP.kept hX q) hS thw_2 (by decide) ⟨by decide, rfl⟩ hl.1 dX10_conflictRow_7 dX10_conflictRow_10 dX10_conflictRow_11 dX10_conflictRow_13 dX10_conflictRow_16 (Nat.le_of_ble_eq_true rfl) (Nat.le_of_ble_eq_true rfl) (Nat.le_of_ble_eq_true rfl) (Nat.le_of_ble_eq_true rfl)
  · subst ho
    obtain ⟨h13, hf⟩ := gd_e hf
    have hl : lv_has ls 2 [(0, .ref (ad (5, 0))), (1, .int x1)] := hl
    refine lv_ifnonnull (x := ad (4, u12)) (tgt := 17) hx hb dX10_conflictRow_4 (by decide) ?_
    refine lv_iload_n hx hb dX10_conflictRow_17 rfl (lv_at hl 1 rfl) ?_
    obtain ⟨k14, hk14, hf⟩ := jn0_e hf
    have Jk14 : ∀  (H : Heap) (locs : List Loc) (ls : Array Slot), DX D cA A ad L G S H → va_S A s.heap H locs → lv_has ls 2 [(0, .ref (ad (5, 0))), (1, .int x1)] → k14 = some (e0, r, S') → W p l e (RM 19 20 200) s m args below meth c H locs 0 0 (vx_MQ below (CtQX A e0 (some (.int r)) (DX D cA A ad L G S')) (CtXX A e0 (DX D cA A ad L G S')) args s 20 200 A) (F0 m 36 ls []) := by
      intro  H locs ls hX hS hl hf
      rw [hk14] at hf
      refine lv_aload_n hx hb dX10_conflictRow_36 rfl (lv_at hl 0 rfl) ?_
      obtain ⟨S17, hz15, hf⟩ := cb_e hf
      refine dVv (cd := (5, 0)) (As := []) (rest := []) hC (c_d10_planPutBack hG hz15) q_d10_planPutBack a_221 (Nat.le_of_ble_eq_true rfl) hX hKX (hG.F 0 (by decide)) rfl rfl rfl hl.1 (Nat.le_of_ble_eq_true rfl) dX10_conflictRow_37 hS (fun H locs hX hS => ?_)
      refine lv_iload_n hx hb dX10_conflictRow_40 rfl (lv_at hl 1 rfl) ?_
      refine lv_if_ne (tgt := 54) hx hb dX10_conflictRow_41 (by decide) (fun c18 => ?_) (fun c18 => ?_)
      · have hf := it_f c18 hf
        refine lv_aload_n hx hb dX10_conflictRow_54 rfl (lv_at hl 0 rfl) ?_
        refine dget (cd := (5, 0)) (ci := 8) (C := RX10) (T := TX10) (N := 9) (v := .ref (ad (5, 3))) hx hb hC hKX.1 hX (hG.F 0 (by decide)) rfl rfl inX10 6 (by decide) a_112 (Or.inl rfl) rfl dX10_conflictRow_55 ?_
        refine dget (cd := (5, 3)) (ci := 0) (C := RX0) (T := TX0) (N := 3) (v := .int (S17.1 48)) hx hb hC hKX.1 hX (hG.F 3 (by decide)) rfl rfl inX0 2 (by decide) a_73 (Or.inl rfl) rfl dX10_conflictRow_58 ?_
        cases hf
        exact CtX_ri hx hb hr hlk hX hS (Nat.zero_le _) (Nat.zero_le _) dX10_conflictRow_61
      · have hf := it_t c18 hf
        refine lv_aload_n hx hb dX10_conflictRow_44 rfl (lv_at hl 0 rfl) ?_
        refine dget (cd := (5, 0)) (ci := 8) (C := RX10) (T := TX10) (N := 9) (v := .ref (ad (5, 3))) hx hb hC hKX.1 hX (hG.F 0 (by decide)) rfl rfl inX10 6 (by decide) a_112 (Or.inl rfl) rfl dX10_conflictRow_45 ?_
        refine dget (cd := (5, 3)) (ci := 0) (C := RX0) (T := TX0) (N := 3) (v := .int (S17.1 47)) hx hb hC hKX.1 hX (hG.F 3 (by decide)) rfl rfl inX0 1 (by decide) a_71 (Or.inl rfl) rfl dX10_conflictRow_48 ?_
        refine lv_goto (tgt := 61) hx hb dX10_conflictRow_51 (by decide) ?_
        cases hf
        exact CtX_ri hx hb hr hlk hX hS (Nat.zero_le _) (Nat.zero_le _) dX10_conflictRow_61
    refine lv_if_eq (tgt := 36) hx hb dX10_conflictRow_18 (by decide) (fun c19 => ?_) (fun c19 => ?_)
    · have hf := it_t c19 hf
      exact Jk14 _ _ _ hX hS (lv_sub hl [0, 1] rfl) hf
    · have hf := it_f c19 hf
      refine lv_iload_n hx hb dX10_conflictRow_21 rfl (lv_at hl 1 rfl) ?_
      refine lv_iconst (v := 1) hx hb dX10_conflictRow_22 (by decide) ?_
      refine lv_icmp_eq (tgt := 36) hx hb dX10_conflictRow_23 (by decide) (fun c20 => ?_) (fun c20 => ?_)
      · have hf := it_t c20 hf
        exact Jk14 _ _ _ hX hS (lv_sub hl [0, 1] rfl) hf
      · have hf := it_f c20 hf
        cases hf
        exact CtX_th (is := 201) (text := "which out of range") hfl hC hlk htab hTX hX (fun H1 q => HP.kept hX q) hS thw_1 (by decide) ⟨by decide, rfl⟩ hl.1 dX10_conflictRow_26 dX10_conflictRow_29 dX10_conflictRow_30 dX10_conflictRow_32 dX10_conflictRow_35 (Nat.le_of_ble_eq_true rfl) (Nat.le_of_ble_eq_true rfl) (Nat.le_of_ble_eq_true rfl) (Nat.le_of_ble_eq_true rfl)

theorem q_d10_changes : VWv RX10 yX10_changes cX10_changes 1 (some .int) 0 := ⟨a_419, a_16, a_417, a_418, by decide +kernel, Nat.le_of_ble_eq_true rfl⟩
set_option maxRecDepth 100000 in
set_option maxHeartbeats 4000000 in
theorem c_d10_changes {l : Launch} {D : va_G} {cA : Nat → ClassId} {A : Nat → Prop} {ad : Cd → Nat} {L : List Cd} {G : Gt} {nt nv : Nat} (hfl : l.stackTraces = false) (hG : WF L G nt nv)  {S : St} {e0 : Nat} {r : Int32} {S' : St} (hf : d10_changes G nt nv S = some (e0, r, S')) : CtX l D cA A yX10_changes cX10_changes 1 (some .int) 19 20 200 [.ref (ad (5, 0))] (DX D cA A ad L G S) e0 (some (.int r)) (DX D cA A ad L G S') := by
  refine CtX_of (by decide +kernel) (Nat.le_of_ble_eq_true rfl) ?_
  intro p e s m args below meth c ls hC hr hlk htab hX hKX hTX hl
  have hx := hC.1
  have hb := hC.2.1
  have hS : va_S A s.heap s.heap [] := va_S.rf
  have hl : lv_has ls 1 [(0, .ref (ad (5, 0)))] := hl
  unfold d10_changes at hf
  refine lv_aload_n hx hb dX10_changes_0 rfl (lv_at hl 0 rfl) ?_
  obtain ⟨o11, eo11, hf⟩ := lt_e hf
  refine dget (cd := (5, 0)) (ci := 8) (C := RX10) (T := TX10) (N := 9) (v := rO ad 4 o11) hx hb hC hKX.1 hX (hG.F 0 (by decide)) rfl rfl inX10 5 (by decide) a_111 (Or.inl rfl) (by rw [eo11]; rfl) dX10_changes_1 ?_
  rcases oc_e hf with ⟨ho, hf⟩ | ⟨u12, ho, hf⟩
  · subst ho
    have hl : lv_has ls 1 [(0, .ref (ad (5, 0)))] := hl
    refine lv_ifnonnullN hx hb dX10_changes_4 ?_
    cases hf
    exact CtX_th (is := 185) (text := "no draft") hfl hC hlk htab hTX hX (fun H1 q => HP.kept hX q) hS thw_2 (by decide) ⟨by decide, rfl⟩ hl.1 dX10_changes_7 dX10_changes_10 dX10_changes_11 dX10_changes_13 dX10_changes_16 (Nat.le_of_ble_eq_true rfl) (Nat.le_of_ble_eq_true rfl) (Nat.le_of_ble_eq_true rfl) (Nat.le_of_ble_eq_true rfl)
  · subst ho
    obtain ⟨h13, hf⟩ := gd_e hf
    have hl : lv_has ls 1 [(0, .ref (ad (5, 0)))] := hl
    refine lv_ifnonnull (x := ad (4, u12)) (tgt := 17) hx hb dX10_changes_4 (by decide) ?_
    refine lv_aload_n hx hb dX10_changes_17 rfl (lv_at hl 0 rfl) ?_
    obtain ⟨S16, hz14, hf⟩ := cb_e hf
    refine dVv (cd := (5, 0)) (As := []) (rest := []) hC (c_d10_planPutBack hG hz14) q_d10_planPutBack a_221 (Nat.le_of_ble_eq_true rfl) hX hKX (hG.F 0 (by decide)) rfl rfl rfl hl.1 (Nat.le_of_ble_eq_true rfl) dX10_changes_18 hS (fun H locs hX hS => ?_)
    refine lv_aload_n hx hb dX10_changes_21 rfl (lv_at hl 0 rfl) ?_
    refine dget (cd := (5, 0)) (ci := 8) (C := RX10) (T := TX10) (N := 9) (v := .ref (ad (5, 3))) hx hb hC hKX.1 hX (hG.F 0 (by decide)) rfl rfl inX10 6 (by decide) a_112 (Or.inl rfl) rfl dX10_changes_22 ?_
    obtain ⟨z17, hz17, hf⟩ := cb_e hf
    refine dVx (cd := (5, 3)) (As := []) (rest := []) hC (c_d0_isTold hG hz17) q_d0_isTold a_251 (Nat.le_of_ble_eq_true rfl) hX hKX (hG.F 3 (by decide)) rfl rfl rfl hl.1 (Nat.le_of_ble_eq_true rfl) dX10_changes_25 hS (fun H locs hX hS => ?_)
    refine lv_if_eq (tgt := 35) hx hb dX10_changes_28 (by decide) (fun c19 => ?_) (fun c19 => ?_)
    · have hf := it_t c19 hf
      refine lv_aload_n hx hb dX10_changes_35 rfl (lv_at hl 0 rfl) ?_
      obtain ⟨z20, hz20, hf⟩ := cb_e hf
      refine dVx (cd := (5, 0)) (As := []) (rest := []) hC (c_d10_countPlanned hG hz20) q_d10_countPlanned a_420 (Nat.le_of_ble_eq_true rfl) hX hKX (hG.F 0 (by decide)) rfl rfl rfl hl.1 (Nat.le_of_ble_eq_true rfl) dX10_changes_36 hS (fun H locs hX hS => ?_)
      cases hf
      exact CtX_ri hx hb hr hlk hX hS (Nat.zero_le _) (Nat.zero_le _) dX10_changes_39
    · have hf := it_f c19 hf
      refine lv_iconst (v := (-1)) hx hb dX10_changes_31 (by decide) ?_
      refine lv_goto (tgt := 39) hx hb dX10_changes_32 (by decide) ?_
      cases hf
      exact CtX_ri hx hb hr hlk hX hS (Nat.zero_le _) (Nat.zero_le _) dX10_changes_39

theorem q_d10_fewest : VWv RX10 yX10_fewest cX10_fewest 2 (some .int) 0 := ⟨a_434, a_16, a_432, a_433, by decide +kernel, Nat.le_of_ble_eq_true rfl⟩
set_option maxRecDepth 100000 in
set_option maxHeartbeats 4000000 in
theorem c_d10_fewest {l : Launch} {D : va_G} {cA : Nat → ClassId} {A : Nat → Prop} {ad : Cd → Nat} {L : List Cd} {G : Gt} {nt nv : Nat} (hfl : l.stackTraces = false) (hG : WF L G nt nv)  {S : St} {e0 : Nat} {r : Int32} {S' : St} (hf : d10_fewest G nt nv S = some (e0, r, S')) : CtX l D cA A yX10_fewest cX10_fewest 2 (some .int) 6 20 200 [.ref (ad (5, 0))] (DX D cA A ad L G S) e0 (some (.int r)) (DX D cA A ad L G S') := by
  refine CtX_of (by decide +kernel) (Nat.le_of_ble_eq_true rfl) ?_
  intro p e s m args below meth c ls hC hr hlk htab hX hKX hTX hl
  have hx := hC.1
  have hb := hC.2.1
  have hS : va_S A s.heap s.heap [] := va_S.rf
  have hl : lv_has ls 2 [(0, .ref (ad (5, 0)))] := hl
  unfold d10_fewest at hf
  refine lv_aload_n hx hb dX10_fewest_0 rfl (lv_at hl 0 rfl) ?_
  obtain ⟨o11, eo11, hf⟩ := lt_e hf
  refine dget (cd := (5, 0)) (ci := 8) (C := RX10) (T := TX10) (N := 9) (v := rO ad 4 o11) hx hb hC hKX.1 hX (hG.F 0 (by decide)) rfl rfl inX10 5 (by decide) a_111 (Or.inl rfl) (by rw [eo11]; rfl) dX10_fewest_1 ?_
  rcases oc_e hf with ⟨ho, hf⟩ | ⟨u12, ho, hf⟩
  · subst ho
    have hl : lv_has ls 2 [(0, .ref (ad (5, 0)))] := hl
    refine lv_ifnonnullN hx hb dX10_fewest_4 ?_
    cases hf
    exact CtX_th (is := 185) (text := "no draft") hfl hC hlk htab hTX hX (fun H1 q => HP.kept hX q) hS thw_2 (by decide) ⟨by decide, rfl⟩ hl.1 dX10_fewest_7 dX10_fewest_10 dX10_fewest_11 dX10_fewest_13 dX10_fewest_16 (Nat.le_of_ble_eq_true rfl) (Nat.le_of_ble_eq_true rfl) (Nat.le_of_ble_eq_true rfl) (Nat.le_of_ble_eq_true rfl)
  · subst ho
    obtain ⟨h13, hf⟩ := gd_e hf
    have hl : lv_has ls 2 [(0, .ref (ad (5, 0)))] := hl
    refine lv_ifnonnull (x := ad (4, u12)) (tgt := 17) hx hb dX10_fewest_4 (by decide) ?_
    refine lv_aload_n hx hb dX10_fewest_17 rfl (lv_at hl 0 rfl) ?_
    refine lv_aload_n hx hb dX10_fewest_18 rfl (lv_at hl 0 rfl) ?_
    obtain ⟨o14, eo14, hf⟩ := lt_e hf
    refine dget (cd := (5, 0)) (ci := 8) (C := RX10) (T := TX10) (N := 9) (v := rO ad 4 o14) hx hb hC hKX.1 hX (hG.F 0 (by decide)) rfl rfl inX10 5 (by decide) a_111 (Or.inl rfl) (by rw [eo14]; rfl) dX10_fewest_19 ?_
    rcases oc_e hf with ⟨ho, hf⟩ | ⟨u15, ho, hf⟩
    · cases hf
    subst ho
    obtain ⟨h16, hf⟩ := gd_e hf
    have hl : lv_has ls 2 [(0, .ref (ad (5, 0)))] := hl
    refine W.eq (g2 := F0 m 22 ls [.ref (ad (4, u15)), .ref (ad (5, 0))]) rfl ?_
    refine dgetV (v := u15) (k := 3) (x := .int (G u15 3)) hx hb hC hKX.1 hX hG h16 (by decide) a_719 (Or.inl rfl) rfl dX10_fewest_22 ?_
    obtain ⟨z17, hz17, hf⟩ := cb_e hf
    refine dVx (cd := (5, 0)) (As := [.int (G u15 3)]) (rest := []) hC (c_d10_onlyTable hG hz17) q_d10_onlyTable a_435 (Nat.le_of_ble_eq_true rfl) hX hKX (hG.F 0 (by decide)) rfl rfl rfl hl.1 (Nat.le_of_ble_eq_true rfl) dX10_fewest_25 hS (fun H locs hX hS => ?_)
    refine lv_astoreO_n (lv' := [(1, rO ad 2 z17), (0, .ref (ad (5, 0)))]) hx hb dX10_fewest_28 rfl hl (by decide) rfl (fun ls hl => ?_)
    refine lv_aloadO_n hx hb dX10_fewest_29 rfl (lv_at hl 0 rfl) ?_
    rcases oc_e hf with ⟨ho, hf⟩ | ⟨u19, ho, hf⟩
    · subst ho
      have hl : lv_has ls 2 [(1, .null), (0, .ref (ad (5, 0)))] := hl
      refine lv_ifnullN (tgt := 40) hx hb dX10_fewest_30 (by decide) ?_
      cases hf
      exact CtX_th (is := 223) (text := "no table whose rows can be tried") hfl hC hlk htab hTX hX (fun H1 q => HP.kept hX q) hS thw_2 (by decide) ⟨by decide, rfl⟩ hl.1 dX10_fewest_40 dX10_fewest_43 dX10_fewest_44 dX10_fewest_46 dX10_fewest_49 (Nat.le_of_ble_eq_true rfl) (Nat.le_of_ble_eq_true rfl) (Nat.le_of_ble_eq_true rfl) (Nat.le_of_ble_eq_true rfl)
    · subst ho
      obtain ⟨h20, hf⟩ := gd_e hf
      have hl : lv_has ls 2 [(1, .ref (ad (2, u19))), (0, .ref (ad (5, 0)))] := hl
      refine lv_ifnull (x := ad (2, u19)) hx hb dX10_fewest_30 ?_
      refine lv_aload_n hx hb dX10_fewest_33 rfl (lv_at hl 0 rfl) ?_
      obtain ⟨z21, hz21, hf⟩ := cb_e hf
      refine dSx (As := [.ref (ad (2, u19))]) (rest := []) hC (c_d8_canTry hG h20 hz21) q_d8_canTry a_439 (Nat.le_of_ble_eq_true rfl) hX hKX rfl hl.1 (Nat.le_of_ble_eq_true rfl) dX10_fewest_34 hS (fun H locs hX hS => ?_)
      refine lv_if_ne (tgt := 50) hx hb dX10_fewest_37 (by decide) (fun c23 => ?_) (fun c23 => ?_)
      · have hf := it_f c23 hf
        refine lv_aload_n hx hb dX10_fewest_50 rfl (lv_at hl 1 rfl) ?_
        refine dget (cd := (5, 0)) (ci := 8) (C := RX10) (T := TX10) (N := 9) (v := .ref (ad (5, 4))) hx hb hC hKX.1 hX (hG.F 0 (by decide)) rfl rfl inX10 7 (by decide) a_113 (Or.inl rfl) rfl dX10_fewest_51 ?_
        refine lv_aload_n hx hb dX10_fewest_54 rfl (lv_at hl 1 rfl) ?_
        obtain ⟨o24, eo24, hf⟩ := lt_e hf
        refine dget (cd := (5, 0)) (ci := 8) (C := RX10) (T := TX10) (N := 9) (v := rO ad 4 o24) hx hb hC hKX.1 hX (hG.F 0 (by decide)) rfl rfl inX10 5 (by decide) a_111 (Or.inl rfl) (by rw [eo24]; rfl) dX10_fewest_55 ?_
        refine lv_aload_n hx hb dX10_fewest_58 rfl (lv_at hl 0 rfl) ?_
        refine lv_aload_n hx hb dX10_fewest_59 rfl (lv_at hl 1 rfl) ?_
        refine dget (cd := (5, 0)) (ci := 8) (C := RX10) (T := TX10) (N := 9) (v := .ref (ad (0, 0))) hx hb hC hKX.1 hX (hG.F 0 (by decide)) rfl rfl inX10 4 (by decide) a_110 (Or.inl rfl) rfl dX10_fewest_60 ?_
        rcases oc_e hf with ⟨ho, hf⟩ | ⟨u25, ho, hf⟩
        · cases hf
        subst ho
        obtain ⟨h26, hf⟩ := gd_e hf
        have hl : lv_has ls 2 [(1, .ref (ad (2, u19))), (0, .ref (ad (5, 0)))] := hl
        refine W.eq (g2 := F0 m 63 ls [.ref (ad (0, 0)), .ref (ad (2, u19)), .ref (ad (4, u25)), .ref (ad (5, 4))]) rfl ?_
        obtain ⟨z27, S29, hz27, hf⟩ := cb2_e hf
        refine dVx (cd := (5, 4)) (As := [.ref (ad (4, u25)), .ref (ad (2, u19)), .ref (ad (0, 0))]) (rest := []) hC (c_d8_fewestChanges hG h26 h20 hG.r0 hz27) q_d8_fewestChanges a_455 (Nat.le_of_ble_eq_true rfl) hX hKX (hG.F 4 (by decide)) rfl rfl rfl hl.1 (Nat.le_of_ble_eq_true rfl) dX10_fewest_63 hS (fun H locs hX hS => ?_)
        cases hf
        exact CtX_ri hx hb hr hlk hX hS (Nat.zero_le _) (Nat.zero_le _) dX10_fewest_66
      · have hf := it_t c23 hf
        cases hf
        exact CtX_th (is := 223) (text := "no table whose rows can be tried") hfl hC hlk htab hTX hX (fun H1 q => HP.kept hX q) hS thw_2 (by decide) ⟨by decide, rfl⟩ hl.1 dX10_fewest_40 dX10_fewest_43 dX10_fewest_44 dX10_fewest_46 dX10_fewest_49 (Nat.le_of_ble_eq_true rfl) (Nat.le_of_ble_eq_true rfl) (Nat.le_of_ble_eq_true rfl) (Nat.le_of_ble_eq_true rfl)

theorem q_d10_putBack : VWv RX10 yX10_putBack cX10_putBack 2 (some .int) 0 := ⟨a_965, a_16, a_963, a_964, by decide +kernel, Nat.le_of_ble_eq_true rfl⟩
set_option maxRecDepth 100000 in
set_option maxHeartbeats 4000000 in
theorem c_d10_putBack {l : Launch} {D : va_G} {cA : Nat → ClassId} {A : Nat → Prop} {ad : Cd → Nat} {L : List Cd} {G : Gt} {nt nv : Nat} (hfl : l.stackTraces = false) (hG : WF L G nt nv)  {S : St} {e0 : Nat} {r : Int32} {S' : St} (hf : d10_putBack G nt nv S = some (e0, r, S')) : CtX l D cA A yX10_putBack cX10_putBack 2 (some .int) 19 20 200 [.ref (ad (5, 0))] (DX D cA A ad L G S) e0 (some (.int r)) (DX D cA A ad L G S') := by
  refine CtX_of (by decide +kernel) (Nat.le_of_ble_eq_true rfl) ?_
  intro p e s m args below meth c ls hC hr hlk htab hX hKX hTX hl
  have hx := hC.1
  have hb := hC.2.1
  have hS : va_S A s.heap s.heap [] := va_S.rf
  have hl : lv_has ls 2 [(0, .ref (ad (5, 0)))] := hl
  unfold d10_putBack at hf
  refine lv_aload_n hx hb dX10_putBack_0 rfl (lv_at hl 0 rfl) ?_
  obtain ⟨o11, eo11, hf⟩ := lt_e hf
  refine dget (cd := (5, 0)) (ci := 8) (C := RX10) (T := TX10) (N := 9) (v := rO ad 4 o11) hx hb hC hKX.1 hX (hG.F 0 (by decide)) rfl rfl inX10 5 (by decide) a_111 (Or.inl rfl) (by rw [eo11]; rfl) dX10_putBack_1 ?_
  rcases oc_e hf with ⟨ho, hf⟩ | ⟨u12, ho, hf⟩
  · subst ho
    have hl : lv_has ls 2 [(0, .ref (ad (5, 0)))] := hl
    refine lv_ifnonnullN hx hb dX10_putBack_4 ?_
    cases hf
    exact CtX_th (is := 185) (text := "no draft") hfl hC hlk htab hTX hX (fun H1 q => HP.kept hX q) hS thw_2 (by decide) ⟨by decide, rfl⟩ hl.1 dX10_putBack_7 dX10_putBack_10 dX10_putBack_11 dX10_putBack_13 dX10_putBack_16 (Nat.le_of_ble_eq_true rfl) (Nat.le_of_ble_eq_true rfl) (Nat.le_of_ble_eq_true rfl) (Nat.le_of_ble_eq_true rfl)
  · subst ho
    obtain ⟨h13, hf⟩ := gd_e hf
    have hl : lv_has ls 2 [(0, .ref (ad (5, 0)))] := hl
    refine lv_ifnonnull (x := ad (4, u12)) (tgt := 17) hx hb dX10_putBack_4 (by decide) ?_
    refine lv_aload_n hx hb dX10_putBack_17 rfl (lv_at hl 0 rfl) ?_
    obtain ⟨S16, hz14, hf⟩ := cb_e hf
    refine dVv (cd := (5, 0)) (As := []) (rest := []) hC (c_d10_planPutBack hG hz14) q_d10_planPutBack a_221 (Nat.le_of_ble_eq_true rfl) hX hKX (hG.F 0 (by decide)) rfl rfl rfl hl.1 (Nat.le_of_ble_eq_true rfl) dX10_putBack_18 hS (fun H locs hX hS => ?_)
    refine lv_aload_n hx hb dX10_putBack_21 rfl (lv_at hl 0 rfl) ?_
    refine dget (cd := (5, 0)) (ci := 8) (C := RX10) (T := TX10) (N := 9) (v := .ref (ad (5, 3))) hx hb hC hKX.1 hX (hG.F 0 (by decide)) rfl rfl inX10 6 (by decide) a_112 (Or.inl rfl) rfl dX10_putBack_22 ?_
    obtain ⟨z17, hz17, hf⟩ := cb_e hf
    refine dVx (cd := (5, 3)) (As := []) (rest := []) hC (c_d0_isTold hG hz17) q_d0_isTold a_251 (Nat.le_of_ble_eq_true rfl) hX hKX (hG.F 3 (by decide)) rfl rfl rfl hl.1 (Nat.le_of_ble_eq_true rfl) dX10_putBack_25 hS (fun H locs hX hS => ?_)
    refine lv_if_eq (tgt := 41) hx hb dX10_putBack_28 (by decide) (fun c19 => ?_) (fun c19 => ?_)
    · have hf := it_t c19 hf
      refine lv_aload_n hx hb dX10_putBack_41 rfl (lv_at hl 0 rfl) ?_
      obtain ⟨z20, hz20, hf⟩ := cb_e hf
      refine dVx (cd := (5, 0)) (As := []) (rest := []) hC (c_d10_countPlanned hG hz20) q_d10_countPlanned a_420 (Nat.le_of_ble_eq_true rfl) hX hKX (hG.F 0 (by decide)) rfl rfl rfl hl.1 (Nat.le_of_ble_eq_true rfl) dX10_putBack_42 hS (fun H locs hX hS => ?_)
      refine lv_istore_n (lv' := [(1, .int z20), (0, .ref (ad (5, 0)))]) hx hb dX10_putBack_45 rfl hl (by decide) rfl (fun ls hl => ?_)
      refine lv_aload_n hx hb dX10_putBack_46 rfl (lv_at hl 1 rfl) ?_
      obtain ⟨S24, hz22, hf⟩ := cb_e hf
      refine dVv (cd := (5, 0)) (As := []) (rest := []) hC (c_d10_carryOut hG hz22) q_d10_carryOut a_967 (Nat.le_of_ble_eq_true rfl) hX hKX (hG.F 0 (by decide)) rfl rfl rfl hl.1 (Nat.le_of_ble_eq_true rfl) dX10_putBack_47 hS (fun H locs hX hS => ?_)
      refine lv_aload_n hx hb dX10_putBack_50 rfl (lv_at hl 1 rfl) ?_
      refine lv_null hx hb dX10_putBack_51 ?_
      refine dput (cd := (5, 0)) (ci := 8) (C := RX10) (T := TX10) (N := 9) (ty := (.object "Lensbench$View")) hx hb hC hKX.1 hX hS (hG.F 0 (by decide)) rfl rfl inX10 tyX10 tyX10_ok nmX10 5 (by decide) a_111 rfl rfl (by decide +kernel) rfl rfl (Nat.le_of_ble_eq_true rfl) (dset44 (o := none) (x := -1) hG (by decide)) dX10_putBack_52 (fun H locs hX hS => ?_)
      obtain ⟨S25, eS25, hf⟩ := lt_e hf
      rw [← eS25] at hX
      refine lv_iload_n hx hb dX10_putBack_55 rfl (lv_at hl 0 rfl) ?_
      cases hf
      exact CtX_ri hx hb hr hlk hX hS (Nat.zero_le _) (Nat.zero_le _) dX10_putBack_56
    · have hf := it_f c19 hf
      cases hf
      exact CtX_th (is := 229) (text := "conflict") hfl hC hlk htab hTX hX (fun H1 q => HP.kept hX q) hS thw_2 (by decide) ⟨by decide, rfl⟩ hl.1 dX10_putBack_31 dX10_putBack_34 dX10_putBack_35 dX10_putBack_37 dX10_putBack_40 (Nat.le_of_ble_eq_true rfl) (Nat.le_of_ble_eq_true rfl) (Nat.le_of_ble_eq_true rfl) (Nat.le_of_ble_eq_true rfl)

theorem q_d10_undo : VWv RX10 yX10_undo cX10_undo 3 (some .int) 0 := ⟨a_987, a_16, a_985, a_986, by decide +kernel, Nat.le_of_ble_eq_true rfl⟩
set_option maxRecDepth 100000 in
set_option maxHeartbeats 4000000 in
theorem c_d10_undo {l : Launch} {D : va_G} {cA : Nat → ClassId} {A : Nat → Prop} {ad : Cd → Nat} {L : List Cd} {G : Gt} {nt nv : Nat} (hfl : l.stackTraces = false) (hG : WF L G nt nv)  {S : St} {e0 : Nat} {r : Int32} {S' : St} (hf : d10_undo G nt nv S = some (e0, r, S')) : CtX l D cA A yX10_undo cX10_undo 3 (some .int) 6 20 200 [.ref (ad (5, 0))] (DX D cA A ad L G S) e0 (some (.int r)) (DX D cA A ad L G S') := by
  refine CtX_of (by decide +kernel) (Nat.le_of_ble_eq_true rfl) ?_
  intro p e s m args below meth c ls hC hr hlk htab hX hKX hTX hl
  have hx := hC.1
  have hb := hC.2.1
  have hS : va_S A s.heap s.heap [] := va_S.rf
  have hl : lv_has ls 3 [(0, .ref (ad (5, 0)))] := hl
  unfold d10_undo at hf
  refine lv_aload_n hx hb dX10_undo_0 rfl (lv_at hl 0 rfl) ?_
  refine dget (cd := (5, 0)) (ci := 8) (C := RX10) (T := TX10) (N := 9) (v := .int (S.1 45)) hx hb hC hKX.1 hX (hG.F 0 (by decide)) rfl rfl inX10 8 (by decide) a_114 (Or.inl rfl) rfl dX10_undo_1 ?_
  refine lv_if_gt (tgt := 17) hx hb dX10_undo_4 (by decide) (fun c11 => ?_) (fun c11 => ?_)
  · have hf := it_t c11 hf
    refine lv_aload_n hx hb dX10_undo_17 rfl (lv_at hl 0 rfl) ?_
    refine lv_dup hx hb dX10_undo_18 rfl ?_
    refine dget (cd := (5, 0)) (ci := 8) (C := RX10) (T := TX10) (N := 9) (v := .int (S.1 45)) hx hb hC hKX.1 hX (hG.F 0 (by decide)) rfl rfl inX10 8 (by decide) a_114 (Or.inl rfl) rfl dX10_undo_19 ?_
    refine lv_iconst (v := 1) hx hb dX10_undo_22 (by decide) ?_
    refine lv_isub hx hb dX10_undo_23 ?_
    refine dput (cd := (5, 0)) (ci := 8) (C := RX10) (T := TX10) (N := 9) (ty := .int) hx hb hC hKX.1 hX hS (hG.F 0 (by decide)) rfl rfl inX10 tyX10 tyX10_ok nmX10 8 (by decide) a_114 rfl rfl (by decide +kernel) rfl rfl (Nat.le_of_ble_eq_true rfl) (dset45 hG) dX10_undo_24 (fun H locs hX hS => ?_)
    obtain ⟨S12, eS12, hf⟩ := lt_e hf
    rw [← eS12] at hX
    refine lv_iconst (v := 0) hx hb dX10_undo_27 (by decide) ?_
    refine lv_istore_n (lv' := [(1, .int 0), (0, .ref (ad (5, 0)))]) hx hb dX10_undo_28 rfl hl (by decide) rfl (fun ls hl => ?_)
    obtain ⟨g15, g150, g15s, hf⟩ := lp2_e hf
    have Lg15 : ∀ (n : Nat) (x13 : Int32) (S14 : St) (H : Heap) (locs : List Loc) (ls : Array Slot), DX D cA A ad L G S14 H → va_S A s.heap H locs → lv_has ls 3 [(0, .ref (ad (5, 0))), (1, .int x13)] → g15 n x13 S14 = some (e0, r, S') → W p l e (RM 6 20 200) s m args below meth c H locs 0 0 (vx_MQ below (CtQX A e0 (some (.int r)) (DX D cA A ad L G S')) (CtXX A e0 (DX D cA A ad L G S')) args s 20 200 A) (F0 m 29 ls []) := by
      intro n
      induction n with
      | zero => intro x13 S14 H locs ls hX hS hl hf; rw [g150] at hf; cases hf
      | succ n ihg15 =>
        intro x13 S14 H locs ls hX hS hl hf
        rw [g15s] at hf
        refine lv_iload_n hx hb dX10_undo_29 rfl (lv_at hl 1 rfl) ?_
        refine lv_aload_n hx hb dX10_undo_30 rfl (lv_at hl 0 rfl) ?_
        refine dget (cd := (5, 0)) (ci := 8) (C := RX10) (T := TX10) (N := 9) (v := .int (S14.1 42)) hx hb hC hKX.1 hX (hG.F 0 (by decide)) rfl rfl inX10 1 (by decide) a_107 (Or.inl rfl) rfl dX10_undo_31 ?_
        refine lv_icmp_ge (tgt := 61) hx hb dX10_undo_34 (by decide) (fun c16 => ?_) (fun c16 => ?_)
        · have hf := it_t c16 hf
          refine lv_aload_n hx hb dX10_undo_61 rfl (lv_at hl 0 rfl) ?_
          obtain ⟨S19, hz17, hf⟩ := cb_e hf
          refine dVv (cd := (5, 0)) (As := []) (rest := []) hC (c_d10_showViews hG hz17) q_d10_showViews a_944 (Nat.le_of_ble_eq_true rfl) hX hKX (hG.F 0 (by decide)) rfl rfl rfl hl.1 (Nat.le_of_ble_eq_true rfl) dX10_undo_62 hS (fun H locs hX hS => ?_)
          refine lv_aload_n hx hb dX10_undo_65 rfl (lv_at hl 0 rfl) ?_
          refine dget (cd := (5, 0)) (ci := 8) (C := RX10) (T := TX10) (N := 9) (v := .int (S19.1 45)) hx hb hC hKX.1 hX (hG.F 0 (by decide)) rfl rfl inX10 8 (by decide) a_114 (Or.inl rfl) rfl dX10_undo_66 ?_
          cases hf
          exact CtX_ri hx hb hr hlk hX hS (Nat.zero_le _) (Nat.zero_le _) dX10_undo_69
        · have hf := it_f c16 hf
          refine lv_aload_n hx hb dX10_undo_37 rfl (lv_at hl 0 rfl) ?_
          refine lv_iload_n hx hb dX10_undo_38 rfl (lv_at hl 1 rfl) ?_
          obtain ⟨z20, hz20, hf⟩ := cb_e hf
          refine dVx (cd := (5, 0)) (As := [.int x13]) (rest := []) hC (c_d10_tableAt hG hz20) q_d10_tableAt a_225 (Nat.le_of_ble_eq_true rfl) hX hKX (hG.F 0 (by decide)) rfl rfl rfl hl.1 (Nat.le_of_ble_eq_true rfl) dX10_undo_39 hS (fun H locs hX hS => ?_)
          refine lv_astoreO_n (lv' := [(2, rO ad 2 z20), (0, .ref (ad (5, 0))), (1, .int x13)]) hx hb dX10_undo_42 rfl hl (by decide) rfl (fun ls hl => ?_)
          refine lv_aloadO_n hx hb dX10_undo_43 rfl (lv_at hl 0 rfl) ?_
          rcases oc_e hf with ⟨ho, hf⟩ | ⟨u22, ho, hf⟩
          · subst ho
            have hl : lv_has ls 3 [(2, .null), (0, .ref (ad (5, 0))), (1, .int x13)] := hl
            refine lv_ifnullN (tgt := 55) hx hb dX10_undo_44 (by decide) ?_
            refine lv_iinc (v := (x13 + 1)) (lv' := [(1, .int (x13 + 1)), (2, .null), (0, .ref (ad (5, 0)))]) hx hb dX10_undo_55 hl (k := 2) rfl rfl (by decide) rfl (fun ls hl => ?_)
            refine lv_goto (tgt := 29) hx hb dX10_undo_58 (by decide) ?_
            exact ihg15 _ _ _ _ _ hX hS (lv_sub hl [2, 0] rfl) hf
          · subst ho
            obtain ⟨h23, hf⟩ := gd_e hf
            have hl : lv_has ls 3 [(2, .ref (ad (2, u22))), (0, .ref (ad (5, 0))), (1, .int x13)] := hl
            refine lv_ifnull (x := ad (2, u22)) hx hb dX10_undo_44 ?_
            refine lv_aload_n hx hb dX10_undo_47 rfl (lv_at hl 0 rfl) ?_
            refine lv_aload_n hx hb dX10_undo_48 rfl (lv_at hl 1 rfl) ?_
            refine dget (cd := (5, 0)) (ci := 8) (C := RX10) (T := TX10) (N := 9) (v := .int (S14.1 45)) hx hb hC hKX.1 hX (hG.F 0 (by decide)) rfl rfl inX10 8 (by decide) a_114 (Or.inl rfl) rfl dX10_undo_49 ?_
            obtain ⟨S26, hz24, hf⟩ := cb_e hf
            refine dVv (cd := (2, u22)) (As := [.int (S14.1 45)]) (rest := []) hC (c_d6_recall hG h23 hz24) q_d6_recall a_989 (Nat.le_of_ble_eq_true rfl) hX hKX (hG.T h23) rfl rfl rfl hl.1 (Nat.le_of_ble_eq_true rfl) dX10_undo_52 hS (fun H locs hX hS => ?_)
            refine lv_iinc (v := (x13 + 1)) (lv' := [(1, .int (x13 + 1)), (2, .ref (ad (2, u22))), (0, .ref (ad (5, 0)))]) hx hb dX10_undo_55 hl (k := 2) rfl rfl (by decide) rfl (fun ls hl => ?_)
            refine lv_goto (tgt := 29) hx hb dX10_undo_58 (by decide) ?_
            exact ihg15 _ _ _ _ _ hX hS (lv_sub hl [2, 0] rfl) hf
    exact Lg15 FU _ _ _ _ _ hX hS (lv_sub hl [1, 0] rfl) hf
  · have hf := it_f c11 hf
    cases hf
    exact CtX_th (is := 237) (text := "nothing to undo") hfl hC hlk htab hTX hX (fun H1 q => HP.kept hX q) hS thw_2 (by decide) ⟨by decide, rfl⟩ hl.1 dX10_undo_7 dX10_undo_10 dX10_undo_11 dX10_undo_13 dX10_undo_16 (Nat.le_of_ble_eq_true rfl) (Nat.le_of_ble_eq_true rfl) (Nat.le_of_ble_eq_true rfl) (Nat.le_of_ble_eq_true rfl)
