theorem q_d10_tableAt : VWv RX10 yX10_tableAt cX10_tableAt 2 (some (.object "Lensbench$Table")) 1 := ⟨a_228, a_16, a_227, a_2, by decide +kernel, Nat.le_of_ble_eq_true rfl⟩
set_option maxRecDepth 100000 in
set_option maxHeartbeats 4000000 in
theorem c_d10_tableAt {l : Launch} {D : va_G} {cA : Nat → ClassId} {A : Nat → Prop} {ad : Cd → Nat} {L : List Cd} {G : Gt} {nt nv : Nat} (hG : WF L G nt nv) {x1 : Int32} {S : St} {r : Option Nat} (hf : d10_tableAt x1 S = some r) : Ct l D cA A yX10_tableAt cX10_tableAt 2 (some (.object "Lensbench$Table")) 0 0 0 [.ref (ad (5, 0)), .int x1] (DX D cA A ad L G S) (some (rO ad 2 r)) (DX D cA A ad L G S) := by
  refine Ct_of (by decide +kernel) (Nat.le_of_ble_eq_true rfl) ?_
  intro p e s m args below meth c ls hC hr hlk hnm hX hKX hl
  have hx := hC.1
  have hb := hC.2.1
  have hS : va_S A s.heap s.heap [] := va_S.rf
  have hl : lv_has ls 2 [(0, .ref (ad (5, 0))), (1, .int x1)] := hl
  unfold d10_tableAt at hf
  refine lv_iload_n hx hb dX10_tableAt_0 rfl (lv_at hl 1 rfl) ?_
  refine lv_if_lt (tgt := 21) hx hb dX10_tableAt_1 (by decide) (fun c11 => ?_) (fun c11 => ?_)
  · have hf := it_t c11 hf
    refine lv_null hx hb dX10_tableAt_21 ?_
    refine lv_goto (tgt := 31) hx hb dX10_tableAt_22 (by decide) ?_
    cases hf
    exact Ct_ro (o := none) hx hb hr hlk hX hS dX10_tableAt_31
  · have hf := it_f c11 hf
    refine lv_iload_n hx hb dX10_tableAt_4 rfl (lv_at hl 1 rfl) ?_
    refine lv_aload_n hx hb dX10_tableAt_5 rfl (lv_at hl 0 rfl) ?_
    refine dget (cd := (5, 0)) (ci := 8) (C := RX10) (T := TX10) (N := 9) (v := .int (S.1 42)) hx hb hC hKX.1 hX (hG.F 0 (by decide)) rfl rfl inX10 1 (by decide) a_107 (Or.inl rfl) rfl dX10_tableAt_6 ?_
    refine lv_icmp_ge (tgt := 21) hx hb dX10_tableAt_9 (by decide) (fun c12 => ?_) (fun c12 => ?_)
    · have hf := it_t c12 hf
      refine lv_null hx hb dX10_tableAt_21 ?_
      refine lv_goto (tgt := 31) hx hb dX10_tableAt_22 (by decide) ?_
      cases hf
      exact Ct_ro (o := none) hx hb hr hlk hX hS dX10_tableAt_31
    · have hf := it_f c12 hf
      refine lv_iload_n hx hb dX10_tableAt_12 rfl (lv_at hl 1 rfl) ?_
      refine lv_aload_n hx hb dX10_tableAt_13 rfl (lv_at hl 0 rfl) ?_
      refine dget (cd := (5, 0)) (ci := 8) (C := RX10) (T := TX10) (N := 9) (v := .ref (ad (5, 1))) hx hb hC hKX.1 hX (hG.F 0 (by decide)) rfl rfl inX10 0 (by decide) a_106 (Or.inl rfl) rfl dX10_tableAt_14 ?_
      refine dlen (cd := (5, 1)) hx hb hKX.1 hX (hG.F 1 (by decide)) rfl 3 rfl (v := 3) rfl dX10_tableAt_17 ?_
      refine lv_icmp_lt (tgt := 25) hx hb dX10_tableAt_18 (by decide) (fun c13 => ?_) (fun c13 => ?_)
      · have hf := it_t c13 hf
        refine lv_aload_n hx hb dX10_tableAt_25 rfl (lv_at hl 0 rfl) ?_
        refine dget (cd := (5, 0)) (ci := 8) (C := RX10) (T := TX10) (N := 9) (v := .ref (ad (5, 1))) hx hb hC hKX.1 hX (hG.F 0 (by decide)) rfl rfl inX10 0 (by decide) a_106 (Or.inl rfl) rfl dX10_tableAt_26 ?_
        refine lv_iload_n hx hb dX10_tableAt_29 rfl (lv_at hl 1 rfl) ?_
        obtain ⟨h15, j14, ej14, hf⟩ := rd_e hf
        obtain ⟨o16, eo16, hf⟩ := lt_e hf
        refine daald (cd := (5, 1)) (v := rO ad 2 o16) hx hb hKX.1 hX (hG.F 1 (by decide)) rfl 3 rfl h15 ej14 (by rw [eo16]; exact rO_at) dX10_tableAt_30 ?_
        cases hf
        exact Ct_ro hx hb hr hlk hX hS dX10_tableAt_31
      · have hf := it_f c13 hf
        refine lv_null hx hb dX10_tableAt_21 ?_
        refine lv_goto (tgt := 31) hx hb dX10_tableAt_22 (by decide) ?_
        cases hf
        exact Ct_ro (o := none) hx hb hr hlk hX hS dX10_tableAt_31

theorem q_d10_viewAt : VWv RX10 yX10_viewAt cX10_viewAt 2 (some (.object "Lensbench$View")) 1 := ⟨a_636, a_16, a_635, a_10, by decide +kernel, Nat.le_of_ble_eq_true rfl⟩
set_option maxRecDepth 100000 in
set_option maxHeartbeats 4000000 in
theorem c_d10_viewAt {l : Launch} {D : va_G} {cA : Nat → ClassId} {A : Nat → Prop} {ad : Cd → Nat} {L : List Cd} {G : Gt} {nt nv : Nat} (hG : WF L G nt nv) {x1 : Int32} {S : St} {r : Option Nat} (hf : d10_viewAt x1 S = some r) : Ct l D cA A yX10_viewAt cX10_viewAt 2 (some (.object "Lensbench$View")) 0 0 0 [.ref (ad (5, 0)), .int x1] (DX D cA A ad L G S) (some (rO ad 4 r)) (DX D cA A ad L G S) := by
  refine Ct_of (by decide +kernel) (Nat.le_of_ble_eq_true rfl) ?_
  intro p e s m args below meth c ls hC hr hlk hnm hX hKX hl
  have hx := hC.1
  have hb := hC.2.1
  have hS : va_S A s.heap s.heap [] := va_S.rf
  have hl : lv_has ls 2 [(0, .ref (ad (5, 0))), (1, .int x1)] := hl
  unfold d10_viewAt at hf
  refine lv_iload_n hx hb dX10_viewAt_0 rfl (lv_at hl 1 rfl) ?_
  refine lv_if_lt (tgt := 21) hx hb dX10_viewAt_1 (by decide) (fun c11 => ?_) (fun c11 => ?_)
  · have hf := it_t c11 hf
    refine lv_null hx hb dX10_viewAt_21 ?_
    refine lv_goto (tgt := 31) hx hb dX10_viewAt_22 (by decide) ?_
    cases hf
    exact Ct_ro (o := none) hx hb hr hlk hX hS dX10_viewAt_31
  · have hf := it_f c11 hf
    refine lv_iload_n hx hb dX10_viewAt_4 rfl (lv_at hl 1 rfl) ?_
    refine lv_aload_n hx hb dX10_viewAt_5 rfl (lv_at hl 0 rfl) ?_
    refine dget (cd := (5, 0)) (ci := 8) (C := RX10) (T := TX10) (N := 9) (v := .int (S.1 43)) hx hb hC hKX.1 hX (hG.F 0 (by decide)) rfl rfl inX10 3 (by decide) a_109 (Or.inl rfl) rfl dX10_viewAt_6 ?_
    refine lv_icmp_ge (tgt := 21) hx hb dX10_viewAt_9 (by decide) (fun c12 => ?_) (fun c12 => ?_)
    · have hf := it_t c12 hf
      refine lv_null hx hb dX10_viewAt_21 ?_
      refine lv_goto (tgt := 31) hx hb dX10_viewAt_22 (by decide) ?_
      cases hf
      exact Ct_ro (o := none) hx hb hr hlk hX hS dX10_viewAt_31
    · have hf := it_f c12 hf
      refine lv_iload_n hx hb dX10_viewAt_12 rfl (lv_at hl 1 rfl) ?_
      refine lv_aload_n hx hb dX10_viewAt_13 rfl (lv_at hl 0 rfl) ?_
      refine dget (cd := (5, 0)) (ci := 8) (C := RX10) (T := TX10) (N := 9) (v := .ref (ad (5, 2))) hx hb hC hKX.1 hX (hG.F 0 (by decide)) rfl rfl inX10 2 (by decide) a_108 (Or.inl rfl) rfl dX10_viewAt_14 ?_
      refine dlen (cd := (5, 2)) hx hb hKX.1 hX (hG.F 2 (by decide)) rfl 4 rfl (v := 10) rfl dX10_viewAt_17 ?_
      refine lv_icmp_lt (tgt := 25) hx hb dX10_viewAt_18 (by decide) (fun c13 => ?_) (fun c13 => ?_)
      · have hf := it_t c13 hf
        refine lv_aload_n hx hb dX10_viewAt_25 rfl (lv_at hl 0 rfl) ?_
        refine dget (cd := (5, 0)) (ci := 8) (C := RX10) (T := TX10) (N := 9) (v := .ref (ad (5, 2))) hx hb hC hKX.1 hX (hG.F 0 (by decide)) rfl rfl inX10 2 (by decide) a_108 (Or.inl rfl) rfl dX10_viewAt_26 ?_
        refine lv_iload_n hx hb dX10_viewAt_29 rfl (lv_at hl 1 rfl) ?_
        obtain ⟨h15, j14, ej14, hf⟩ := rd_e hf
        obtain ⟨o16, eo16, hf⟩ := lt_e hf
        refine daald (cd := (5, 2)) (v := rO ad 4 o16) hx hb hKX.1 hX (hG.F 2 (by decide)) rfl 4 rfl h15 ej14 (by rw [eo16]; exact rO_at) dX10_viewAt_30 ?_
        cases hf
        exact Ct_ro hx hb hr hlk hX hS dX10_viewAt_31
      · have hf := it_f c13 hf
        refine lv_null hx hb dX10_viewAt_21 ?_
        refine lv_goto (tgt := 31) hx hb dX10_viewAt_22 (by decide) ?_
        cases hf
        exact Ct_ro (o := none) hx hb hr hlk hX hS dX10_viewAt_31

theorem q_d10_onlyTable : VWv RX10 yX10_onlyTable cX10_onlyTable 3 (some (.object "Lensbench$Table")) 1 := ⟨a_438, a_16, a_437, a_5, by decide +kernel, Nat.le_of_ble_eq_true rfl⟩
set_option maxRecDepth 100000 in
set_option maxHeartbeats 4000000 in
theorem c_d10_onlyTable {l : Launch} {D : va_G} {cA : Nat → ClassId} {A : Nat → Prop} {ad : Cd → Nat} {L : List Cd} {G : Gt} {nt nv : Nat} (hG : WF L G nt nv) {x1 : Int32} {S : St} {r : Option Nat} (hf : d10_onlyTable x1 S = some r) : Ct l D cA A yX10_onlyTable cX10_onlyTable 3 (some (.object "Lensbench$Table")) 1 0 0 [.ref (ad (5, 0)), .int x1] (DX D cA A ad L G S) (some (rO ad 2 r)) (DX D cA A ad L G S) := by
  refine Ct_of (by decide +kernel) (Nat.le_of_ble_eq_true rfl) ?_
  intro p e s m args below meth c ls hC hr hlk hnm hX hKX hl
  have hx := hC.1
  have hb := hC.2.1
  have hS : va_S A s.heap s.heap [] := va_S.rf
  have hl : lv_has ls 3 [(0, .ref (ad (5, 0))), (1, .int x1)] := hl
  unfold d10_onlyTable at hf
  refine lv_iconst (v := 0) hx hb dX10_onlyTable_0 (by decide) ?_
  refine lv_istore_n (lv' := [(2, .int 0), (0, .ref (ad (5, 0))), (1, .int x1)]) hx hb dX10_onlyTable_1 rfl hl (by decide) rfl (fun ls hl => ?_)
  obtain ⟨g12, g120, g12s, hf⟩ := lp1_e hf
  have Lg12 : ∀ (n : Nat) (x11 : Int32) (H : Heap) (locs : List Loc) (ls : Array Slot), DX D cA A ad L G S H → va_S A s.heap H locs → lv_has ls 3 [(0, .ref (ad (5, 0))), (1, .int x1), (2, .int x11)] → g12 n x11 = some r → W p l e (RM 1 0 0) s m args below meth c H locs 0 0 (MQ below (CtQ A (some (rO ad 2 r)) (DX D cA A ad L G S)) args s 0 0 A) (F0 m 2 ls []) := by
    intro n
    induction n with
    | zero => intro x11 H locs ls hX hS hl hf; rw [g120] at hf; cases hf
    | succ n ihg12 =>
      intro x11 H locs ls hX hS hl hf
      rw [g12s] at hf
      refine lv_iload_n hx hb dX10_onlyTable_2 rfl (lv_at hl 2 rfl) ?_
      refine lv_aload_n hx hb dX10_onlyTable_3 rfl (lv_at hl 0 rfl) ?_
      refine dget (cd := (5, 0)) (ci := 8) (C := RX10) (T := TX10) (N := 9) (v := .int (S.1 42)) hx hb hC hKX.1 hX (hG.F 0 (by decide)) rfl rfl inX10 1 (by decide) a_107 (Or.inl rfl) rfl dX10_onlyTable_4 ?_
      refine lv_icmp_ge (tgt := 29) hx hb dX10_onlyTable_7 (by decide) (fun c13 => ?_) (fun c13 => ?_)
      · have hf := it_t c13 hf
        refine lv_null hx hb dX10_onlyTable_29 ?_
        cases hf
        exact Ct_ro (o := none) hx hb hr hlk hX hS dX10_onlyTable_30
      · have hf := it_f c13 hf
        refine lv_iload_n hx hb dX10_onlyTable_10 rfl (lv_at hl 1 rfl) ?_
        refine lv_iconst (v := 1) hx hb dX10_onlyTable_11 (by decide) ?_
        refine lv_iload_n hx hb dX10_onlyTable_12 rfl (lv_at hl 2 rfl) ?_
        refine lv_ishl hx hb dX10_onlyTable_13 ?_
        refine lv_icmp_ne (tgt := 23) hx hb dX10_onlyTable_14 (by decide) (fun c14 => ?_) (fun c14 => ?_)
        · have hf := it_f c14 hf
          refine lv_iinc (v := (x11 + 1)) (lv' := [(2, .int (x11 + 1)), (0, .ref (ad (5, 0))), (1, .int x1)]) hx hb dX10_onlyTable_23 hl (k := 2) rfl rfl (by decide) rfl (fun ls hl => ?_)
          refine lv_goto (tgt := 2) hx hb dX10_onlyTable_26 (by decide) ?_
          exact ihg12 _ _ _ _ hX hS (lv_sub hl [1, 2, 0] rfl) hf
        · have hf := it_t c14 hf
          refine lv_aload_n hx hb dX10_onlyTable_17 rfl (lv_at hl 0 rfl) ?_
          refine lv_iload_n hx hb dX10_onlyTable_18 rfl (lv_at hl 2 rfl) ?_
          obtain ⟨z15, hz15, hf⟩ := cb_e hf
          refine dVx (cd := (5, 0)) (As := [.int x11]) (rest := []) hC (c_d10_tableAt hG hz15) q_d10_tableAt a_225 (Nat.le_of_ble_eq_true rfl) hX hKX (hG.F 0 (by decide)) rfl rfl rfl hl.1 (Nat.le_of_ble_eq_true rfl) dX10_onlyTable_19 hS (fun H locs hX hS => ?_)
          cases hf
          exact Ct_ro hx hb hr hlk hX hS dX10_onlyTable_22
  exact Lg12 FU _ _ _ _ hX hS (lv_sub hl [1, 2, 0] rfl) hf

theorem q_d4_clear : VWv RX4 yX4_clear cX4_clear 1 none 0 := ⟨a_313, a_17, a_311, a_312, by decide +kernel, Nat.le_of_ble_eq_true rfl⟩
set_option maxRecDepth 100000 in
set_option maxHeartbeats 4000000 in
theorem c_d4_clear {l : Launch} {D : va_G} {cA : Nat → ClassId} {A : Nat → Prop} {ad : Cd → Nat} {L : List Cd} {G : Gt} {nt nv : Nat} (hG : WF L G nt nv) {i : Nat} (hi : okR L i) {S : St} {S' : St} (hf : d4_clear i S = some S') : Ct l D cA A yX4_clear cX4_clear 1 none 0 0 0 [.ref (ad (0, i))] (DX D cA A ad L G S) none (DX D cA A ad L G S') := by
  refine Ct_of (by decide +kernel) (Nat.le_of_ble_eq_true rfl) ?_
  intro p e s m args below meth c ls hC hr hlk hnm hX hKX hl
  have hx := hC.1
  have hb := hC.2.1
  have hS : va_S A s.heap s.heap [] := va_S.rf
  have hl : lv_has ls 1 [(0, .ref (ad (0, i)))] := hl
  unfold d4_clear at hf
  refine lv_aload_n hx hb dX4_clear_0 rfl (lv_at hl 0 rfl) ?_
  refine lv_iconst (v := 0) hx hb dX4_clear_1 (by decide) ?_
  refine dput (cd := (0, i)) (ci := 3) (C := RX4) (T := TX4) (N := 2) (ty := .int) hx hb hC hKX.1 hX hS hi.1 rfl rfl inX4 tyX4 tyX4_ok nmX4 1 (by decide) a_55 rfl rfl (by decide +kernel) rfl rfl (Nat.le_of_ble_eq_true rfl) (dsetR hG hi.2.2) dX4_clear_2 (fun H locs hX hS => ?_)
  obtain ⟨S11, eS11, hf⟩ := lt_e hf
  rw [← eS11] at hX
  cases hf
  exact Ct_rv hx hb hr hlk hX hS dX4_clear_5

theorem q_d4_size : VWv RX4 yX4_size cX4_size 1 (some .int) 0 := ⟨a_270, a_17, a_268, a_269, by decide +kernel, Nat.le_of_ble_eq_true rfl⟩
set_option maxRecDepth 100000 in
set_option maxHeartbeats 4000000 in
theorem c_d4_size {l : Launch} {D : va_G} {cA : Nat → ClassId} {A : Nat → Prop} {ad : Cd → Nat} {L : List Cd} {G : Gt} {nt nv : Nat} (hG : WF L G nt nv) {i : Nat} (hi : okR L i) {S : St} {r : Int32} (hf : d4_size i S = some r) : Ct l D cA A yX4_size cX4_size 1 (some .int) 0 0 0 [.ref (ad (0, i))] (DX D cA A ad L G S) (some (.int r)) (DX D cA A ad L G S) := by
  refine Ct_of (by decide +kernel) (Nat.le_of_ble_eq_true rfl) ?_
  intro p e s m args below meth c ls hC hr hlk hnm hX hKX hl
  have hx := hC.1
  have hb := hC.2.1
  have hS : va_S A s.heap s.heap [] := va_S.rf
  have hl : lv_has ls 1 [(0, .ref (ad (0, i)))] := hl
  unfold d4_size at hf
  refine lv_aload_n hx hb dX4_size_0 rfl (lv_at hl 0 rfl) ?_
  refine dget (cd := (0, i)) (ci := 3) (C := RX4) (T := TX4) (N := 2) (v := .int (S.1 i)) hx hb hC hKX.1 hX hi.1 rfl rfl inX4 1 (by decide) a_55 (Or.inl rfl) rfl dX4_size_1 ?_
  cases hf
  exact Ct_ri hx hb hr hlk hX hS dX4_size_4

theorem q_d4_at : VWv RX4 yX4_at cX4_at 2 (some .int) 1 := ⟨a_239, a_17, a_237, a_238, by decide +kernel, Nat.le_of_ble_eq_true rfl⟩
set_option maxRecDepth 100000 in
set_option maxHeartbeats 4000000 in
theorem c_d4_at {l : Launch} {D : va_G} {cA : Nat → ClassId} {A : Nat → Prop} {ad : Cd → Nat} {L : List Cd} {G : Gt} {nt nv : Nat} (hG : WF L G nt nv) {i : Nat} (hi : okR L i) {x1 : Int32} {S : St} {r : Int32} (hf : d4_at i x1 S = some r) : Ct l D cA A yX4_at cX4_at 2 (some .int) 0 0 0 [.ref (ad (0, i)), .int x1] (DX D cA A ad L G S) (some (.int r)) (DX D cA A ad L G S) := by
  refine Ct_of (by decide +kernel) (Nat.le_of_ble_eq_true rfl) ?_
  intro p e s m args below meth c ls hC hr hlk hnm hX hKX hl
  have hx := hC.1
  have hb := hC.2.1
  have hS : va_S A s.heap s.heap [] := va_S.rf
  have hl : lv_has ls 2 [(0, .ref (ad (0, i))), (1, .int x1)] := hl
  unfold d4_at at hf
  refine lv_iload_n hx hb dX4_at_0 rfl (lv_at hl 1 rfl) ?_
  refine lv_if_lt (tgt := 21) hx hb dX4_at_1 (by decide) (fun c11 => ?_) (fun c11 => ?_)
  · have hf := it_t c11 hf
    refine lv_iconst (v := (-1)) hx hb dX4_at_21 (by decide) ?_
    refine lv_goto (tgt := 31) hx hb dX4_at_22 (by decide) ?_
    cases hf
    exact Ct_ri hx hb hr hlk hX hS dX4_at_31
  · have hf := it_f c11 hf
    refine lv_iload_n hx hb dX4_at_4 rfl (lv_at hl 1 rfl) ?_
    refine lv_aload_n hx hb dX4_at_5 rfl (lv_at hl 0 rfl) ?_
    refine dget (cd := (0, i)) (ci := 3) (C := RX4) (T := TX4) (N := 2) (v := .int (S.1 i)) hx hb hC hKX.1 hX hi.1 rfl rfl inX4 1 (by decide) a_55 (Or.inl rfl) rfl dX4_at_6 ?_
    refine lv_icmp_ge (tgt := 21) hx hb dX4_at_9 (by decide) (fun c12 => ?_) (fun c12 => ?_)
    · have hf := it_t c12 hf
      refine lv_iconst (v := (-1)) hx hb dX4_at_21 (by decide) ?_
      refine lv_goto (tgt := 31) hx hb dX4_at_22 (by decide) ?_
      cases hf
      exact Ct_ri hx hb hr hlk hX hS dX4_at_31
    · have hf := it_f c12 hf
      refine lv_iload_n hx hb dX4_at_12 rfl (lv_at hl 1 rfl) ?_
      refine lv_aload_n hx hb dX4_at_13 rfl (lv_at hl 0 rfl) ?_
      refine dget (cd := (0, i)) (ci := 3) (C := RX4) (T := TX4) (N := 2) (v := .ref (ad (1, i))) hx hb hC hKX.1 hX hi.1 rfl rfl inX4 0 (by decide) a_54 (Or.inl rfl) rfl dX4_at_14 ?_
      refine dlen (cd := (1, i)) hx hb hKX.1 hX hi.2.1 rfl 0 rfl (v := (nI (dcap i))) rfl dX4_at_17 ?_
      refine lv_icmp_lt (tgt := 25) hx hb dX4_at_18 (by decide) (fun c13 => ?_) (fun c13 => ?_)
      · have hf := it_t c13 hf
        refine lv_aload_n hx hb dX4_at_25 rfl (lv_at hl 0 rfl) ?_
        refine dget (cd := (0, i)) (ci := 3) (C := RX4) (T := TX4) (N := 2) (v := .ref (ad (1, i))) hx hb hC hKX.1 hX hi.1 rfl rfl inX4 0 (by decide) a_54 (Or.inl rfl) rfl dX4_at_26 ?_
        refine lv_iload_n hx hb dX4_at_29 rfl (lv_at hl 1 rfl) ?_
        obtain ⟨h15, j14, ej14, hf⟩ := rd_e hf
        refine dald (cd := (1, i)) hx hb hKX.1 hX hi.2.1 rfl h15 ej14 dX4_at_30 ?_
        cases hf
        exact Ct_ri hx hb hr hlk hX hS dX4_at_31
      · have hf := it_f c13 hf
        refine lv_iconst (v := (-1)) hx hb dX4_at_21 (by decide) ?_
        refine lv_goto (tgt := 31) hx hb dX4_at_22 (by decide) ?_
        cases hf
        exact Ct_ri hx hb hr hlk hX hS dX4_at_31

theorem q_d1_isIn : VWs yX1_isIn cX1_isIn 2 (some .boolean) 2 := ⟨a_361, a_27, a_360, by decide +kernel, Nat.le_of_ble_eq_true rfl⟩
set_option maxRecDepth 100000 in
set_option maxHeartbeats 4000000 in
theorem c_d1_isIn {l : Launch} {D : va_G} {cA : Nat → ClassId} {A : Nat → Prop} {ad : Cd → Nat} {L : List Cd} {G : Gt} {nt nv : Nat} (hG : WF L G nt nv) {x1 : Int32} {x2 : Int32} {S : St} {r : Int32} (hf : d1_isIn x1 x2 = some r) : Ct l D cA A yX1_isIn cX1_isIn 2 (some .boolean) 0 0 0 [.int x1, .int x2] (DX D cA A ad L G S) (some (.int r)) (DX D cA A ad L G S) := by
  refine Ct_of (by decide +kernel) (Nat.le_of_ble_eq_true rfl) ?_
  intro p e s m args below meth c ls hC hr hlk hnm hX hKX hl
  have hx := hC.1
  have hb := hC.2.1
  have hS : va_S A s.heap s.heap [] := va_S.rf
  have hl : lv_has ls 2 [(0, .int x1), (1, .int x2)] := hl
  unfold d1_isIn at hf
  refine lv_iload_n hx hb dX1_isIn_0 rfl (lv_at hl 1 rfl) ?_
  refine lv_iload_n hx hb dX1_isIn_1 rfl (lv_at hl 0 rfl) ?_
  refine lv_ishr hx hb dX1_isIn_2 ?_
  refine lv_iconst (v := 1) hx hb dX1_isIn_3 (by decide) ?_
  refine lv_iand hx hb dX1_isIn_4 ?_
  refine lv_iconst (v := 1) hx hb dX1_isIn_5 (by decide) ?_
  refine lv_icmp_ne (tgt := 13) hx hb dX1_isIn_6 (by decide) (fun c11 => ?_) (fun c11 => ?_)
  · have hf := it_f c11 hf
    refine lv_iconst (v := 0) hx hb dX1_isIn_13 (by decide) ?_
    cases hf
    exact Ct_rz hx hb hr hlk nz0 hX hS dX1_isIn_14
  · have hf := it_t c11 hf
    refine lv_iconst (v := 1) hx hb dX1_isIn_9 (by decide) ?_
    refine lv_goto (tgt := 14) hx hb dX1_isIn_10 (by decide) ?_
    cases hf
    exact Ct_rz hx hb hr hlk nz1 hX hS dX1_isIn_14

theorem q_d1_part : VWs yX1_part cX1_part 6 (some .int) 2 := ⟨a_358, a_27, a_357, by decide +kernel, Nat.le_of_ble_eq_true rfl⟩
set_option maxRecDepth 100000 in
set_option maxHeartbeats 4000000 in
theorem c_d1_part {l : Launch} {D : va_G} {cA : Nat → ClassId} {A : Nat → Prop} {ad : Cd → Nat} {L : List Cd} {G : Gt} {nt nv : Nat} (hG : WF L G nt nv) {x1 : Int32} {x2 : Int32} {S : St} {r : Int32} (hf : d1_part x1 x2 = some r) : Ct l D cA A yX1_part cX1_part 6 (some .int) 1 0 0 [.int x1, .int x2] (DX D cA A ad L G S) (some (.int r)) (DX D cA A ad L G S) := by
  refine Ct_of (by decide +kernel) (Nat.le_of_ble_eq_true rfl) ?_
  intro p e s m args below meth c ls hC hr hlk hnm hX hKX hl
  have hx := hC.1
  have hb := hC.2.1
  have hS : va_S A s.heap s.heap [] := va_S.rf
  have hl : lv_has ls 6 [(0, .int x1), (1, .int x2)] := hl
  unfold d1_part at hf
  refine lv_iconst (v := 0) hx hb dX1_part_0 (by decide) ?_
  refine lv_istore_n (lv' := [(2, .int 0), (0, .int x1), (1, .int x2)]) hx hb dX1_part_1 rfl hl (by decide) rfl (fun ls hl => ?_)
  refine lv_iload_n hx hb dX1_part_2 rfl (lv_at hl 1 rfl) ?_
  refine lv_istore_n (lv' := [(3, .int x1), (2, .int 0), (0, .int x1), (1, .int x2)]) hx hb dX1_part_3 rfl hl (by decide) rfl (fun ls hl => ?_)
  refine lv_iconst (v := 1) hx hb dX1_part_4 (by decide) ?_
  refine lv_istore (lv' := [(4, .int 1), (3, .int x1), (2, .int 0), (0, .int x1), (1, .int x2)]) hx hb dX1_part_5 hl (by decide) rfl (fun ls hl => ?_)
  refine lv_iconst (v := 0) hx hb dX1_part_7 (by decide) ?_
  refine lv_istore (lv' := [(5, .int 0), (4, .int 1), (3, .int x1), (2, .int 0), (0, .int x1), (1, .int x2)]) hx hb dX1_part_8 hl (by decide) rfl (fun ls hl => ?_)
  obtain ⟨g15, g150, g15s, hf⟩ := lp4_e hf
  have Lg15 : ∀ (n : Nat) (x11 : Int32) (x12 : Int32) (x13 : Int32) (x14 : Int32) (H : Heap) (locs : List Loc) (ls : Array Slot), DX D cA A ad L G S H → va_S A s.heap H locs → lv_has ls 6 [(1, .int x2), (2, .int x11), (3, .int x12), (4, .int x13), (5, .int x14)] → g15 n x11 x12 x13 x14 = some r → W p l e (RM 1 0 0) s m args below meth c H locs 0 0 (MQ below (CtQ A (some (.int r)) (DX D cA A ad L G S)) args s 0 0 A) (F0 m 10 ls []) := by
    intro n
    induction n with
    | zero => intro x11 x12 x13 x14 H locs ls hX hS hl hf; rw [g150] at hf; cases hf
    | succ n ihg15 =>
      intro x11 x12 x13 x14 H locs ls hX hS hl hf
      rw [g15s] at hf
      refine lv_iload hx hb dX1_part_10 (lv_at hl 4 rfl) ?_
      refine lv_bipush (v := 6) hx hb dX1_part_12 (by decide) ?_
      refine lv_icmp_ge (tgt := 54) hx hb dX1_part_14 (by decide) (fun c16 => ?_) (fun c16 => ?_)
      · have hf := it_t c16 hf
        refine lv_iload_n hx hb dX1_part_54 rfl (lv_at hl 1 rfl) ?_
        cases hf
        exact Ct_ri hx hb hr hlk hX hS dX1_part_55
      · have hf := it_f c16 hf
        refine lv_iload hx hb dX1_part_17 (lv_at hl 4 rfl) ?_
        refine lv_iload_n hx hb dX1_part_19 rfl (lv_at hl 0 rfl) ?_
        obtain ⟨z17, hz17, hf⟩ := cb_e hf
        refine dSx (As := [.int x14, .int x2]) (rest := []) hC (c_d1_isIn hG hz17) q_d1_isIn a_359 (Nat.le_of_ble_eq_true rfl) hX hKX rfl hl.1 (Nat.le_of_ble_eq_true rfl) dX1_part_20 hS (fun H locs hX hS => ?_)
        obtain ⟨k20, hk20, hf⟩ := jn1_e hf
        have Jk20 : ∀ (x19 : Int32) (H : Heap) (locs : List Loc) (ls : Array Slot), DX D cA A ad L G S H → va_S A s.heap H locs → lv_has ls 6 [(1, .int x2), (2, .int x19), (3, .int x12), (4, .int x13), (5, .int x14)] → k20 x19 = some r → W p l e (RM 1 0 0) s m args below meth c H locs 0 0 (MQ below (CtQ A (some (.int r)) (DX D cA A ad L G S)) args s 0 0 A) (F0 m 36 ls []) := by
          intro x19 H locs ls hX hS hl hf
          rw [hk20] at hf
          refine lv_iload_n hx hb dX1_part_36 rfl (lv_at hl 2 rfl) ?_
          refine lv_bipush (v := 10) hx hb dX1_part_37 (by decide) ?_
          have h21 : ¬ (10 : Int32) = 0 := by decide
          refine lv_idiv hx hb dX1_part_39 h21 ?_
          refine lv_istore_n (lv' := [(3, .int (x12 / 10)), (1, .int x2), (2, .int x19), (4, .int x13), (5, .int x14)]) hx hb dX1_part_40 rfl hl (by decide) rfl (fun ls hl => ?_)
          refine lv_iload hx hb dX1_part_41 (lv_at hl 3 rfl) ?_
          refine lv_bipush (v := 10) hx hb dX1_part_43 (by decide) ?_
          refine lv_imul hx hb dX1_part_45 ?_
          refine lv_istore (lv' := [(4, .int (x13 * 10)), (3, .int (x12 / 10)), (1, .int x2), (2, .int x19), (5, .int x14)]) hx hb dX1_part_46 hl (by decide) rfl (fun ls hl => ?_)
          refine lv_iinc (v := (x14 + 1)) (lv' := [(5, .int (x14 + 1)), (4, .int (x13 * 10)), (3, .int (x12 / 10)), (1, .int x2), (2, .int x19)]) hx hb dX1_part_48 hl (k := 4) rfl rfl (by decide) rfl (fun ls hl => ?_)
          refine lv_goto (tgt := 10) hx hb dX1_part_51 (by decide) ?_
          exact ihg15 _ _ _ _ _ _ _ hX hS (lv_sub hl [3, 4, 2, 1, 0] rfl) hf
        refine lv_if_eq (tgt := 36) hx hb dX1_part_23 (by decide) (fun c22 => ?_) (fun c22 => ?_)
        · have hf := it_t c22 hf
          exact Jk20 _ _ _ _ hX hS (lv_sub hl [0, 1, 2, 3, 4] rfl) hf
        · have hf := it_f c22 hf
          refine lv_iload_n hx hb dX1_part_26 rfl (lv_at hl 1 rfl) ?_
          refine lv_iload_n hx hb dX1_part_27 rfl (lv_at hl 2 rfl) ?_
          refine lv_bipush (v := 10) hx hb dX1_part_28 (by decide) ?_
          have h23 : ¬ (10 : Int32) = 0 := by decide
          refine lv_irem hx hb dX1_part_30 h23 ?_
          refine lv_iload hx hb dX1_part_31 (lv_at hl 3 rfl) ?_
          refine lv_imul hx hb dX1_part_33 ?_
          refine lv_iadd hx hb dX1_part_34 ?_
          refine lv_istore_n (lv' := [(2, .int (x11 + ((x12 - x12 / 10 * 10) * x13))), (1, .int x2), (3, .int x12), (4, .int x13), (5, .int x14)]) hx hb dX1_part_35 rfl hl (by decide) rfl (fun ls hl => ?_)
          exact Jk20 _ _ _ _ hX hS (lv_sub hl [1, 0, 2, 3, 4] rfl) hf
  exact Lg15 FU _ _ _ _ _ _ _ hX hS (lv_sub hl [5, 3, 2, 1, 0] rfl) hf

theorem q_d4_has : VWv RX4 yX4_has cX4_has 3 (some .boolean) 1 := ⟨a_341, a_17, a_339, a_340, by decide +kernel, Nat.le_of_ble_eq_true rfl⟩
set_option maxRecDepth 100000 in
set_option maxHeartbeats 4000000 in
theorem c_d4_has {l : Launch} {D : va_G} {cA : Nat → ClassId} {A : Nat → Prop} {ad : Cd → Nat} {L : List Cd} {G : Gt} {nt nv : Nat} (hG : WF L G nt nv) {i : Nat} (hi : okR L i) {x1 : Int32} {S : St} {r : Int32} (hf : d4_has i x1 S = some r) : Ct l D cA A yX4_has cX4_has 3 (some .boolean) 0 0 0 [.ref (ad (0, i)), .int x1] (DX D cA A ad L G S) (some (.int r)) (DX D cA A ad L G S) := by
  refine Ct_of (by decide +kernel) (Nat.le_of_ble_eq_true rfl) ?_
  intro p e s m args below meth c ls hC hr hlk hnm hX hKX hl
  have hx := hC.1
  have hb := hC.2.1
  have hS : va_S A s.heap s.heap [] := va_S.rf
  have hl : lv_has ls 3 [(0, .ref (ad (0, i))), (1, .int x1)] := hl
  unfold d4_has at hf
  refine lv_iconst (v := 0) hx hb dX4_has_0 (by decide) ?_
  refine lv_istore_n (lv' := [(2, .int 0), (0, .ref (ad (0, i))), (1, .int x1)]) hx hb dX4_has_1 rfl hl (by decide) rfl (fun ls hl => ?_)
  obtain ⟨g12, g120, g12s, hf⟩ := lp1_e hf
  have Lg12 : ∀ (n : Nat) (x11 : Int32) (H : Heap) (locs : List Loc) (ls : Array Slot), DX D cA A ad L G S H → va_S A s.heap H locs → lv_has ls 3 [(0, .ref (ad (0, i))), (1, .int x1), (2, .int x11)] → g12 n x11 = some r → W p l e (RM 0 0 0) s m args below meth c H locs 0 0 (MQ below (CtQ A (some (.int r)) (DX D cA A ad L G S)) args s 0 0 A) (F0 m 2 ls []) := by
    intro n
    induction n with
    | zero => intro x11 H locs ls hX hS hl hf; rw [g120] at hf; cases hf
    | succ n ihg12 =>
      intro x11 H locs ls hX hS hl hf
      rw [g12s] at hf
      refine lv_iload_n hx hb dX4_has_2 rfl (lv_at hl 2 rfl) ?_
      refine lv_aload_n hx hb dX4_has_3 rfl (lv_at hl 0 rfl) ?_
      refine dget (cd := (0, i)) (ci := 3) (C := RX4) (T := TX4) (N := 2) (v := .int (S.1 i)) hx hb hC hKX.1 hX hi.1 rfl rfl inX4 1 (by decide) a_55 (Or.inl rfl) rfl dX4_has_4 ?_
      refine lv_icmp_ge (tgt := 37) hx hb dX4_has_7 (by decide) (fun c13 => ?_) (fun c13 => ?_)
      · have hf := it_t c13 hf
        refine lv_iconst (v := 0) hx hb dX4_has_37 (by decide) ?_
        cases hf
        exact Ct_rz hx hb hr hlk nz0 hX hS dX4_has_38
      · have hf := it_f c13 hf
        refine lv_iload_n hx hb dX4_has_10 rfl (lv_at hl 2 rfl) ?_
        refine lv_aload_n hx hb dX4_has_11 rfl (lv_at hl 0 rfl) ?_
        refine dget (cd := (0, i)) (ci := 3) (C := RX4) (T := TX4) (N := 2) (v := .ref (ad (1, i))) hx hb hC hKX.1 hX hi.1 rfl rfl inX4 0 (by decide) a_54 (Or.inl rfl) rfl dX4_has_12 ?_
        refine dlen (cd := (1, i)) hx hb hKX.1 hX hi.2.1 rfl 0 rfl (v := (nI (dcap i))) rfl dX4_has_15 ?_
        refine lv_icmp_ge (tgt := 37) hx hb dX4_has_16 (by decide) (fun c14 => ?_) (fun c14 => ?_)
        · have hf := it_t c14 hf
          refine lv_iconst (v := 0) hx hb dX4_has_37 (by decide) ?_
          cases hf
          exact Ct_rz hx hb hr hlk nz0 hX hS dX4_has_38
        · have hf := it_f c14 hf
          refine lv_aload_n hx hb dX4_has_19 rfl (lv_at hl 0 rfl) ?_
          refine dget (cd := (0, i)) (ci := 3) (C := RX4) (T := TX4) (N := 2) (v := .ref (ad (1, i))) hx hb hC hKX.1 hX hi.1 rfl rfl inX4 0 (by decide) a_54 (Or.inl rfl) rfl dX4_has_20 ?_
          refine lv_iload_n hx hb dX4_has_23 rfl (lv_at hl 2 rfl) ?_
          obtain ⟨h16, j15, ej15, hf⟩ := rd_e hf
          refine dald (cd := (1, i)) hx hb hKX.1 hX hi.2.1 rfl h16 ej15 dX4_has_24 ?_
          refine lv_iload_n hx hb dX4_has_25 rfl (lv_at hl 1 rfl) ?_
          refine lv_icmp_ne (tgt := 31) hx hb dX4_has_26 (by decide) (fun c17 => ?_) (fun c17 => ?_)
          · have hf := it_f c17 hf
            refine lv_iinc (v := (x11 + 1)) (lv' := [(2, .int (x11 + 1)), (0, .ref (ad (0, i))), (1, .int x1)]) hx hb dX4_has_31 hl (k := 2) rfl rfl (by decide) rfl (fun ls hl => ?_)
            refine lv_goto (tgt := 2) hx hb dX4_has_34 (by decide) ?_
            exact ihg12 _ _ _ _ hX hS (lv_sub hl [1, 2, 0] rfl) hf
          · have hf := it_t c17 hf
            refine lv_iconst (v := 1) hx hb dX4_has_29 (by decide) ?_
            cases hf
            exact Ct_rz hx hb hr hlk nz1 hX hS dX4_has_30
  exact Lg12 FU _ _ _ _ hX hS (lv_sub hl [1, 2, 0] rfl) hf

theorem q_d4_put : VWv RX4 yX4_put cX4_put 3 none 1 := ⟨a_337, a_17, a_335, a_336, by decide +kernel, Nat.le_of_ble_eq_true rfl⟩
set_option maxRecDepth 100000 in
set_option maxHeartbeats 4000000 in
theorem c_d4_put {l : Launch} {D : va_G} {cA : Nat → ClassId} {A : Nat → Prop} {ad : Cd → Nat} {L : List Cd} {G : Gt} {nt nv : Nat} (hG : WF L G nt nv) {i : Nat} (hi : okR L i) {x1 : Int32} {S : St} {S' : St} (hf : d4_put i x1 S = some S') : Ct l D cA A yX4_put cX4_put 3 none 1 0 0 [.ref (ad (0, i)), .int x1] (DX D cA A ad L G S) none (DX D cA A ad L G S') := by
  refine Ct_of (by decide +kernel) (Nat.le_of_ble_eq_true rfl) ?_
  intro p e s m args below meth c ls hC hr hlk hnm hX hKX hl
  have hx := hC.1
  have hb := hC.2.1
  have hS : va_S A s.heap s.heap [] := va_S.rf
  have hl : lv_has ls 3 [(0, .ref (ad (0, i))), (1, .int x1)] := hl
  unfold d4_put at hf
  refine lv_aload_n hx hb dX4_put_0 rfl (lv_at hl 0 rfl) ?_
  refine dget (cd := (0, i)) (ci := 3) (C := RX4) (T := TX4) (N := 2) (v := .int (S.1 i)) hx hb hC hKX.1 hX hi.1 rfl rfl inX4 1 (by decide) a_55 (Or.inl rfl) rfl dX4_put_1 ?_
  refine lv_aload_n hx hb dX4_put_4 rfl (lv_at hl 0 rfl) ?_
  refine dget (cd := (0, i)) (ci := 3) (C := RX4) (T := TX4) (N := 2) (v := .ref (ad (1, i))) hx hb hC hKX.1 hX hi.1 rfl rfl inX4 0 (by decide) a_54 (Or.inl rfl) rfl dX4_put_5 ?_
  refine dlen (cd := (1, i)) hx hb hKX.1 hX hi.2.1 rfl 0 rfl (v := (nI (dcap i))) rfl dX4_put_8 ?_
  refine lv_icmp_ge (tgt := 20) hx hb dX4_put_9 (by decide) (fun c11 => ?_) (fun c11 => ?_)
  · have hf := it_t c11 hf
    cases hf
    exact Ct_rv hx hb hr hlk hX hS dX4_put_20
  · have hf := it_f c11 hf
    refine lv_aload_n hx hb dX4_put_12 rfl (lv_at hl 0 rfl) ?_
    refine lv_iload_n hx hb dX4_put_13 rfl (lv_at hl 1 rfl) ?_
    obtain ⟨z12, hz12, hf⟩ := cb_e hf
    refine dVx (cd := (0, i)) (As := [.int x1]) (rest := []) hC (c_d4_has hG hi hz12) q_d4_has a_338 (Nat.le_of_ble_eq_true rfl) hX hKX hi.1 rfl rfl rfl hl.1 (Nat.le_of_ble_eq_true rfl) dX4_put_14 hS (fun H locs hX hS => ?_)
    refine lv_if_eq (tgt := 21) hx hb dX4_put_17 (by decide) (fun c14 => ?_) (fun c14 => ?_)
    · have hf := it_t c14 hf
      refine lv_aload_n hx hb dX4_put_21 rfl (lv_at hl 0 rfl) ?_
      refine dget (cd := (0, i)) (ci := 3) (C := RX4) (T := TX4) (N := 2) (v := .int (S.1 i)) hx hb hC hKX.1 hX hi.1 rfl rfl inX4 1 (by decide) a_55 (Or.inl rfl) rfl dX4_put_22 ?_
      refine lv_istore_n (lv' := [(2, .int (S.1 i)), (0, .ref (ad (0, i))), (1, .int x1)]) hx hb dX4_put_25 rfl hl (by decide) rfl (fun ls hl => ?_)
      obtain ⟨g17, g170, g17s, hf⟩ := lp2_e hf
      have Lg17 : ∀ (n : Nat) (x15 : Int32) (S16 : St) (H : Heap) (locs : List Loc) (ls : Array Slot), DX D cA A ad L G S16 H → va_S A s.heap H locs → lv_has ls 3 [(0, .ref (ad (0, i))), (1, .int x1), (2, .int x15)] → g17 n x15 S16 = some S' → W p l e (RM 1 0 0) s m args below meth c H locs 0 0 (MQ below (CtQ A none (DX D cA A ad L G S')) args s 0 0 A) (F0 m 26 ls []) := by
        intro n
        induction n with
        | zero => intro x15 S16 H locs ls hX hS hl hf; rw [g170] at hf; cases hf
        | succ n ihg17 =>
          intro x15 S16 H locs ls hX hS hl hf
          rw [g17s] at hf
          refine lv_iload_n hx hb dX4_put_26 rfl (lv_at hl 2 rfl) ?_
          obtain ⟨k18, hk18, hf⟩ := jn0_e hf
          have Jk18 : ∀  (H : Heap) (locs : List Loc) (ls : Array Slot), DX D cA A ad L G S16 H → va_S A s.heap H locs → lv_has ls 3 [(0, .ref (ad (0, i))), (1, .int x1), (2, .int x15)] → k18 = some S' → W p l e (RM 1 0 0) s m args below meth c H locs 0 0 (MQ below (CtQ A none (DX D cA A ad L G S')) args s 0 0 A) (F0 m 62 ls []) := by
            intro  H locs ls hX hS hl hf
            rw [hk18] at hf
            refine lv_aload_n hx hb dX4_put_62 rfl (lv_at hl 0 rfl) ?_
            refine dget (cd := (0, i)) (ci := 3) (C := RX4) (T := TX4) (N := 2) (v := .ref (ad (1, i))) hx hb hC hKX.1 hX hi.1 rfl rfl inX4 0 (by decide) a_54 (Or.inl rfl) rfl dX4_put_63 ?_
            refine lv_iload_n hx hb dX4_put_66 rfl (lv_at hl 2 rfl) ?_
            refine lv_iload_n hx hb dX4_put_67 rfl (lv_at hl 1 rfl) ?_
            obtain ⟨h20, j19, ej19, hf⟩ := rd_e hf
            refine dast (cd := (1, i)) hx hb hKX.1 hX hS hi.2.1 rfl (dsetA hG hi.2.2) h20 ej19 dX4_put_68 (fun H locs hX hS => ?_)
            obtain ⟨S21, eS21, hf⟩ := lt_e hf
            rw [← eS21] at hX
            refine lv_aload_n hx hb dX4_put_69 rfl (lv_at hl 0 rfl) ?_
            refine lv_dup hx hb dX4_put_70 rfl ?_
            refine dget (cd := (0, i)) (ci := 3) (C := RX4) (T := TX4) (N := 2) (v := .int (S21.1 i)) hx hb hC hKX.1 hX hi.1 rfl rfl inX4 1 (by decide) a_55 (Or.inl rfl) rfl dX4_put_71 ?_
            refine lv_iconst (v := 1) hx hb dX4_put_74 (by decide) ?_
            refine lv_iadd hx hb dX4_put_75 ?_
            refine dput (cd := (0, i)) (ci := 3) (C := RX4) (T := TX4) (N := 2) (ty := .int) hx hb hC hKX.1 hX hS hi.1 rfl rfl inX4 tyX4 tyX4_ok nmX4 1 (by decide) a_55 rfl rfl (by decide +kernel) rfl rfl (Nat.le_of_ble_eq_true rfl) (dsetR hG hi.2.2) dX4_put_76 (fun H locs hX hS => ?_)
            obtain ⟨S22, eS22, hf⟩ := lt_e hf
            rw [← eS22] at hX
            cases hf
            exact Ct_rv hx hb hr hlk hX hS dX4_put_79
          refine lv_if_le (tgt := 62) hx hb dX4_put_27 (by decide) (fun c23 => ?_) (fun c23 => ?_)
          · have hf := it_t c23 hf
            exact Jk18 _ _ _ hX hS (lv_sub hl [0, 1, 2] rfl) hf
          · have hf := it_f c23 hf
            refine lv_aload_n hx hb dX4_put_30 rfl (lv_at hl 0 rfl) ?_
            refine dget (cd := (0, i)) (ci := 3) (C := RX4) (T := TX4) (N := 2) (v := .ref (ad (1, i))) hx hb hC hKX.1 hX hi.1 rfl rfl inX4 0 (by decide) a_54 (Or.inl rfl) rfl dX4_put_31 ?_
            refine lv_iload_n hx hb dX4_put_34 rfl (lv_at hl 2 rfl) ?_
            refine lv_iconst (v := 1) hx hb dX4_put_35 (by decide) ?_
            refine lv_isub hx hb dX4_put_36 ?_
            obtain ⟨h25, j24, ej24, hf⟩ := rd_e hf
            refine dald (cd := (1, i)) hx hb hKX.1 hX hi.2.1 rfl h25 ej24 dX4_put_37 ?_
            refine lv_iload_n hx hb dX4_put_38 rfl (lv_at hl 1 rfl) ?_
            refine lv_icmp_le (tgt := 62) hx hb dX4_put_39 (by decide) (fun c26 => ?_) (fun c26 => ?_)
            · have hf := it_t c26 hf
              exact Jk18 _ _ _ hX hS (lv_sub hl [0, 1, 2] rfl) hf
            · have hf := it_f c26 hf
              refine lv_aload_n hx hb dX4_put_42 rfl (lv_at hl 0 rfl) ?_
              refine dget (cd := (0, i)) (ci := 3) (C := RX4) (T := TX4) (N := 2) (v := .ref (ad (1, i))) hx hb hC hKX.1 hX hi.1 rfl rfl inX4 0 (by decide) a_54 (Or.inl rfl) rfl dX4_put_43 ?_
              refine lv_iload_n hx hb dX4_put_46 rfl (lv_at hl 2 rfl) ?_
              refine lv_aload_n hx hb dX4_put_47 rfl (lv_at hl 0 rfl) ?_
              refine dget (cd := (0, i)) (ci := 3) (C := RX4) (T := TX4) (N := 2) (v := .ref (ad (1, i))) hx hb hC hKX.1 hX hi.1 rfl rfl inX4 0 (by decide) a_54 (Or.inl rfl) rfl dX4_put_48 ?_
              refine lv_iload_n hx hb dX4_put_51 rfl (lv_at hl 2 rfl) ?_
              refine lv_iconst (v := 1) hx hb dX4_put_52 (by decide) ?_
              refine lv_isub hx hb dX4_put_53 ?_
              obtain ⟨h28, j27, ej27, hf⟩ := rd_e hf
              refine dald (cd := (1, i)) hx hb hKX.1 hX hi.2.1 rfl h28 ej27 dX4_put_54 ?_
              obtain ⟨h30, j29, ej29, hf⟩ := rd_e hf
              refine dast (cd := (1, i)) hx hb hKX.1 hX hS hi.2.1 rfl (dsetA hG hi.2.2) h30 ej29 dX4_put_55 (fun H locs hX hS => ?_)
              obtain ⟨S31, eS31, hf⟩ := lt_e hf
              rw [← eS31] at hX
              refine lv_iinc (v := (x15 + (-1))) (lv' := [(2, .int (x15 + (-1))), (0, .ref (ad (0, i))), (1, .int x1)]) hx hb dX4_put_56 hl (k := 2) rfl rfl (by decide) rfl (fun ls hl => ?_)
              refine lv_goto (tgt := 26) hx hb dX4_put_59 (by decide) ?_
              exact ihg17 _ _ _ _ _ hX hS (lv_sub hl [1, 2, 0] rfl) hf
      exact Lg17 FU _ _ _ _ _ hX hS (lv_sub hl [1, 2, 0] rfl) hf
    · have hf := it_f c14 hf
      cases hf
      exact Ct_rv hx hb hr hlk hX hS dX4_put_20

set_option maxRecDepth 100000 in
set_option maxHeartbeats 4000000 in
theorem c_d2_show {l : Launch} {D : va_G} {cA : Nat → ClassId} {A : Nat → Prop} {ad : Cd → Nat} {L : List Cd} {G : Gt} {nt nv : Nat} (hG : WF L G nt nv) {v : Nat} (hv : v < nv) (hk : G v 6 = 1) {S : St} {S' : St} (hf : d2_show G nt nv v S = some S') : Ct l D cA A yX2_show cX2_show 2 none 2 0 0 [.ref (ad (4, v))] (DX D cA A ad L G S) none (DX D cA A ad L G S') := by
  refine Ct_of (by decide +kernel) (Nat.le_of_ble_eq_true rfl) ?_
  intro p e s m args below meth c ls hC hr hlk hnm hX hKX hl
  have hx := hC.1
  have hb := hC.2.1
  have hS : va_S A s.heap s.heap [] := va_S.rf
  have hl : lv_has ls 2 [(0, .ref (ad (4, v)))] := hl
  unfold d2_show at hf
  refine lv_aload_n hx hb dX2_show_0 rfl (lv_at hl 0 rfl) ?_
  refine dgetV (v := v) (k := 6) (x := .ref (ad (0, (22 + 2 * v)))) hx hb hC hKX.1 hX hG hv (by decide) a_726 (Or.inr a_727) rfl dX2_show_1 ?_
  obtain ⟨S13, hz11, hf⟩ := cb_e hf
  refine dVv (cd := (0, (22 + 2 * v))) (As := []) (rest := []) hC (c_d4_clear hG (hG.rs hv) hz11) q_d4_clear a_310 (Nat.le_of_ble_eq_true rfl) hX hKX (hG.rs hv).1 rfl rfl rfl hl.1 (Nat.le_of_ble_eq_true rfl) dX2_show_4 hS (fun H locs hX hS => ?_)
  refine lv_iconst (v := 0) hx hb dX2_show_7 (by decide) ?_
  refine lv_istore_n (lv' := [(1, .int 0), (0, .ref (ad (4, v)))]) hx hb dX2_show_8 rfl hl (by decide) rfl (fun ls hl => ?_)
  obtain ⟨g16, g160, g16s, hf⟩ := lp2_e hf
  have Lg16 : ∀ (n : Nat) (x14 : Int32) (S15 : St) (H : Heap) (locs : List Loc) (ls : Array Slot), DX D cA A ad L G S15 H → va_S A s.heap H locs → lv_has ls 2 [(0, .ref (ad (4, v))), (1, .int x14)] → g16 n x14 S15 = some S' → W p l e (RM 2 0 0) s m args below meth c H locs 0 0 (MQ below (CtQ A none (DX D cA A ad L G S')) args s 0 0 A) (F0 m 9 ls []) := by
    intro n
    induction n with
    | zero => intro x14 S15 H locs ls hX hS hl hf; rw [g160] at hf; cases hf
    | succ n ihg16 =>
      intro x14 S15 H locs ls hX hS hl hf
      rw [g16s] at hf
      refine lv_iload_n hx hb dX2_show_9 rfl (lv_at hl 1 rfl) ?_
      refine lv_aload_n hx hb dX2_show_10 rfl (lv_at hl 0 rfl) ?_
      refine dget (cd := (4, v)) (ci := 1) (C := RX2) (T := TX2) (N := 11) (v := .ref (ad (4, (vl G v)))) hx hb hC hKX.1 hX (hG.V hv) (dce_V1 hk) rfl inX2 8 (by decide) a_812 (Or.inl rfl) rfl dX2_show_11 ?_
      refine dgetV (v := (vl G v)) (k := 6) (x := .ref (ad (0, (22 + 2 * (vl G v))))) hx hb hC hKX.1 hX hG (hG.l hv (ne6_1 hk)) (by decide) a_732 (Or.inl rfl) rfl dX2_show_14 ?_
      obtain ⟨z17, hz17, hf⟩ := cb_e hf
      refine dVx (cd := (0, (22 + 2 * (vl G v)))) (As := []) (rest := [.int x14]) hC (c_d4_size hG (hG.rs (hG.l hv (ne6_1 hk))) hz17) q_d4_size a_314 (Nat.le_of_ble_eq_true rfl) hX hKX (hG.rs (hG.l hv (ne6_1 hk))).1 rfl rfl rfl hl.1 (Nat.le_of_ble_eq_true rfl) dX2_show_17 hS (fun H locs hX hS => ?_)
      refine lv_icmp_ge (tgt := 54) hx hb dX2_show_20 (by decide) (fun c19 => ?_) (fun c19 => ?_)
      · have hf := it_t c19 hf
        cases hf
        exact Ct_rv hx hb hr hlk hX hS dX2_show_54
      · have hf := it_f c19 hf
        refine lv_aload_n hx hb dX2_show_23 rfl (lv_at hl 0 rfl) ?_
        refine dgetV (v := v) (k := 6) (x := .ref (ad (0, (22 + 2 * v)))) hx hb hC hKX.1 hX hG hv (by decide) a_726 (Or.inr a_727) rfl dX2_show_24 ?_
        refine lv_aload_n hx hb dX2_show_27 rfl (lv_at hl 0 rfl) ?_
        refine dget (cd := (4, v)) (ci := 1) (C := RX2) (T := TX2) (N := 11) (v := .ref (ad (4, (vl G v)))) hx hb hC hKX.1 hX (hG.V hv) (dce_V1 hk) rfl inX2 8 (by decide) a_812 (Or.inl rfl) rfl dX2_show_28 ?_
        refine dgetV (v := (vl G v)) (k := 6) (x := .ref (ad (0, (22 + 2 * (vl G v))))) hx hb hC hKX.1 hX hG (hG.l hv (ne6_1 hk)) (by decide) a_732 (Or.inl rfl) rfl dX2_show_31 ?_
        refine lv_iload_n hx hb dX2_show_34 rfl (lv_at hl 1 rfl) ?_
        obtain ⟨z20, hz20, hf⟩ := cb_e hf
        refine dVx (cd := (0, (22 + 2 * (vl G v)))) (As := [.int x14]) (rest := [.ref (ad (0, (22 + 2 * v)))]) hC (c_d4_at hG (hG.rs (hG.l hv (ne6_1 hk))) hz20) q_d4_at a_315 (Nat.le_of_ble_eq_true rfl) hX hKX (hG.rs (hG.l hv (ne6_1 hk))).1 rfl rfl rfl hl.1 (Nat.le_of_ble_eq_true rfl) dX2_show_35 hS (fun H locs hX hS => ?_)
        refine lv_aload_n hx hb dX2_show_38 rfl (lv_at hl 0 rfl) ?_
        refine dgetV (v := v) (k := 1) (x := .int (G v 1)) hx hb hC hKX.1 hX hG hv (by decide) a_704 (Or.inr a_705) rfl dX2_show_39 ?_
        obtain ⟨z22, hz22, hf⟩ := cb_e hf
        refine dSx (As := [.int z20, .int (G v 1)]) (rest := [.ref (ad (0, (22 + 2 * v)))]) hC (c_d1_part hG hz22) q_d1_part a_787 (Nat.le_of_ble_eq_true rfl) hX hKX rfl hl.1 (Nat.le_of_ble_eq_true rfl) dX2_show_42 hS (fun H locs hX hS => ?_)
        obtain ⟨S26, hz24, hf⟩ := cb_e hf
        refine dVv (cd := (0, (22 + 2 * v))) (As := [.int z22]) (rest := []) hC (c_d4_put hG (hG.rs hv) hz24) q_d4_put a_334 (Nat.le_of_ble_eq_true rfl) hX hKX (hG.rs hv).1 rfl rfl rfl hl.1 (Nat.le_of_ble_eq_true rfl) dX2_show_45 hS (fun H locs hX hS => ?_)
        refine lv_iinc (v := (x14 + 1)) (lv' := [(1, .int (x14 + 1)), (0, .ref (ad (4, v)))]) hx hb dX2_show_48 hl (k := 1) rfl rfl (by decide) rfl (fun ls hl => ?_)
        refine lv_goto (tgt := 9) hx hb dX2_show_51 (by decide) ?_
        exact ihg16 _ _ _ _ _ hX hS (lv_sub hl [1, 0] rfl) hf
  exact Lg16 FU _ _ _ _ _ hX hS (lv_sub hl [1, 0] rfl) hf

theorem q_d1_alike : VWs yX1_alike cX1_alike 6 (some .boolean) 3 := ⟨a_274, a_27, a_273, by decide +kernel, Nat.le_of_ble_eq_true rfl⟩
set_option maxRecDepth 100000 in
set_option maxHeartbeats 4000000 in
theorem c_d1_alike {l : Launch} {D : va_G} {cA : Nat → ClassId} {A : Nat → Prop} {ad : Cd → Nat} {L : List Cd} {G : Gt} {nt nv : Nat} (hG : WF L G nt nv) {x1 : Int32} {x2 : Int32} {x3 : Int32} {S : St} {r : Int32} (hf : d1_alike x1 x2 x3 = some r) : Ct l D cA A yX1_alike cX1_alike 6 (some .boolean) 0 0 0 [.int x1, .int x2, .int x3] (DX D cA A ad L G S) (some (.int r)) (DX D cA A ad L G S) := by
  refine Ct_of (by decide +kernel) (Nat.le_of_ble_eq_true rfl) ?_
  intro p e s m args below meth c ls hC hr hlk hnm hX hKX hl
  have hx := hC.1
  have hb := hC.2.1
  have hS : va_S A s.heap s.heap [] := va_S.rf
  have hl : lv_has ls 6 [(0, .int x1), (1, .int x2), (2, .int x3)] := hl
  unfold d1_alike at hf
  refine lv_iload_n hx hb dX1_alike_0 rfl (lv_at hl 0 rfl) ?_
  refine lv_istore_n (lv' := [(3, .int x1), (0, .int x1), (1, .int x2), (2, .int x3)]) hx hb dX1_alike_1 rfl hl (by decide) rfl (fun ls hl => ?_)
  refine lv_iload_n hx hb dX1_alike_2 rfl (lv_at hl 2 rfl) ?_
  refine lv_istore (lv' := [(4, .int x2), (3, .int x1), (0, .int x1), (1, .int x2), (2, .int x3)]) hx hb dX1_alike_3 hl (by decide) rfl (fun ls hl => ?_)
  refine lv_iconst (v := 0) hx hb dX1_alike_5 (by decide) ?_
  refine lv_istore (lv' := [(5, .int 0), (4, .int x2), (3, .int x1), (0, .int x1), (1, .int x2), (2, .int x3)]) hx hb dX1_alike_6 hl (by decide) rfl (fun ls hl => ?_)
  obtain ⟨g14, g140, g14s, hf⟩ := lp3_e hf
  have Lg14 : ∀ (n : Nat) (x11 : Int32) (x12 : Int32) (x13 : Int32) (H : Heap) (locs : List Loc) (ls : Array Slot), DX D cA A ad L G S H → va_S A s.heap H locs → lv_has ls 6 [(2, .int x3), (3, .int x11), (4, .int x12), (5, .int x13)] → g14 n x11 x12 x13 = some r → W p l e (RM 0 0 0) s m args below meth c H locs 0 0 (MQ below (CtQ A (some (.int r)) (DX D cA A ad L G S)) args s 0 0 A) (F0 m 8 ls []) := by
    intro n
    induction n with
    | zero => intro x11 x12 x13 H locs ls hX hS hl hf; rw [g140] at hf; cases hf
    | succ n ihg14 =>
      intro x11 x12 x13 H locs ls hX hS hl hf
      rw [g14s] at hf
      refine lv_iload hx hb dX1_alike_8 (lv_at hl 3 rfl) ?_
      refine lv_bipush (v := 6) hx hb dX1_alike_10 (by decide) ?_
      refine lv_icmp_ge (tgt := 63) hx hb dX1_alike_12 (by decide) (fun c15 => ?_) (fun c15 => ?_)
      · have hf := it_t c15 hf
        refine lv_iconst (v := 1) hx hb dX1_alike_63 (by decide) ?_
        cases hf
        exact Ct_rz hx hb hr hlk nz1 hX hS dX1_alike_64
      · have hf := it_f c15 hf
        refine lv_iload_n hx hb dX1_alike_15 rfl (lv_at hl 1 rfl) ?_
        refine lv_iload hx hb dX1_alike_16 (lv_at hl 2 rfl) ?_
        refine lv_icmp_eq (tgt := 63) hx hb dX1_alike_18 (by decide) (fun c16 => ?_) (fun c16 => ?_)
        · have hf := it_t c16 hf
          refine lv_iconst (v := 1) hx hb dX1_alike_63 (by decide) ?_
          cases hf
          exact Ct_rz hx hb hr hlk nz1 hX hS dX1_alike_64
        · have hf := it_f c16 hf
          refine lv_iload_n hx hb dX1_alike_21 rfl (lv_at hl 0 rfl) ?_
          refine lv_iload hx hb dX1_alike_22 (lv_at hl 3 rfl) ?_
          refine lv_ishr hx hb dX1_alike_24 ?_
          refine lv_iconst (v := 1) hx hb dX1_alike_25 (by decide) ?_
          refine lv_iand hx hb dX1_alike_26 ?_
          refine lv_iconst (v := 1) hx hb dX1_alike_27 (by decide) ?_
          obtain ⟨k17, hk17, hf⟩ := jn0_e hf
          have Jk17 : ∀  (H : Heap) (locs : List Loc) (ls : Array Slot), DX D cA A ad L G S H → va_S A s.heap H locs → lv_has ls 6 [(2, .int x3), (3, .int x11), (4, .int x12), (5, .int x13)] → k17 = some r → W p l e (RM 0 0 0) s m args below meth c H locs 0 0 (MQ below (CtQ A (some (.int r)) (DX D cA A ad L G S)) args s 0 0 A) (F0 m 45 ls []) := by
            intro  H locs ls hX hS hl hf
            rw [hk17] at hf
            refine lv_iload_n hx hb dX1_alike_45 rfl (lv_at hl 1 rfl) ?_
            refine lv_bipush (v := 10) hx hb dX1_alike_46 (by decide) ?_
            have h18 : ¬ (10 : Int32) = 0 := by decide
            refine lv_idiv hx hb dX1_alike_48 h18 ?_
            refine lv_istore_n (lv' := [(3, .int (x11 / 10)), (2, .int x3), (4, .int x12), (5, .int x13)]) hx hb dX1_alike_49 rfl hl (by decide) rfl (fun ls hl => ?_)
            refine lv_iload hx hb dX1_alike_50 (lv_at hl 2 rfl) ?_
            refine lv_bipush (v := 10) hx hb dX1_alike_52 (by decide) ?_
            have h19 : ¬ (10 : Int32) = 0 := by decide
            refine lv_idiv hx hb dX1_alike_54 h19 ?_
            refine lv_istore (lv' := [(4, .int (x12 / 10)), (3, .int (x11 / 10)), (2, .int x3), (5, .int x13)]) hx hb dX1_alike_55 hl (by decide) rfl (fun ls hl => ?_)
            refine lv_iinc (v := (x13 + 1)) (lv' := [(5, .int (x13 + 1)), (4, .int (x12 / 10)), (3, .int (x11 / 10)), (2, .int x3)]) hx hb dX1_alike_57 hl (k := 3) rfl rfl (by decide) rfl (fun ls hl => ?_)
            refine lv_goto (tgt := 8) hx hb dX1_alike_60 (by decide) ?_
            exact ihg14 _ _ _ _ _ _ hX hS (lv_sub hl [3, 2, 1, 0] rfl) hf
          refine lv_icmp_ne (tgt := 45) hx hb dX1_alike_28 (by decide) (fun c20 => ?_) (fun c20 => ?_)
          · have hf := it_f c20 hf
            exact Jk17 _ _ _ hX hS (lv_sub hl [0, 1, 2, 3] rfl) hf
          · have hf := it_t c20 hf
            refine lv_iload_n hx hb dX1_alike_31 rfl (lv_at hl 1 rfl) ?_
            refine lv_bipush (v := 10) hx hb dX1_alike_32 (by decide) ?_
            have h21 : ¬ (10 : Int32) = 0 := by decide
            refine lv_irem hx hb dX1_alike_34 h21 ?_
            refine lv_iload hx hb dX1_alike_35 (lv_at hl 2 rfl) ?_
            refine lv_bipush (v := 10) hx hb dX1_alike_37 (by decide) ?_
            have h22 : ¬ (10 : Int32) = 0 := by decide
            refine lv_irem hx hb dX1_alike_39 h22 ?_
            refine lv_icmp_eq (tgt := 45) hx hb dX1_alike_40 (by decide) (fun c23 => ?_) (fun c23 => ?_)
            · have hf := it_t c23 hf
              exact Jk17 _ _ _ hX hS (lv_sub hl [0, 1, 2, 3] rfl) hf
            · have hf := it_f c23 hf
              refine lv_iconst (v := 0) hx hb dX1_alike_43 (by decide) ?_
              cases hf
              exact Ct_rz hx hb hr hlk nz0 hX hS dX1_alike_44
  exact Lg14 FU _ _ _ _ _ _ hX hS (lv_sub hl [5, 2, 1, 0] rfl) hf

theorem q_d4_firstLike : VWv RX4 yX4_firstLike cX4_firstLike 4 (some .int) 2 := ⟨a_324, a_17, a_322, a_323, by decide +kernel, Nat.le_of_ble_eq_true rfl⟩
set_option maxRecDepth 100000 in
set_option maxHeartbeats 4000000 in
theorem c_d4_firstLike {l : Launch} {D : va_G} {cA : Nat → ClassId} {A : Nat → Prop} {ad : Cd → Nat} {L : List Cd} {G : Gt} {nt nv : Nat} (hG : WF L G nt nv) {i : Nat} (hi : okR L i) {x1 : Int32} {x2 : Int32} {S : St} {r : Int32} (hf : d4_firstLike i x1 x2 S = some r) : Ct l D cA A yX4_firstLike cX4_firstLike 4 (some .int) 1 0 0 [.ref (ad (0, i)), .int x1, .int x2] (DX D cA A ad L G S) (some (.int r)) (DX D cA A ad L G S) := by
  refine Ct_of (by decide +kernel) (Nat.le_of_ble_eq_true rfl) ?_
  intro p e s m args below meth c ls hC hr hlk hnm hX hKX hl
  have hx := hC.1
  have hb := hC.2.1
  have hS : va_S A s.heap s.heap [] := va_S.rf
  have hl : lv_has ls 4 [(0, .ref (ad (0, i))), (1, .int x1), (2, .int x2)] := hl
  unfold d4_firstLike at hf
  refine lv_iconst (v := 0) hx hb dX4_firstLike_0 (by decide) ?_
  refine lv_istore_n (lv' := [(3, .int 0), (0, .ref (ad (0, i))), (1, .int x1), (2, .int x2)]) hx hb dX4_firstLike_1 rfl hl (by decide) rfl (fun ls hl => ?_)
  obtain ⟨g12, g120, g12s, hf⟩ := lp1_e hf
  have Lg12 : ∀ (n : Nat) (x11 : Int32) (H : Heap) (locs : List Loc) (ls : Array Slot), DX D cA A ad L G S H → va_S A s.heap H locs → lv_has ls 4 [(0, .ref (ad (0, i))), (1, .int x1), (2, .int x2), (3, .int x11)] → g12 n x11 = some r → W p l e (RM 1 0 0) s m args below meth c H locs 0 0 (MQ below (CtQ A (some (.int r)) (DX D cA A ad L G S)) args s 0 0 A) (F0 m 2 ls []) := by
    intro n
    induction n with
    | zero => intro x11 H locs ls hX hS hl hf; rw [g120] at hf; cases hf
    | succ n ihg12 =>
      intro x11 H locs ls hX hS hl hf
      rw [g12s] at hf
      refine lv_iload_n hx hb dX4_firstLike_2 rfl (lv_at hl 3 rfl) ?_
      refine lv_aload_n hx hb dX4_firstLike_3 rfl (lv_at hl 0 rfl) ?_
      refine dget (cd := (0, i)) (ci := 3) (C := RX4) (T := TX4) (N := 2) (v := .int (S.1 i)) hx hb hC hKX.1 hX hi.1 rfl rfl inX4 1 (by decide) a_55 (Or.inl rfl) rfl dX4_firstLike_4 ?_
      refine lv_icmp_ge (tgt := 35) hx hb dX4_firstLike_7 (by decide) (fun c13 => ?_) (fun c13 => ?_)
      · have hf := it_t c13 hf
        refine lv_iconst (v := (-1)) hx hb dX4_firstLike_35 (by decide) ?_
        cases hf
        exact Ct_ri hx hb hr hlk hX hS dX4_firstLike_36
      · have hf := it_f c13 hf
        refine lv_aload_n hx hb dX4_firstLike_10 rfl (lv_at hl 0 rfl) ?_
        refine lv_iload_n hx hb dX4_firstLike_11 rfl (lv_at hl 3 rfl) ?_
        obtain ⟨z14, hz14, hf⟩ := cb_e hf
        refine dVx (cd := (0, i)) (As := [.int x11]) (rest := []) hC (c_d4_at hG hi hz14) q_d4_at a_236 (Nat.le_of_ble_eq_true rfl) hX hKX hi.1 rfl rfl rfl hl.1 (Nat.le_of_ble_eq_true rfl) dX4_firstLike_12 hS (fun H locs hX hS => ?_)
        refine lv_iload_n hx hb dX4_firstLike_15 rfl (lv_at hl 1 rfl) ?_
        refine lv_iload_n hx hb dX4_firstLike_16 rfl (lv_at hl 2 rfl) ?_
        obtain ⟨z16, hz16, hf⟩ := cb_e hf
        refine dSx (As := [.int z14, .int x1, .int x2]) (rest := []) hC (c_d1_alike hG hz16) q_d1_alike a_325 (Nat.le_of_ble_eq_true rfl) hX hKX rfl hl.1 (Nat.le_of_ble_eq_true rfl) dX4_firstLike_17 hS (fun H locs hX hS => ?_)
        refine lv_if_eq (tgt := 29) hx hb dX4_firstLike_20 (by decide) (fun c18 => ?_) (fun c18 => ?_)
        · have hf := it_t c18 hf
          refine lv_iinc (v := (x11 + 1)) (lv' := [(3, .int (x11 + 1)), (0, .ref (ad (0, i))), (1, .int x1), (2, .int x2)]) hx hb dX4_firstLike_29 hl (k := 3) rfl rfl (by decide) rfl (fun ls hl => ?_)
          refine lv_goto (tgt := 2) hx hb dX4_firstLike_32 (by decide) ?_
          exact ihg12 _ _ _ _ hX hS (lv_sub hl [1, 2, 3, 0] rfl) hf
        · have hf := it_f c18 hf
          refine lv_aload_n hx hb dX4_firstLike_23 rfl (lv_at hl 0 rfl) ?_
          refine lv_iload_n hx hb dX4_firstLike_24 rfl (lv_at hl 3 rfl) ?_
          obtain ⟨z19, hz19, hf⟩ := cb_e hf
          refine dVx (cd := (0, i)) (As := [.int x11]) (rest := []) hC (c_d4_at hG hi hz19) q_d4_at a_236 (Nat.le_of_ble_eq_true rfl) hX hKX hi.1 rfl rfl rfl hl.1 (Nat.le_of_ble_eq_true rfl) dX4_firstLike_25 hS (fun H locs hX hS => ?_)
          cases hf
          exact Ct_ri hx hb hr hlk hX hS dX4_firstLike_28
  exact Lg12 FU _ _ _ _ hX hS (lv_sub hl [1, 2, 3, 0] rfl) hf

set_option maxRecDepth 100000 in
set_option maxHeartbeats 4000000 in
theorem c_d3_show {l : Launch} {D : va_G} {cA : Nat → ClassId} {A : Nat → Prop} {ad : Cd → Nat} {L : List Cd} {G : Gt} {nt nv : Nat} (hG : WF L G nt nv) {v : Nat} (hv : v < nv) (hk : G v 6 = 2) {S : St} {S' : St} (hf : d3_show G nt nv v S = some S') : Ct l D cA A yX3_show cX3_show 4 none 2 0 0 [.ref (ad (4, v))] (DX D cA A ad L G S) none (DX D cA A ad L G S') := by
  refine Ct_of (by decide +kernel) (Nat.le_of_ble_eq_true rfl) ?_
  intro p e s m args below meth c ls hC hr hlk hnm hX hKX hl
  have hx := hC.1
  have hb := hC.2.1
  have hS : va_S A s.heap s.heap [] := va_S.rf
  have hl : lv_has ls 4 [(0, .ref (ad (4, v)))] := hl
  unfold d3_show at hf
  refine lv_aload_n hx hb dX3_show_0 rfl (lv_at hl 0 rfl) ?_
  refine dgetV (v := v) (k := 6) (x := .ref (ad (0, (22 + 2 * v)))) hx hb hC hKX.1 hX hG hv (by decide) a_728 (Or.inr a_729) rfl dX3_show_1 ?_
  obtain ⟨S13, hz11, hf⟩ := cb_e hf
  refine dVv (cd := (0, (22 + 2 * v))) (As := []) (rest := []) hC (c_d4_clear hG (hG.rs hv) hz11) q_d4_clear a_791 (Nat.le_of_ble_eq_true rfl) hX hKX (hG.rs hv).1 rfl rfl rfl hl.1 (Nat.le_of_ble_eq_true rfl) dX3_show_4 hS (fun H locs hX hS => ?_)
  refine lv_iconst (v := 0) hx hb dX3_show_7 (by decide) ?_
  refine lv_istore_n (lv' := [(1, .int 0), (0, .ref (ad (4, v)))]) hx hb dX3_show_8 rfl hl (by decide) rfl (fun ls hl => ?_)
  obtain ⟨g16, g160, g16s, hf⟩ := lp2_e hf
  have Lg16 : ∀ (n : Nat) (x14 : Int32) (S15 : St) (H : Heap) (locs : List Loc) (ls : Array Slot), DX D cA A ad L G S15 H → va_S A s.heap H locs → lv_has ls 4 [(0, .ref (ad (4, v))), (1, .int x14)] → g16 n x14 S15 = some S' → W p l e (RM 2 0 0) s m args below meth c H locs 0 0 (MQ below (CtQ A none (DX D cA A ad L G S')) args s 0 0 A) (F0 m 9 ls []) := by
    intro n
    induction n with
    | zero => intro x14 S15 H locs ls hX hS hl hf; rw [g160] at hf; cases hf
    | succ n ihg16 =>
      intro x14 S15 H locs ls hX hS hl hf
      rw [g16s] at hf
      refine lv_iload_n hx hb dX3_show_9 rfl (lv_at hl 1 rfl) ?_
      refine lv_aload_n hx hb dX3_show_10 rfl (lv_at hl 0 rfl) ?_
      refine dget (cd := (4, v)) (ci := 2) (C := RX3) (T := TX3) (N := 11) (v := .ref (ad (4, (vl G v)))) hx hb hC hKX.1 hX (hG.V hv) (dce_V2 hk) rfl inX3 8 (by decide) a_844 (Or.inl rfl) rfl dX3_show_11 ?_
      refine dgetV (v := (vl G v)) (k := 6) (x := .ref (ad (0, (22 + 2 * (vl G v))))) hx hb hC hKX.1 hX hG (hG.l hv (ne6_2 hk)) (by decide) a_733 (Or.inl rfl) rfl dX3_show_14 ?_
      obtain ⟨z17, hz17, hf⟩ := cb_e hf
      refine dVx (cd := (0, (22 + 2 * (vl G v)))) (As := []) (rest := [.int x14]) hC (c_d4_size hG (hG.rs (hG.l hv (ne6_2 hk))) hz17) q_d4_size a_363 (Nat.le_of_ble_eq_true rfl) hX hKX (hG.rs (hG.l hv (ne6_2 hk))).1 rfl rfl rfl hl.1 (Nat.le_of_ble_eq_true rfl) dX3_show_17 hS (fun H locs hX hS => ?_)
      refine lv_icmp_ge (tgt := 92) hx hb dX3_show_20 (by decide) (fun c19 => ?_) (fun c19 => ?_)
      · have hf := it_t c19 hf
        cases hf
        exact Ct_rv hx hb hr hlk hX hS dX3_show_92
      · have hf := it_f c19 hf
        refine lv_aload_n hx hb dX3_show_23 rfl (lv_at hl 0 rfl) ?_
        refine dget (cd := (4, v)) (ci := 2) (C := RX3) (T := TX3) (N := 11) (v := .ref (ad (4, (vl G v)))) hx hb hC hKX.1 hX (hG.V hv) (dce_V2 hk) rfl inX3 8 (by decide) a_844 (Or.inl rfl) rfl dX3_show_24 ?_
        refine dgetV (v := (vl G v)) (k := 6) (x := .ref (ad (0, (22 + 2 * (vl G v))))) hx hb hC hKX.1 hX hG (hG.l hv (ne6_2 hk)) (by decide) a_733 (Or.inl rfl) rfl dX3_show_27 ?_
        refine lv_iload_n hx hb dX3_show_30 rfl (lv_at hl 1 rfl) ?_
        obtain ⟨z20, hz20, hf⟩ := cb_e hf
        refine dVx (cd := (0, (22 + 2 * (vl G v)))) (As := [.int x14]) (rest := []) hC (c_d4_at hG (hG.rs (hG.l hv (ne6_2 hk))) hz20) q_d4_at a_364 (Nat.le_of_ble_eq_true rfl) hX hKX (hG.rs (hG.l hv (ne6_2 hk))).1 rfl rfl rfl hl.1 (Nat.le_of_ble_eq_true rfl) dX3_show_31 hS (fun H locs hX hS => ?_)
        refine lv_istore_n (lv' := [(2, .int z20), (0, .ref (ad (4, v))), (1, .int x14)]) hx hb dX3_show_34 rfl hl (by decide) rfl (fun ls hl => ?_)
        refine lv_aload_n hx hb dX3_show_35 rfl (lv_at hl 1 rfl) ?_
        refine dget (cd := (4, v)) (ci := 2) (C := RX3) (T := TX3) (N := 11) (v := .ref (ad (4, (vr G v)))) hx hb hC hKX.1 hX (hG.V hv) (dce_V2 hk) rfl inX3 9 (by decide) a_845 (Or.inl rfl) rfl dX3_show_36 ?_
        refine dgetV (v := (vr G v)) (k := 6) (x := .ref (ad (0, (22 + 2 * (vr G v))))) hx hb hC hKX.1 hX hG (hG.r hv hk) (by decide) a_733 (Or.inl rfl) rfl dX3_show_39 ?_
        refine lv_iload_n hx hb dX3_show_42 rfl (lv_at hl 0 rfl) ?_
        refine lv_aload_n hx hb dX3_show_43 rfl (lv_at hl 1 rfl) ?_
        refine dget (cd := (4, v)) (ci := 2) (C := RX3) (T := TX3) (N := 11) (v := .int (G v 10)) hx hb hC hKX.1 hX (hG.V hv) (dce_V2 hk) rfl inX3 10 (by decide) a_846 (Or.inl rfl) rfl dX3_show_44 ?_
        obtain ⟨z22, hz22, hf⟩ := cb_e hf
        refine dVx (cd := (0, (22 + 2 * (vr G v)))) (As := [.int z20, .int (G v 10)]) (rest := []) hC (c_d4_firstLike hG (hG.rs (hG.r hv hk)) hz22) q_d4_firstLike a_375 (Nat.le_of_ble_eq_true rfl) hX hKX (hG.rs (hG.r hv hk)).1 rfl rfl rfl hl.1 (Nat.le_of_ble_eq_true rfl) dX3_show_47 hS (fun H locs hX hS => ?_)
        refine lv_istore_n (lv' := [(3, .int z22), (2, .int z20), (0, .ref (ad (4, v))), (1, .int x14)]) hx hb dX3_show_50 rfl hl (by decide) rfl (fun ls hl => ?_)
        refine lv_iload_n hx hb dX3_show_51 rfl (lv_at hl 0 rfl) ?_
        refine lv_iconst (v := (-1)) hx hb dX3_show_52 (by decide) ?_
        refine lv_icmp_eq (tgt := 86) hx hb dX3_show_53 (by decide) (fun c24 => ?_) (fun c24 => ?_)
        · have hf := it_t c24 hf
          refine lv_iinc (v := (x14 + 1)) (lv' := [(1, .int (x14 + 1)), (3, .int z22), (2, .int z20), (0, .ref (ad (4, v)))]) hx hb dX3_show_86 hl (k := 3) rfl rfl (by decide) rfl (fun ls hl => ?_)
          refine lv_goto (tgt := 9) hx hb dX3_show_89 (by decide) ?_
          exact ihg16 _ _ _ _ _ hX hS (lv_sub hl [3, 0] rfl) hf
        · have hf := it_f c24 hf
          refine lv_aload_n hx hb dX3_show_56 rfl (lv_at hl 2 rfl) ?_
          refine dgetV (v := v) (k := 6) (x := .ref (ad (0, (22 + 2 * v)))) hx hb hC hKX.1 hX hG hv (by decide) a_728 (Or.inr a_729) rfl dX3_show_57 ?_
          refine lv_iload_n hx hb dX3_show_60 rfl (lv_at hl 1 rfl) ?_
          refine lv_iload_n hx hb dX3_show_61 rfl (lv_at hl 0 rfl) ?_
          refine lv_aload_n hx hb dX3_show_62 rfl (lv_at hl 2 rfl) ?_
          refine dget (cd := (4, v)) (ci := 2) (C := RX3) (T := TX3) (N := 11) (v := .ref (ad (4, (vr G v)))) hx hb hC hKX.1 hX (hG.V hv) (dce_V2 hk) rfl inX3 9 (by decide) a_845 (Or.inl rfl) rfl dX3_show_63 ?_
          refine dgetV (v := (vr G v)) (k := 1) (x := .int (G (vr G v) 1)) hx hb hC hKX.1 hX hG (hG.r hv hk) (by decide) a_702 (Or.inl rfl) rfl dX3_show_66 ?_
          refine lv_aload_n hx hb dX3_show_69 rfl (lv_at hl 2 rfl) ?_
          refine dget (cd := (4, v)) (ci := 2) (C := RX3) (T := TX3) (N := 11) (v := .ref (ad (4, (vl G v)))) hx hb hC hKX.1 hX (hG.V hv) (dce_V2 hk) rfl inX3 8 (by decide) a_844 (Or.inl rfl) rfl dX3_show_70 ?_
          refine dgetV (v := (vl G v)) (k := 1) (x := .int (G (vl G v) 1)) hx hb hC hKX.1 hX hG (hG.l hv (ne6_2 hk)) (by decide) a_702 (Or.inl rfl) rfl dX3_show_73 ?_
          refine lv_iconst (v := (-1)) hx hb dX3_show_76 (by decide) ?_
          refine lv_ixor hx hb dX3_show_77 ?_
          refine lv_iand hx hb dX3_show_78 ?_
          obtain ⟨z25, hz25, hf⟩ := cb_e hf
          refine dSx (As := [.int z22, .int ((G (vr G v) 1) &&& ((G (vl G v) 1) ^^^ (-1)))]) (rest := [.int z20, .ref (ad (0, (22 + 2 * v)))]) hC (c_d1_part hG hz25) q_d1_part a_792 (Nat.le_of_ble_eq_true rfl) hX hKX rfl hl.1 (Nat.le_of_ble_eq_true rfl) dX3_show_79 hS (fun H locs hX hS => ?_)
          refine lv_iadd hx hb dX3_show_82 ?_
          obtain ⟨S29, hz27, hf⟩ := cb_e hf
          refine dVv (cd := (0, (22 + 2 * v))) (As := [.int (z20 + z25)]) (rest := []) hC (c_d4_put hG (hG.rs hv) hz27) q_d4_put a_374 (Nat.le_of_ble_eq_true rfl) hX hKX (hG.rs hv).1 rfl rfl rfl hl.1 (Nat.le_of_ble_eq_true rfl) dX3_show_83 hS (fun H locs hX hS => ?_)
          refine lv_iinc (v := (x14 + 1)) (lv' := [(1, .int (x14 + 1)), (3, .int z22), (2, .int z20), (0, .ref (ad (4, v)))]) hx hb dX3_show_86 hl (k := 3) rfl rfl (by decide) rfl (fun ls hl => ?_)
          refine lv_goto (tgt := 9) hx hb dX3_show_89 (by decide) ?_
          exact ihg16 _ _ _ _ _ hX hS (lv_sub hl [3, 0] rfl) hf
  exact Lg16 FU _ _ _ _ _ hX hS (lv_sub hl [1, 0] rfl) hf

theorem q_d1_digit : VWs yX1_digit cX1_digit 4 (some .int) 2 := ⟨a_297, a_27, a_296, by decide +kernel, Nat.le_of_ble_eq_true rfl⟩
set_option maxRecDepth 100000 in
set_option maxHeartbeats 4000000 in
theorem c_d1_digit {l : Launch} {D : va_G} {cA : Nat → ClassId} {A : Nat → Prop} {ad : Cd → Nat} {L : List Cd} {G : Gt} {nt nv : Nat} (hG : WF L G nt nv) {x1 : Int32} {x2 : Int32} {S : St} {r : Int32} (hf : d1_digit x1 x2 = some r) : Ct l D cA A yX1_digit cX1_digit 4 (some .int) 0 0 0 [.int x1, .int x2] (DX D cA A ad L G S) (some (.int r)) (DX D cA A ad L G S) := by
  refine Ct_of (by decide +kernel) (Nat.le_of_ble_eq_true rfl) ?_
  intro p e s m args below meth c ls hC hr hlk hnm hX hKX hl
  have hx := hC.1
  have hb := hC.2.1
  have hS : va_S A s.heap s.heap [] := va_S.rf
  have hl : lv_has ls 4 [(0, .int x1), (1, .int x2)] := hl
  unfold d1_digit at hf
  refine lv_iload_n hx hb dX1_digit_0 rfl (lv_at hl 0 rfl) ?_
  refine lv_istore_n (lv' := [(2, .int x1), (0, .int x1), (1, .int x2)]) hx hb dX1_digit_1 rfl hl (by decide) rfl (fun ls hl => ?_)
  refine lv_iconst (v := 0) hx hb dX1_digit_2 (by decide) ?_
  refine lv_istore_n (lv' := [(3, .int 0), (2, .int x1), (0, .int x1), (1, .int x2)]) hx hb dX1_digit_3 rfl hl (by decide) rfl (fun ls hl => ?_)
  obtain ⟨g13, g130, g13s, hf⟩ := lp2_e hf
  have Lg13 : ∀ (n : Nat) (x11 : Int32) (x12 : Int32) (H : Heap) (locs : List Loc) (ls : Array Slot), DX D cA A ad L G S H → va_S A s.heap H locs → lv_has ls 4 [(1, .int x2), (2, .int x11), (3, .int x12)] → g13 n x11 x12 = some r → W p l e (RM 0 0 0) s m args below meth c H locs 0 0 (MQ below (CtQ A (some (.int r)) (DX D cA A ad L G S)) args s 0 0 A) (F0 m 4 ls []) := by
    intro n
    induction n with
    | zero => intro x11 x12 H locs ls hX hS hl hf; rw [g130] at hf; cases hf
    | succ n ihg13 =>
      intro x11 x12 H locs ls hX hS hl hf
      rw [g13s] at hf
      refine lv_iload_n hx hb dX1_digit_4 rfl (lv_at hl 2 rfl) ?_
      refine lv_iload_n hx hb dX1_digit_5 rfl (lv_at hl 0 rfl) ?_
      refine lv_icmp_ge (tgt := 26) hx hb dX1_digit_6 (by decide) (fun c14 => ?_) (fun c14 => ?_)
      · have hf := it_t c14 hf
        refine lv_iload_n hx hb dX1_digit_26 rfl (lv_at hl 1 rfl) ?_
        refine lv_bipush (v := 10) hx hb dX1_digit_27 (by decide) ?_
        have h15 : ¬ (10 : Int32) = 0 := by decide
        refine lv_irem hx hb dX1_digit_29 h15 ?_
        cases hf
        exact Ct_ri hx hb hr hlk hX hS dX1_digit_30
      · have hf := it_f c14 hf
        refine lv_iload_n hx hb dX1_digit_9 rfl (lv_at hl 2 rfl) ?_
        refine lv_bipush (v := 6) hx hb dX1_digit_10 (by decide) ?_
        refine lv_icmp_ge (tgt := 26) hx hb dX1_digit_12 (by decide) (fun c16 => ?_) (fun c16 => ?_)
        · have hf := it_t c16 hf
          refine lv_iload_n hx hb dX1_digit_26 rfl (lv_at hl 1 rfl) ?_
          refine lv_bipush (v := 10) hx hb dX1_digit_27 (by decide) ?_
          have h17 : ¬ (10 : Int32) = 0 := by decide
          refine lv_irem hx hb dX1_digit_29 h17 ?_
          cases hf
          exact Ct_ri hx hb hr hlk hX hS dX1_digit_30
        · have hf := it_f c16 hf
          refine lv_iload_n hx hb dX1_digit_15 rfl (lv_at hl 1 rfl) ?_
          refine lv_bipush (v := 10) hx hb dX1_digit_16 (by decide) ?_
          have h18 : ¬ (10 : Int32) = 0 := by decide
          refine lv_idiv hx hb dX1_digit_18 h18 ?_
          refine lv_istore_n (lv' := [(2, .int (x11 / 10)), (1, .int x2), (3, .int x12)]) hx hb dX1_digit_19 rfl hl (by decide) rfl (fun ls hl => ?_)
          refine lv_iinc (v := (x12 + 1)) (lv' := [(3, .int (x12 + 1)), (2, .int (x11 / 10)), (1, .int x2)]) hx hb dX1_digit_20 hl (k := 2) rfl rfl (by decide) rfl (fun ls hl => ?_)
          refine lv_goto (tgt := 4) hx hb dX1_digit_23 (by decide) ?_
          exact ihg13 _ _ _ _ _ hX hS (lv_sub hl [2, 1, 0] rfl) hf
  exact Lg13 FU _ _ _ _ _ hX hS (lv_sub hl [3, 1, 0] rfl) hf

theorem q_d5_selects : VWv RX5 yX5_selects cX5_selects 2 (some .boolean) 1 := ⟨a_294, a_31, a_292, a_293, by decide +kernel, Nat.le_of_ble_eq_true rfl⟩
set_option maxRecDepth 100000 in
set_option maxHeartbeats 4000000 in
theorem c_d5_selects {l : Launch} {D : va_G} {cA : Nat → ClassId} {A : Nat → Prop} {ad : Cd → Nat} {L : List Cd} {G : Gt} {nt nv : Nat} (hG : WF L G nt nv) {v : Nat} (hv : v < nv) (hk : G v 6 = 4) {x1 : Int32} {S : St} {r : Int32} (hf : d5_selects G nt nv v x1 S = some r) : Ct l D cA A yX5_selects cX5_selects 2 (some .boolean) 1 0 0 [.ref (ad (4, v)), .int x1] (DX D cA A ad L G S) (some (.int r)) (DX D cA A ad L G S) := by
  refine Ct_of (by decide +kernel) (Nat.le_of_ble_eq_true rfl) ?_
  intro p e s m args below meth c ls hC hr hlk hnm hX hKX hl
  have hx := hC.1
  have hb := hC.2.1
  have hS : va_S A s.heap s.heap [] := va_S.rf
  have hl : lv_has ls 2 [(0, .ref (ad (4, v))), (1, .int x1)] := hl
  unfold d5_selects at hf
  refine lv_iload_n hx hb dX5_selects_0 rfl (lv_at hl 1 rfl) ?_
  refine lv_aload_n hx hb dX5_selects_1 rfl (lv_at hl 0 rfl) ?_
  refine dget (cd := (4, v)) (ci := 4) (C := RX5) (T := TX5) (N := 12) (v := .int (G v 7)) hx hb hC hKX.1 hX (hG.V hv) (dce_V4 hk) rfl inX5 9 (by decide) a_690 (Or.inl rfl) rfl dX5_selects_2 ?_
  obtain ⟨z11, hz11, hf⟩ := cb_e hf
  refine dSx (As := [.int x1, .int (G v 7)]) (rest := []) hC (c_d1_digit hG hz11) q_d1_digit a_295 (Nat.le_of_ble_eq_true rfl) hX hKX rfl hl.1 (Nat.le_of_ble_eq_true rfl) dX5_selects_5 hS (fun H locs hX hS => ?_)
  refine lv_aload_n hx hb dX5_selects_8 rfl (lv_at hl 0 rfl) ?_
  refine dget (cd := (4, v)) (ci := 4) (C := RX5) (T := TX5) (N := 12) (v := .int (G v 8)) hx hb hC hKX.1 hX (hG.V hv) (dce_V4 hk) rfl inX5 10 (by decide) a_691 (Or.inl rfl) rfl dX5_selects_9 ?_
  obtain ⟨k14, hk14, hf⟩ := jn1_e hf
  have Jk14 : ∀ (x13 : Int32) (H : Heap) (locs : List Loc) (ls : Array Slot), DX D cA A ad L G S H → va_S A s.heap H locs → lv_has ls 2 [(0, .ref (ad (4, v)))] → k14 x13 = some r → W p l e (RM 1 0 0) s m args below meth c H locs 0 0 (MQ below (CtQ A (some (.int r)) (DX D cA A ad L G S)) args s 0 0 A) (F0 m 20 ls [.int x13]) := by
    intro x13 H locs ls hX hS hl hf
    rw [hk14] at hf
    refine lv_aload_n hx hb dX5_selects_20 rfl (lv_at hl 0 rfl) ?_
    refine dget (cd := (4, v)) (ci := 4) (C := RX5) (T := TX5) (N := 12) (v := .int (G v 9)) hx hb hC hKX.1 hX (hG.V hv) (dce_V4 hk) rfl inX5 11 (by decide) a_692 (Or.inl rfl) rfl dX5_selects_21 ?_
    refine lv_icmp_ne (tgt := 31) hx hb dX5_selects_24 (by decide) (fun c15 => ?_) (fun c15 => ?_)
    · have hf := it_f c15 hf
      refine lv_iconst (v := 0) hx hb dX5_selects_31 (by decide) ?_
      cases hf
      exact Ct_rz hx hb hr hlk nz0 hX hS dX5_selects_32
    · have hf := it_t c15 hf
      refine lv_iconst (v := 1) hx hb dX5_selects_27 (by decide) ?_
      refine lv_goto (tgt := 32) hx hb dX5_selects_28 (by decide) ?_
      cases hf
      exact Ct_rz hx hb hr hlk nz1 hX hS dX5_selects_32
  refine lv_icmp_ne (tgt := 19) hx hb dX5_selects_12 (by decide) (fun c16 => ?_) (fun c16 => ?_)
  · have hf := it_f c16 hf
    refine lv_iconst (v := 0) hx hb dX5_selects_19 (by decide) ?_
    exact Jk14 _ _ _ _ hX hS (lv_sub hl [0] rfl) hf
  · have hf := it_t c16 hf
    refine lv_iconst (v := 1) hx hb dX5_selects_15 (by decide) ?_
    refine lv_goto (tgt := 20) hx hb dX5_selects_16 (by decide) ?_
    exact Jk14 _ _ _ _ hX hS (lv_sub hl [0] rfl) hf

set_option maxRecDepth 100000 in
set_option maxHeartbeats 4000000 in
theorem c_d5_show {l : Launch} {D : va_G} {cA : Nat → ClassId} {A : Nat → Prop} {ad : Cd → Nat} {L : List Cd} {G : Gt} {nt nv : Nat} (hG : WF L G nt nv) {v : Nat} (hv : v < nv) (hk : G v 6 = 4) {S : St} {S' : St} (hf : d5_show G nt nv v S = some S') : Ct l D cA A yX5_show cX5_show 3 none 2 0 0 [.ref (ad (4, v))] (DX D cA A ad L G S) none (DX D cA A ad L G S') := by
  refine Ct_of (by decide +kernel) (Nat.le_of_ble_eq_true rfl) ?_
  intro p e s m args below meth c ls hC hr hlk hnm hX hKX hl
  have hx := hC.1
  have hb := hC.2.1
  have hS : va_S A s.heap s.heap [] := va_S.rf
  have hl : lv_has ls 3 [(0, .ref (ad (4, v)))] := hl
  unfold d5_show at hf
  refine lv_aload_n hx hb dX5_show_0 rfl (lv_at hl 0 rfl) ?_
  refine dgetV (v := v) (k := 6) (x := .ref (ad (0, (22 + 2 * v)))) hx hb hC hKX.1 hX hG hv (by decide) a_734 (Or.inr a_735) rfl dX5_show_1 ?_
  obtain ⟨S13, hz11, hf⟩ := cb_e hf
  refine dVv (cd := (0, (22 + 2 * v))) (As := []) (rest := []) hC (c_d4_clear hG (hG.rs hv) hz11) q_d4_clear a_796 (Nat.le_of_ble_eq_true rfl) hX hKX (hG.rs hv).1 rfl rfl rfl hl.1 (Nat.le_of_ble_eq_true rfl) dX5_show_4 hS (fun H locs hX hS => ?_)
  refine lv_iconst (v := 0) hx hb dX5_show_7 (by decide) ?_
  refine lv_istore_n (lv' := [(1, .int 0), (0, .ref (ad (4, v)))]) hx hb dX5_show_8 rfl hl (by decide) rfl (fun ls hl => ?_)
  obtain ⟨g16, g160, g16s, hf⟩ := lp2_e hf
  have Lg16 : ∀ (n : Nat) (x14 : Int32) (S15 : St) (H : Heap) (locs : List Loc) (ls : Array Slot), DX D cA A ad L G S15 H → va_S A s.heap H locs → lv_has ls 3 [(0, .ref (ad (4, v))), (1, .int x14)] → g16 n x14 S15 = some S' → W p l e (RM 2 0 0) s m args below meth c H locs 0 0 (MQ below (CtQ A none (DX D cA A ad L G S')) args s 0 0 A) (F0 m 9 ls []) := by
    intro n
    induction n with
    | zero => intro x14 S15 H locs ls hX hS hl hf; rw [g160] at hf; cases hf
    | succ n ihg16 =>
      intro x14 S15 H locs ls hX hS hl hf
      rw [g16s] at hf
      refine lv_iload_n hx hb dX5_show_9 rfl (lv_at hl 1 rfl) ?_
      refine lv_aload_n hx hb dX5_show_10 rfl (lv_at hl 0 rfl) ?_
      refine dget (cd := (4, v)) (ci := 4) (C := RX5) (T := TX5) (N := 12) (v := .ref (ad (4, (vl G v)))) hx hb hC hKX.1 hX (hG.V hv) (dce_V4 hk) rfl inX5 8 (by decide) a_689 (Or.inl rfl) rfl dX5_show_11 ?_
      refine dgetV (v := (vl G v)) (k := 6) (x := .ref (ad (0, (22 + 2 * (vl G v))))) hx hb hC hKX.1 hX hG (hG.l hv (ne6_4 hk)) (by decide) a_736 (Or.inl rfl) rfl dX5_show_14 ?_
      obtain ⟨z17, hz17, hf⟩ := cb_e hf
      refine dVx (cd := (0, (22 + 2 * (vl G v)))) (As := []) (rest := [.int x14]) hC (c_d4_size hG (hG.rs (hG.l hv (ne6_4 hk))) hz17) q_d4_size a_289 (Nat.le_of_ble_eq_true rfl) hX hKX (hG.rs (hG.l hv (ne6_4 hk))).1 rfl rfl rfl hl.1 (Nat.le_of_ble_eq_true rfl) dX5_show_17 hS (fun H locs hX hS => ?_)
      refine lv_icmp_ge (tgt := 57) hx hb dX5_show_20 (by decide) (fun c19 => ?_) (fun c19 => ?_)
      · have hf := it_t c19 hf
        cases hf
        exact Ct_rv hx hb hr hlk hX hS dX5_show_57
      · have hf := it_f c19 hf
        refine lv_aload_n hx hb dX5_show_23 rfl (lv_at hl 0 rfl) ?_
        refine dget (cd := (4, v)) (ci := 4) (C := RX5) (T := TX5) (N := 12) (v := .ref (ad (4, (vl G v)))) hx hb hC hKX.1 hX (hG.V hv) (dce_V4 hk) rfl inX5 8 (by decide) a_689 (Or.inl rfl) rfl dX5_show_24 ?_
        refine dgetV (v := (vl G v)) (k := 6) (x := .ref (ad (0, (22 + 2 * (vl G v))))) hx hb hC hKX.1 hX hG (hG.l hv (ne6_4 hk)) (by decide) a_736 (Or.inl rfl) rfl dX5_show_27 ?_
        refine lv_iload_n hx hb dX5_show_30 rfl (lv_at hl 1 rfl) ?_
        obtain ⟨z20, hz20, hf⟩ := cb_e hf
        refine dVx (cd := (0, (22 + 2 * (vl G v)))) (As := [.int x14]) (rest := []) hC (c_d4_at hG (hG.rs (hG.l hv (ne6_4 hk))) hz20) q_d4_at a_290 (Nat.le_of_ble_eq_true rfl) hX hKX (hG.rs (hG.l hv (ne6_4 hk))).1 rfl rfl rfl hl.1 (Nat.le_of_ble_eq_true rfl) dX5_show_31 hS (fun H locs hX hS => ?_)
        refine lv_istore_n (lv' := [(2, .int z20), (0, .ref (ad (4, v))), (1, .int x14)]) hx hb dX5_show_34 rfl hl (by decide) rfl (fun ls hl => ?_)
        refine lv_aload_n hx hb dX5_show_35 rfl (lv_at hl 1 rfl) ?_
        refine lv_iload_n hx hb dX5_show_36 rfl (lv_at hl 0 rfl) ?_
        obtain ⟨z22, hz22, hf⟩ := cb_e hf
        refine dVx (cd := (4, v)) (As := [.int z20]) (rest := []) hC (c_d5_selects hG hv hk hz22) q_d5_selects a_291 (Nat.le_of_ble_eq_true rfl) hX hKX (hG.V hv) (dce_V4 hk) rfl rfl hl.1 (Nat.le_of_ble_eq_true rfl) dX5_show_37 hS (fun H locs hX hS => ?_)
        refine lv_if_eq (tgt := 51) hx hb dX5_show_40 (by decide) (fun c24 => ?_) (fun c24 => ?_)
        · have hf := it_t c24 hf
          refine lv_iinc (v := (x14 + 1)) (lv' := [(1, .int (x14 + 1)), (2, .int z20), (0, .ref (ad (4, v)))]) hx hb dX5_show_51 hl (k := 2) rfl rfl (by decide) rfl (fun ls hl => ?_)
          refine lv_goto (tgt := 9) hx hb dX5_show_54 (by decide) ?_
          exact ihg16 _ _ _ _ _ hX hS (lv_sub hl [2, 0] rfl) hf
        · have hf := it_f c24 hf
          refine lv_aload_n hx hb dX5_show_43 rfl (lv_at hl 1 rfl) ?_
          refine dgetV (v := v) (k := 6) (x := .ref (ad (0, (22 + 2 * v)))) hx hb hC hKX.1 hX hG hv (by decide) a_734 (Or.inr a_735) rfl dX5_show_44 ?_
          refine lv_iload_n hx hb dX5_show_47 rfl (lv_at hl 0 rfl) ?_
          obtain ⟨S27, hz25, hf⟩ := cb_e hf
          refine dVv (cd := (0, (22 + 2 * v))) (As := [.int z20]) (rest := []) hC (c_d4_put hG (hG.rs hv) hz25) q_d4_put a_384 (Nat.le_of_ble_eq_true rfl) hX hKX (hG.rs hv).1 rfl rfl rfl hl.1 (Nat.le_of_ble_eq_true rfl) dX5_show_48 hS (fun H locs hX hS => ?_)
          refine lv_iinc (v := (x14 + 1)) (lv' := [(1, .int (x14 + 1)), (2, .int z20), (0, .ref (ad (4, v)))]) hx hb dX5_show_51 hl (k := 2) rfl rfl (by decide) rfl (fun ls hl => ?_)
          refine lv_goto (tgt := 9) hx hb dX5_show_54 (by decide) ?_
          exact ihg16 _ _ _ _ _ hX hS (lv_sub hl [2, 0] rfl) hf
  exact Lg16 FU _ _ _ _ _ hX hS (lv_sub hl [1, 0] rfl) hf

theorem q_d4_takeOver : VWv RX4 yX4_takeOver cX4_takeOver 3 none 1 := ⟨a_232, a_17, a_230, a_231, by decide +kernel, Nat.le_of_ble_eq_true rfl⟩
set_option maxRecDepth 100000 in
set_option maxHeartbeats 4000000 in
theorem c_d4_takeOver {l : Launch} {D : va_G} {cA : Nat → ClassId} {A : Nat → Prop} {ad : Cd → Nat} {L : List Cd} {G : Gt} {nt nv : Nat} (hG : WF L G nt nv) {i : Nat} (hi : okR L i) {i1 : Nat} (hi1 : okR L i1) {S : St} {S' : St} (hf : d4_takeOver i i1 S = some S') : Ct l D cA A yX4_takeOver cX4_takeOver 3 none 1 0 0 [.ref (ad (0, i)), .ref (ad (0, i1))] (DX D cA A ad L G S) none (DX D cA A ad L G S') := by
  refine Ct_of (by decide +kernel) (Nat.le_of_ble_eq_true rfl) ?_
  intro p e s m args below meth c ls hC hr hlk hnm hX hKX hl
  have hx := hC.1
  have hb := hC.2.1
  have hS : va_S A s.heap s.heap [] := va_S.rf
  have hl : lv_has ls 3 [(0, .ref (ad (0, i))), (1, .ref (ad (0, i1)))] := hl
  unfold d4_takeOver at hf
  refine lv_aload_n hx hb dX4_takeOver_0 rfl (lv_at hl 0 rfl) ?_
  refine lv_aload_n hx hb dX4_takeOver_1 rfl (lv_at hl 1 rfl) ?_
  refine dget (cd := (0, i1)) (ci := 3) (C := RX4) (T := TX4) (N := 2) (v := .int (S.1 i1)) hx hb hC hKX.1 hX hi1.1 rfl rfl inX4 1 (by decide) a_55 (Or.inl rfl) rfl dX4_takeOver_2 ?_
  refine lv_aload_n hx hb dX4_takeOver_5 rfl (lv_at hl 0 rfl) ?_
  refine dget (cd := (0, i)) (ci := 3) (C := RX4) (T := TX4) (N := 2) (v := .ref (ad (1, i))) hx hb hC hKX.1 hX hi.1 rfl rfl inX4 0 (by decide) a_54 (Or.inl rfl) rfl dX4_takeOver_6 ?_
  refine dlen (cd := (1, i)) hx hb hKX.1 hX hi.2.1 rfl 0 rfl (v := (nI (dcap i))) rfl dX4_takeOver_9 ?_
  obtain ⟨z11, ez11, hf⟩ := lt_e hf
  refine va_mmin hx hb (hC.2.2.1.trans hl.1.symm) hC.2.2.2.1 (tA hC.2.2.2.2 amin_X4) (tA hC.2.2.2.2 amin_static) (tA hC.2.2.2.2 amin_init) (tA hC.2.2.2.2 amin_code) (Nat.le_of_ble_eq_true rfl) (Nat.le_of_ble_eq_true rfl) (Nat.zero_le _) (Nat.zero_le _) dX4_takeOver_10 ?_
  rw [← ez11]
  refine dput (cd := (0, i)) (ci := 3) (C := RX4) (T := TX4) (N := 2) (ty := .int) hx hb hC hKX.1 hX hS hi.1 rfl rfl inX4 tyX4 tyX4_ok nmX4 1 (by decide) a_55 rfl rfl (by decide +kernel) rfl rfl (Nat.le_of_ble_eq_true rfl) (dsetR hG hi.2.2) dX4_takeOver_13 (fun H locs hX hS => ?_)
  obtain ⟨S12, eS12, hf⟩ := lt_e hf
  rw [← eS12] at hX
  refine lv_iconst (v := 0) hx hb dX4_takeOver_16 (by decide) ?_
  refine lv_istore_n (lv' := [(2, .int 0), (0, .ref (ad (0, i))), (1, .ref (ad (0, i1)))]) hx hb dX4_takeOver_17 rfl hl (by decide) rfl (fun ls hl => ?_)
  obtain ⟨g15, g150, g15s, hf⟩ := lp2_e hf
  have Lg15 : ∀ (n : Nat) (x13 : Int32) (S14 : St) (H : Heap) (locs : List Loc) (ls : Array Slot), DX D cA A ad L G S14 H → va_S A s.heap H locs → lv_has ls 3 [(0, .ref (ad (0, i))), (1, .ref (ad (0, i1))), (2, .int x13)] → g15 n x13 S14 = some S' → W p l e (RM 1 0 0) s m args below meth c H locs 0 0 (MQ below (CtQ A none (DX D cA A ad L G S')) args s 0 0 A) (F0 m 18 ls []) := by
    intro n
    induction n with
    | zero => intro x13 S14 H locs ls hX hS hl hf; rw [g150] at hf; cases hf
    | succ n ihg15 =>
      intro x13 S14 H locs ls hX hS hl hf
      rw [g15s] at hf
      refine lv_iload_n hx hb dX4_takeOver_18 rfl (lv_at hl 2 rfl) ?_
      refine lv_aload_n hx hb dX4_takeOver_19 rfl (lv_at hl 0 rfl) ?_
      refine dget (cd := (0, i)) (ci := 3) (C := RX4) (T := TX4) (N := 2) (v := .int (S14.1 i)) hx hb hC hKX.1 hX hi.1 rfl rfl inX4 1 (by decide) a_55 (Or.inl rfl) rfl dX4_takeOver_20 ?_
      refine lv_icmp_ge (tgt := 43) hx hb dX4_takeOver_23 (by decide) (fun c16 => ?_) (fun c16 => ?_)
      · have hf := it_t c16 hf
        cases hf
        exact Ct_rv hx hb hr hlk hX hS dX4_takeOver_43
      · have hf := it_f c16 hf
        refine lv_aload_n hx hb dX4_takeOver_26 rfl (lv_at hl 0 rfl) ?_
        refine dget (cd := (0, i)) (ci := 3) (C := RX4) (T := TX4) (N := 2) (v := .ref (ad (1, i))) hx hb hC hKX.1 hX hi.1 rfl rfl inX4 0 (by decide) a_54 (Or.inl rfl) rfl dX4_takeOver_27 ?_
        refine lv_iload_n hx hb dX4_takeOver_30 rfl (lv_at hl 2 rfl) ?_
        refine lv_aload_n hx hb dX4_takeOver_31 rfl (lv_at hl 1 rfl) ?_
        refine lv_iload_n hx hb dX4_takeOver_32 rfl (lv_at hl 2 rfl) ?_
        obtain ⟨z17, hz17, hf⟩ := cb_e hf
        refine dVx (cd := (0, i1)) (As := [.int x13]) (rest := [.int x13, .ref (ad (1, i))]) hC (c_d4_at hG hi1 hz17) q_d4_at a_236 (Nat.le_of_ble_eq_true rfl) hX hKX hi1.1 rfl rfl rfl hl.1 (Nat.le_of_ble_eq_true rfl) dX4_takeOver_33 hS (fun H locs hX hS => ?_)
        obtain ⟨h20, j19, ej19, hf⟩ := rd_e hf
        refine dast (cd := (1, i)) hx hb hKX.1 hX hS hi.2.1 rfl (dsetA hG hi.2.2) h20 ej19 dX4_takeOver_36 (fun H locs hX hS => ?_)
        obtain ⟨S21, eS21, hf⟩ := lt_e hf
        rw [← eS21] at hX
        refine lv_iinc (v := (x13 + 1)) (lv' := [(2, .int (x13 + 1)), (0, .ref (ad (0, i))), (1, .ref (ad (0, i1)))]) hx hb dX4_takeOver_37 hl (k := 2) rfl rfl (by decide) rfl (fun ls hl => ?_)
        refine lv_goto (tgt := 18) hx hb dX4_takeOver_40 (by decide) ?_
        exact ihg15 _ _ _ _ _ hX hS (lv_sub hl [1, 2, 0] rfl) hf
  exact Lg15 FU _ _ _ _ _ hX hS (lv_sub hl [1, 2, 0] rfl) hf

set_option maxRecDepth 100000 in
set_option maxHeartbeats 4000000 in
theorem c_d7_show {l : Launch} {D : va_G} {cA : Nat → ClassId} {A : Nat → Prop} {ad : Cd → Nat} {L : List Cd} {G : Gt} {nt nv : Nat} (hG : WF L G nt nv) {v : Nat} (hv : v < nv) (hk : G v 6 = 6) {S : St} {S' : St} (hf : d7_show G nt nv v S = some S') : Ct l D cA A yX7_show cX7_show 1 none 2 0 0 [.ref (ad (4, v))] (DX D cA A ad L G S) none (DX D cA A ad L G S') := by
  refine Ct_of (by decide +kernel) (Nat.le_of_ble_eq_true rfl) ?_
  intro p e s m args below meth c ls hC hr hlk hnm hX hKX hl
  have hx := hC.1
  have hb := hC.2.1
  have hS : va_S A s.heap s.heap [] := va_S.rf
  have hl : lv_has ls 1 [(0, .ref (ad (4, v)))] := hl
  unfold d7_show at hf
  refine lv_aload_n hx hb dX7_show_0 rfl (lv_at hl 0 rfl) ?_
  refine dgetV (v := v) (k := 6) (x := .ref (ad (0, (22 + 2 * v)))) hx hb hC hKX.1 hX hG hv (by decide) a_730 (Or.inr a_731) rfl dX7_show_1 ?_
  refine lv_aload_n hx hb dX7_show_4 rfl (lv_at hl 0 rfl) ?_
  refine dget (cd := (4, v)) (ci := 6) (C := RX7) (T := TX7) (N := 9) (v := .ref (ad (2, (vt G v)))) hx hb hC hKX.1 hX (hG.V hv) (dce_V6 hk) rfl inX7 8 (by decide) a_876 (Or.inl rfl) rfl dX7_show_5 ?_
  refine dget (cd := (2, (vt G v))) (ci := 5) (C := RX6) (T := TX6) (N := 5) (v := .ref (ad (0, (1 + 7 * (vt G v))))) hx hb hC hKX.1 hX (hG.T (hG.T' hv hk).2) rfl rfl inX6 2 (by decide) a_917 (Or.inl rfl) rfl dX7_show_8 ?_
  obtain ⟨S13, hz11, hf⟩ := cb_e hf
  refine dVv (cd := (0, (22 + 2 * v))) (As := [.ref (ad (0, (1 + 7 * (vt G v))))]) (rest := []) hC (c_d4_takeOver hG (hG.rs hv) (hG.r1 (hG.T' hv hk).2) hz11) q_d4_takeOver a_388 (Nat.le_of_ble_eq_true rfl) hX hKX (hG.rs hv).1 rfl rfl rfl hl.1 (Nat.le_of_ble_eq_true rfl) dX7_show_11 hS (fun H locs hX hS => ?_)
  cases hf
  exact Ct_rv hx hb hr hlk hX hS dX7_show_14

theorem q_u_X2_X9_show : VWu RX2 "Lensbench$View" ⟨"Lensbench$View", "show", "()V"⟩ yX2_show cX2_show 2 none 0 := ⟨a_786, a_32, a_785, a_784, a_783, by decide +kernel, Nat.le_of_ble_eq_true rfl⟩

theorem q_u_X3_X9_show : VWu RX3 "Lensbench$View" ⟨"Lensbench$View", "show", "()V"⟩ yX3_show cX3_show 4 none 0 := ⟨a_790, a_33, a_789, a_788, a_783, by decide +kernel, Nat.le_of_ble_eq_true rfl⟩

theorem q_u_X5_X9_show : VWu RX5 "Lensbench$View" ⟨"Lensbench$View", "show", "()V"⟩ yX5_show cX5_show 3 none 0 := ⟨a_795, a_31, a_794, a_793, a_783, by decide +kernel, Nat.le_of_ble_eq_true rfl⟩

theorem q_u_X7_X9_show : VWu RX7 "Lensbench$View" ⟨"Lensbench$View", "show", "()V"⟩ yX7_show cX7_show 1 none 0 := ⟨a_799, a_34, a_798, a_797, a_783, by decide +kernel, Nat.le_of_ble_eq_true rfl⟩

theorem q_d10_keepView : VWv RX10 yX10_keepView cX10_keepView 2 (some .int) 1 := ⟨a_780, a_16, a_779, a_11, by decide +kernel, Nat.le_of_ble_eq_true rfl⟩
set_option maxRecDepth 100000 in
set_option maxHeartbeats 4000000 in
theorem c_d10_keepView {l : Launch} {D : va_G} {cA : Nat → ClassId} {A : Nat → Prop} {ad : Cd → Nat} {L : List Cd} {G : Gt} {nt nv : Nat} (hG : WF L G nt nv) {v1 : Nat} (hv1 : v1 < nv) {S : St} {r : Int32} {S' : St} (hf : d10_keepView G nt nv v1 S = some (r, S')) : Ct l D cA A yX10_keepView cX10_keepView 2 (some .int) 3 0 0 [.ref (ad (5, 0)), .ref (ad (4, v1))] (DX D cA A ad L G S) (some (.int r)) (DX D cA A ad L G S') := by
  refine Ct_of (by decide +kernel) (Nat.le_of_ble_eq_true rfl) ?_
  intro p e s m args below meth c ls hC hr hlk hnm hX hKX hl
  have hx := hC.1
  have hb := hC.2.1
  have hS : va_S A s.heap s.heap [] := va_S.rf
  have hl : lv_has ls 2 [(0, .ref (ad (5, 0))), (1, .ref (ad (4, v1)))] := hl
  unfold d10_keepView at hf
  refine lv_aload_n hx hb dX10_keepView_0 rfl (lv_at hl 1 rfl) ?_
  obtain ⟨S13, hz11, hf⟩ := cb_e hf
  have KK : ∀ (H : Heap) (locs : List Loc), DX D cA A ad L G S13 H → va_S A s.heap H locs → W p l e (RM 3 0 0) s m args below meth c H locs 0 0 (MQ below (CtQ A (some (.int r)) (DX D cA A ad L G S')) args s 0 0 A) (F0 m 4 ls []) := by
    intro H locs hX hS
    refine lv_aload_n hx hb dX10_keepView_4 rfl (lv_at hl 0 rfl) ?_
    refine dget (cd := (5, 0)) (ci := 8) (C := RX10) (T := TX10) (N := 9) (v := .int (S13.1 43)) hx hb hC hKX.1 hX (hG.F 0 (by decide)) rfl rfl inX10 3 (by decide) a_109 (Or.inl rfl) rfl dX10_keepView_5 ?_
    refine lv_if_lt (tgt := 43) hx hb dX10_keepView_8 (by decide) (fun c14 => ?_) (fun c14 => ?_)
    · have hf := it_t c14 hf
      refine lv_aload_n hx hb dX10_keepView_43 rfl (lv_at hl 1 rfl) ?_
      refine dgetV (v := v1) (k := 0) (x := .int (G v1 0)) hx hb hC hKX.1 hX hG hv1 (by decide) a_699 (Or.inl rfl) rfl dX10_keepView_44 ?_
      cases hf
      exact Ct_ri hx hb hr hlk hX hS dX10_keepView_47
    · have hf := it_f c14 hf
      refine lv_aload_n hx hb dX10_keepView_11 rfl (lv_at hl 0 rfl) ?_
      refine dget (cd := (5, 0)) (ci := 8) (C := RX10) (T := TX10) (N := 9) (v := .int (S13.1 43)) hx hb hC hKX.1 hX (hG.F 0 (by decide)) rfl rfl inX10 3 (by decide) a_109 (Or.inl rfl) rfl dX10_keepView_12 ?_
      refine lv_aload_n hx hb dX10_keepView_15 rfl (lv_at hl 0 rfl) ?_
      refine dget (cd := (5, 0)) (ci := 8) (C := RX10) (T := TX10) (N := 9) (v := .ref (ad (5, 2))) hx hb hC hKX.1 hX (hG.F 0 (by decide)) rfl rfl inX10 2 (by decide) a_108 (Or.inl rfl) rfl dX10_keepView_16 ?_
      refine dlen (cd := (5, 2)) hx hb hKX.1 hX (hG.F 2 (by decide)) rfl 4 rfl (v := 10) rfl dX10_keepView_19 ?_
      refine lv_icmp_ge (tgt := 43) hx hb dX10_keepView_20 (by decide) (fun c15 => ?_) (fun c15 => ?_)
      · have hf := it_t c15 hf
        refine lv_aload_n hx hb dX10_keepView_43 rfl (lv_at hl 1 rfl) ?_
        refine dgetV (v := v1) (k := 0) (x := .int (G v1 0)) hx hb hC hKX.1 hX hG hv1 (by decide) a_699 (Or.inl rfl) rfl dX10_keepView_44 ?_
        cases hf
        exact Ct_ri hx hb hr hlk hX hS dX10_keepView_47
      · have hf := it_f c15 hf
        refine lv_aload_n hx hb dX10_keepView_23 rfl (lv_at hl 0 rfl) ?_
        refine dget (cd := (5, 0)) (ci := 8) (C := RX10) (T := TX10) (N := 9) (v := .ref (ad (5, 2))) hx hb hC hKX.1 hX (hG.F 0 (by decide)) rfl rfl inX10 2 (by decide) a_108 (Or.inl rfl) rfl dX10_keepView_24 ?_
        refine lv_aload_n hx hb dX10_keepView_27 rfl (lv_at hl 0 rfl) ?_
        refine dget (cd := (5, 0)) (ci := 8) (C := RX10) (T := TX10) (N := 9) (v := .int (S13.1 43)) hx hb hC hKX.1 hX (hG.F 0 (by decide)) rfl rfl inX10 3 (by decide) a_109 (Or.inl rfl) rfl dX10_keepView_28 ?_
        refine lv_aload_n hx hb dX10_keepView_31 rfl (lv_at hl 1 rfl) ?_
        obtain ⟨h17, j16, ej16, hf⟩ := rd_e hf
        obtain ⟨h18, hf⟩ := gd_e hf
        refine dast55 (u := v1) hx hb hKX hX hS hG hv1 h18 h17 ej16 dX10_keepView_32 (fun H locs hX hS => ?_)
        obtain ⟨S19, eS19, hf⟩ := lt_e hf
        rw [← eS19] at hX
        refine lv_aload_n hx hb dX10_keepView_33 rfl (lv_at hl 0 rfl) ?_
        refine lv_dup hx hb dX10_keepView_34 rfl ?_
        refine dget (cd := (5, 0)) (ci := 8) (C := RX10) (T := TX10) (N := 9) (v := .int (S19.1 43)) hx hb hC hKX.1 hX (hG.F 0 (by decide)) rfl rfl inX10 3 (by decide) a_109 (Or.inl rfl) rfl dX10_keepView_35 ?_
        refine lv_iconst (v := 1) hx hb dX10_keepView_38 (by decide) ?_
        refine lv_iadd hx hb dX10_keepView_39 ?_
        refine dput (cd := (5, 0)) (ci := 8) (C := RX10) (T := TX10) (N := 9) (ty := .int) hx hb hC hKX.1 hX hS (hG.F 0 (by decide)) rfl rfl inX10 tyX10 tyX10_ok nmX10 3 (by decide) a_109 rfl rfl (by decide +kernel) rfl rfl (Nat.le_of_ble_eq_true rfl) (dset43 hG) dX10_keepView_40 (fun H locs hX hS => ?_)
        obtain ⟨S20, eS20, hf⟩ := lt_e hf
        rw [← eS20] at hX
        refine lv_aload_n hx hb dX10_keepView_43 rfl (lv_at hl 1 rfl) ?_
        refine dgetV (v := v1) (k := 0) (x := .int (G v1 0)) hx hb hC hKX.1 hX hG hv1 (by decide) a_699 (Or.inl rfl) rfl dX10_keepView_44 ?_
        cases hf
        exact Ct_ri hx hb hr hlk hX hS dX10_keepView_47
  rcases hG.K hv1 with hq12 | hq12 | hq12 | hq12
  · have hz11 := vd_1 hq12 hz11
    refine dUv (cd := (4, v1)) (As := []) (rest := []) hC (c_d2_show hG hv1 hq12 hz11) q_u_X2_X9_show (va_Decl.abs hKX.2.1.1) a_781 (Nat.le_of_ble_eq_true rfl) hX hKX (hG.V hv1) (dce_V1 hq12) rfl rfl hl.1 (Nat.le_of_ble_eq_true rfl) dX10_keepView_1 hS (fun H locs hX hS => ?_)
    exact KK H locs hX hS
  · have hz11 := vd_2 hq12 hz11
    refine dUv (cd := (4, v1)) (As := []) (rest := []) hC (c_d3_show hG hv1 hq12 hz11) q_u_X3_X9_show (va_Decl.abs hKX.2.1.1) a_781 (Nat.le_of_ble_eq_true rfl) hX hKX (hG.V hv1) (dce_V2 hq12) rfl rfl hl.1 (Nat.le_of_ble_eq_true rfl) dX10_keepView_1 hS (fun H locs hX hS => ?_)
    exact KK H locs hX hS
  · have hz11 := vd_4 hq12 hz11
    refine dUv (cd := (4, v1)) (As := []) (rest := []) hC (c_d5_show hG hv1 hq12 hz11) q_u_X5_X9_show (va_Decl.abs hKX.2.1.1) a_781 (Nat.le_of_ble_eq_true rfl) hX hKX (hG.V hv1) (dce_V4 hq12) rfl rfl hl.1 (Nat.le_of_ble_eq_true rfl) dX10_keepView_1 hS (fun H locs hX hS => ?_)
    exact KK H locs hX hS
  · have hz11 := vd_6 hq12 hz11
    refine dUv (cd := (4, v1)) (As := []) (rest := []) hC (c_d7_show hG hv1 hq12 hz11) q_u_X7_X9_show (va_Decl.abs hKX.2.1.1) a_781 (Nat.le_of_ble_eq_true rfl) hX hKX (hG.V hv1) (dce_V6 hq12) rfl rfl hl.1 (Nat.le_of_ble_eq_true rfl) dX10_keepView_1 hS (fun H locs hX hS => ?_)
    exact KK H locs hX hS

theorem q_d10_showViews : VWv RX10 yX10_showViews cX10_showViews 3 none 0 := ⟨a_947, a_16, a_946, a_12, by decide +kernel, Nat.le_of_ble_eq_true rfl⟩
set_option maxRecDepth 100000 in
set_option maxHeartbeats 4000000 in
theorem c_d10_showViews {l : Launch} {D : va_G} {cA : Nat → ClassId} {A : Nat → Prop} {ad : Cd → Nat} {L : List Cd} {G : Gt} {nt nv : Nat} (hG : WF L G nt nv)  {S : St} {S' : St} (hf : d10_showViews G nt nv S = some S') : Ct l D cA A yX10_showViews cX10_showViews 3 none 3 0 0 [.ref (ad (5, 0))] (DX D cA A ad L G S) none (DX D cA A ad L G S') := by
  refine Ct_of (by decide +kernel) (Nat.le_of_ble_eq_true rfl) ?_
  intro p e s m args below meth c ls hC hr hlk hnm hX hKX hl
  have hx := hC.1
  have hb := hC.2.1
  have hS : va_S A s.heap s.heap [] := va_S.rf
  have hl : lv_has ls 3 [(0, .ref (ad (5, 0)))] := hl
  unfold d10_showViews at hf
  refine lv_iconst (v := 0) hx hb dX10_showViews_0 (by decide) ?_
  refine lv_istore_n (lv' := [(1, .int 0), (0, .ref (ad (5, 0)))]) hx hb dX10_showViews_1 rfl hl (by decide) rfl (fun ls hl => ?_)
  obtain ⟨g13, g130, g13s, hf⟩ := lp2_e hf
  have Lg13 : ∀ (n : Nat) (x11 : Int32) (S12 : St) (H : Heap) (locs : List Loc) (ls : Array Slot), DX D cA A ad L G S12 H → va_S A s.heap H locs → lv_has ls 3 [(0, .ref (ad (5, 0))), (1, .int x11)] → g13 n x11 S12 = some S' → W p l e (RM 3 0 0) s m args below meth c H locs 0 0 (MQ below (CtQ A none (DX D cA A ad L G S')) args s 0 0 A) (F0 m 2 ls []) := by
    intro n
    induction n with
    | zero => intro x11 S12 H locs ls hX hS hl hf; rw [g130] at hf; cases hf
    | succ n ihg13 =>
      intro x11 S12 H locs ls hX hS hl hf
      rw [g13s] at hf
      refine lv_iload_n hx hb dX10_showViews_2 rfl (lv_at hl 1 rfl) ?_
      refine lv_aload_n hx hb dX10_showViews_3 rfl (lv_at hl 0 rfl) ?_
      refine dget (cd := (5, 0)) (ci := 8) (C := RX10) (T := TX10) (N := 9) (v := .int (S12.1 43)) hx hb hC hKX.1 hX (hG.F 0 (by decide)) rfl rfl inX10 3 (by decide) a_109 (Or.inl rfl) rfl dX10_showViews_4 ?_
      refine lv_icmp_ge (tgt := 30) hx hb dX10_showViews_7 (by decide) (fun c14 => ?_) (fun c14 => ?_)
      · have hf := it_t c14 hf
        cases hf
        exact Ct_rv hx hb hr hlk hX hS dX10_showViews_30
      · have hf := it_f c14 hf
        refine lv_aload_n hx hb dX10_showViews_10 rfl (lv_at hl 0 rfl) ?_
        refine lv_iload_n hx hb dX10_showViews_11 rfl (lv_at hl 1 rfl) ?_
        obtain ⟨z15, hz15, hf⟩ := cb_e hf
        refine dVx (cd := (5, 0)) (As := [.int x11]) (rest := []) hC (c_d10_viewAt hG hz15) q_d10_viewAt a_633 (Nat.le_of_ble_eq_true rfl) hX hKX (hG.F 0 (by decide)) rfl rfl rfl hl.1 (Nat.le_of_ble_eq_true rfl) dX10_showViews_12 hS (fun H locs hX hS => ?_)
        refine lv_astoreO_n (lv' := [(2, rO ad 4 z15), (0, .ref (ad (5, 0))), (1, .int x11)]) hx hb dX10_showViews_15 rfl hl (by decide) rfl (fun ls hl => ?_)
        refine lv_aloadO_n hx hb dX10_showViews_16 rfl (lv_at hl 0 rfl) ?_
        rcases oc_e hf with ⟨ho, hf⟩ | ⟨u17, ho, hf⟩
        · subst ho
          have hl : lv_has ls 3 [(2, .null), (0, .ref (ad (5, 0))), (1, .int x11)] := hl
          refine lv_ifnullN (tgt := 24) hx hb dX10_showViews_17 (by decide) ?_
          refine lv_iinc (v := (x11 + 1)) (lv' := [(1, .int (x11 + 1)), (2, .null), (0, .ref (ad (5, 0)))]) hx hb dX10_showViews_24 hl (k := 2) rfl rfl (by decide) rfl (fun ls hl => ?_)
          refine lv_goto (tgt := 2) hx hb dX10_showViews_27 (by decide) ?_
          exact ihg13 _ _ _ _ _ hX hS (lv_sub hl [2, 0] rfl) hf
        · subst ho
          obtain ⟨h18, hf⟩ := gd_e hf
          have hl : lv_has ls 3 [(2, .ref (ad (4, u17))), (0, .ref (ad (5, 0))), (1, .int x11)] := hl
          refine lv_ifnull (x := ad (4, u17)) hx hb dX10_showViews_17 ?_
          refine lv_aload_n hx hb dX10_showViews_20 rfl (lv_at hl 0 rfl) ?_
          obtain ⟨S21, hz19, hf⟩ := cb_e hf
          have KK : ∀ (H : Heap) (locs : List Loc), DX D cA A ad L G S21 H → va_S A s.heap H locs → W p l e (RM 3 0 0) s m args below meth c H locs 0 0 (MQ below (CtQ A none (DX D cA A ad L G S')) args s 0 0 A) (F0 m 24 ls []) := by
            intro H locs hX hS
            refine lv_iinc (v := (x11 + 1)) (lv' := [(1, .int (x11 + 1)), (2, .ref (ad (4, u17))), (0, .ref (ad (5, 0)))]) hx hb dX10_showViews_24 hl (k := 2) rfl rfl (by decide) rfl (fun ls hl => ?_)
            refine lv_goto (tgt := 2) hx hb dX10_showViews_27 (by decide) ?_
            exact ihg13 _ _ _ _ _ hX hS (lv_sub hl [2, 0] rfl) hf
          rcases hG.K h18 with hq20 | hq20 | hq20 | hq20
          · have hz19 := vd_1 hq20 hz19
            refine dUv (cd := (4, u17)) (As := []) (rest := []) hC (c_d2_show hG h18 hq20 hz19) q_u_X2_X9_show (va_Decl.abs hKX.2.1.1) a_781 (Nat.le_of_ble_eq_true rfl) hX hKX (hG.V h18) (dce_V1 hq20) rfl rfl hl.1 (Nat.le_of_ble_eq_true rfl) dX10_showViews_21 hS (fun H locs hX hS => ?_)
            exact KK H locs hX hS
          · have hz19 := vd_2 hq20 hz19
            refine dUv (cd := (4, u17)) (As := []) (rest := []) hC (c_d3_show hG h18 hq20 hz19) q_u_X3_X9_show (va_Decl.abs hKX.2.1.1) a_781 (Nat.le_of_ble_eq_true rfl) hX hKX (hG.V h18) (dce_V2 hq20) rfl rfl hl.1 (Nat.le_of_ble_eq_true rfl) dX10_showViews_21 hS (fun H locs hX hS => ?_)
            exact KK H locs hX hS
          · have hz19 := vd_4 hq20 hz19
            refine dUv (cd := (4, u17)) (As := []) (rest := []) hC (c_d5_show hG h18 hq20 hz19) q_u_X5_X9_show (va_Decl.abs hKX.2.1.1) a_781 (Nat.le_of_ble_eq_true rfl) hX hKX (hG.V h18) (dce_V4 hq20) rfl rfl hl.1 (Nat.le_of_ble_eq_true rfl) dX10_showViews_21 hS (fun H locs hX hS => ?_)
            exact KK H locs hX hS
          · have hz19 := vd_6 hq20 hz19
            refine dUv (cd := (4, u17)) (As := []) (rest := []) hC (c_d7_show hG h18 hq20 hz19) q_u_X7_X9_show (va_Decl.abs hKX.2.1.1) a_781 (Nat.le_of_ble_eq_true rfl) hX hKX (hG.V h18) (dce_V6 hq20) rfl rfl hl.1 (Nat.le_of_ble_eq_true rfl) dX10_showViews_21 hS (fun H locs hX hS => ?_)
            exact KK H locs hX hS
  exact Lg13 FU _ _ _ _ _ hX hS (lv_sub hl [1, 0] rfl) hf

theorem q_d0_tell : VWv RX0 yX0_tell cX0_tell 4 none 3 := ⟨a_247, a_18, a_245, a_246, by decide +kernel, Nat.le_of_ble_eq_true rfl⟩
set_option maxRecDepth 100000 in
set_option maxHeartbeats 4000000 in
theorem c_d0_tell {l : Launch} {D : va_G} {cA : Nat → ClassId} {A : Nat → Prop} {ad : Cd → Nat} {L : List Cd} {G : Gt} {nt nv : Nat} (hG : WF L G nt nv) {x1 : Int32} {x2 : Int32} {x3 : Int32} {S : St} {S' : St} (hf : d0_tell x1 x2 x3 S = some S') : Ct l D cA A yX0_tell cX0_tell 4 none 0 0 0 [.ref (ad (5, 3)), .int x1, .int x2, .int x3] (DX D cA A ad L G S) none (DX D cA A ad L G S') := by
  refine Ct_of (by decide +kernel) (Nat.le_of_ble_eq_true rfl) ?_
  intro p e s m args below meth c ls hC hr hlk hnm hX hKX hl
  have hx := hC.1
  have hb := hC.2.1
  have hS : va_S A s.heap s.heap [] := va_S.rf
  have hl : lv_has ls 4 [(0, .ref (ad (5, 3))), (1, .int x1), (2, .int x2), (3, .int x3)] := hl
  unfold d0_tell at hf
  refine lv_aload_n hx hb dX0_tell_0 rfl (lv_at hl 0 rfl) ?_
  refine lv_iload_n hx hb dX0_tell_1 rfl (lv_at hl 1 rfl) ?_
  refine dput (cd := (5, 3)) (ci := 0) (C := RX0) (T := TX0) (N := 3) (ty := .int) hx hb hC hKX.1 hX hS (hG.F 3 (by decide)) rfl rfl inX0 tyX0 tyX0_ok nmX0 0 (by decide) a_68 rfl rfl (by decide +kernel) rfl rfl (Nat.le_of_ble_eq_true rfl) (dset46 hG) dX0_tell_2 (fun H locs hX hS => ?_)
  obtain ⟨S11, eS11, hf⟩ := lt_e hf
  rw [← eS11] at hX
  refine lv_aload_n hx hb dX0_tell_5 rfl (lv_at hl 0 rfl) ?_
  refine lv_iload_n hx hb dX0_tell_6 rfl (lv_at hl 2 rfl) ?_
  refine dput (cd := (5, 3)) (ci := 0) (C := RX0) (T := TX0) (N := 3) (ty := .int) hx hb hC hKX.1 hX hS (hG.F 3 (by decide)) rfl rfl inX0 tyX0 tyX0_ok nmX0 1 (by decide) a_70 rfl rfl (by decide +kernel) rfl rfl (Nat.le_of_ble_eq_true rfl) (dset47 hG) dX0_tell_7 (fun H locs hX hS => ?_)
  obtain ⟨S12, eS12, hf⟩ := lt_e hf
  rw [← eS12] at hX
  refine lv_aload_n hx hb dX0_tell_10 rfl (lv_at hl 0 rfl) ?_
  refine lv_iload_n hx hb dX0_tell_11 rfl (lv_at hl 3 rfl) ?_
  refine dput (cd := (5, 3)) (ci := 0) (C := RX0) (T := TX0) (N := 3) (ty := .int) hx hb hC hKX.1 hX hS (hG.F 3 (by decide)) rfl rfl inX0 tyX0 tyX0_ok nmX0 2 (by decide) a_72 rfl rfl (by decide +kernel) rfl rfl (Nat.le_of_ble_eq_true rfl) (dset48 hG) dX0_tell_12 (fun H locs hX hS => ?_)
  obtain ⟨S13, eS13, hf⟩ := lt_e hf
  rw [← eS13] at hX
  cases hf
  exact Ct_rv hx hb hr hlk hX hS dX0_tell_15

theorem q_d0_clear : VWv RX0 yX0_clear cX0_clear 1 none 0 := ⟨a_243, a_18, a_241, a_242, by decide +kernel, Nat.le_of_ble_eq_true rfl⟩
set_option maxRecDepth 100000 in
set_option maxHeartbeats 4000000 in
theorem c_d0_clear {l : Launch} {D : va_G} {cA : Nat → ClassId} {A : Nat → Prop} {ad : Cd → Nat} {L : List Cd} {G : Gt} {nt nv : Nat} (hG : WF L G nt nv)  {S : St} {S' : St} (hf : d0_clear S = some S') : Ct l D cA A yX0_clear cX0_clear 1 none 1 0 0 [.ref (ad (5, 3))] (DX D cA A ad L G S) none (DX D cA A ad L G S') := by
  refine Ct_of (by decide +kernel) (Nat.le_of_ble_eq_true rfl) ?_
  intro p e s m args below meth c ls hC hr hlk hnm hX hKX hl
  have hx := hC.1
  have hb := hC.2.1
  have hS : va_S A s.heap s.heap [] := va_S.rf
  have hl : lv_has ls 1 [(0, .ref (ad (5, 3)))] := hl
  unfold d0_clear at hf
  refine lv_aload_n hx hb dX0_clear_0 rfl (lv_at hl 0 rfl) ?_
  refine lv_iconst (v := 0) hx hb dX0_clear_1 (by decide) ?_
  refine lv_iconst (v := (-1)) hx hb dX0_clear_2 (by decide) ?_
  refine lv_iconst (v := (-1)) hx hb dX0_clear_3 (by decide) ?_
  obtain ⟨S13, hz11, hf⟩ := cb_e hf
  refine dVv (cd := (5, 3)) (As := [.int 0, .int (-1), .int (-1)]) (rest := []) hC (c_d0_tell hG hz11) q_d0_tell a_244 (Nat.le_of_ble_eq_true rfl) hX hKX (hG.F 3 (by decide)) rfl rfl rfl hl.1 (Nat.le_of_ble_eq_true rfl) dX0_clear_4 hS (fun H locs hX hS => ?_)
  cases hf
  exact Ct_rv hx hb hr hlk hX hS dX0_clear_7

theorem q_d0_isTold : VWv RX0 yX0_isTold cX0_isTold 1 (some .boolean) 0 := ⟨a_254, a_18, a_252, a_253, by decide +kernel, Nat.le_of_ble_eq_true rfl⟩
set_option maxRecDepth 100000 in
set_option maxHeartbeats 4000000 in
theorem c_d0_isTold {l : Launch} {D : va_G} {cA : Nat → ClassId} {A : Nat → Prop} {ad : Cd → Nat} {L : List Cd} {G : Gt} {nt nv : Nat} (hG : WF L G nt nv)  {S : St} {r : Int32} (hf : d0_isTold S = some r) : Ct l D cA A yX0_isTold cX0_isTold 1 (some .boolean) 0 0 0 [.ref (ad (5, 3))] (DX D cA A ad L G S) (some (.int r)) (DX D cA A ad L G S) := by
  refine Ct_of (by decide +kernel) (Nat.le_of_ble_eq_true rfl) ?_
  intro p e s m args below meth c ls hC hr hlk hnm hX hKX hl
  have hx := hC.1
  have hb := hC.2.1
  have hS : va_S A s.heap s.heap [] := va_S.rf
  have hl : lv_has ls 1 [(0, .ref (ad (5, 3)))] := hl
  unfold d0_isTold at hf
  refine lv_aload_n hx hb dX0_isTold_0 rfl (lv_at hl 0 rfl) ?_
  refine dget (cd := (5, 3)) (ci := 0) (C := RX0) (T := TX0) (N := 3) (v := .int (S.1 46)) hx hb hC hKX.1 hX (hG.F 3 (by decide)) rfl rfl inX0 0 (by decide) a_68 (Or.inl rfl) rfl dX0_isTold_1 ?_
  refine lv_if_eq (tgt := 11) hx hb dX0_isTold_4 (by decide) (fun c11 => ?_) (fun c11 => ?_)
  · have hf := it_t c11 hf
    refine lv_iconst (v := 0) hx hb dX0_isTold_11 (by decide) ?_
    cases hf
    exact Ct_rz hx hb hr hlk nz0 hX hS dX0_isTold_12
  · have hf := it_f c11 hf
    refine lv_iconst (v := 1) hx hb dX0_isTold_7 (by decide) ?_
    refine lv_goto (tgt := 12) hx hb dX0_isTold_8 (by decide) ?_
    cases hf
    exact Ct_rz hx hb hr hlk nz1 hX hS dX0_isTold_12

theorem q_d0_seekPair : VWv RX0 yX0_seekPair cX0_seekPair 10 none 4 := ⟨a_266, a_18, a_264, a_265, by decide +kernel, Nat.le_of_ble_eq_true rfl⟩
set_option maxRecDepth 100000 in
set_option maxHeartbeats 4000000 in
theorem c_d0_seekPair {l : Launch} {D : va_G} {cA : Nat → ClassId} {A : Nat → Prop} {ad : Cd → Nat} {L : List Cd} {G : Gt} {nt nv : Nat} (hG : WF L G nt nv) {v1 : Nat} (hv1 : v1 < nv) {x2 : Int32} {x3 : Int32} {x4 : Int32} {S : St} {S' : St} (hf : d0_seekPair G nt nv v1 x2 x3 x4 S = some S') : Ct l D cA A yX0_seekPair cX0_seekPair 10 none 1 0 0 [.ref (ad (5, 3)), .ref (ad (4, v1)), .int x2, .int x3, .int x4] (DX D cA A ad L G S) none (DX D cA A ad L G S') := by
  refine Ct_of (by decide +kernel) (Nat.le_of_ble_eq_true rfl) ?_
  intro p e s m args below meth c ls hC hr hlk hnm hX hKX hl
  have hx := hC.1
  have hb := hC.2.1
  have hS : va_S A s.heap s.heap [] := va_S.rf
  have hl : lv_has ls 10 [(0, .ref (ad (5, 3))), (1, .ref (ad (4, v1))), (2, .int x2), (3, .int x3), (4, .int x4)] := hl
  unfold d0_seekPair at hf
  refine lv_aload_n hx hb dX0_seekPair_0 rfl (lv_at hl 1 rfl) ?_
  refine dgetV (v := v1) (k := 7) (x := .ref (ad (0, (23 + 2 * v1)))) hx hb hC hKX.1 hX hG hv1 (by decide) a_749 (Or.inl rfl) rfl dX0_seekPair_1 ?_
  refine lv_astore (lv' := [(5, .ref (ad (0, (23 + 2 * v1)))), (0, .ref (ad (5, 3))), (1, .ref (ad (4, v1))), (2, .int x2), (3, .int x3), (4, .int x4)]) hx hb dX0_seekPair_4 hl (by decide) rfl (fun ls hl => ?_)
  refine lv_iconst (v := 0) hx hb dX0_seekPair_6 (by decide) ?_
  refine lv_istore (lv' := [(6, .int 0), (5, .ref (ad (0, (23 + 2 * v1)))), (0, .ref (ad (5, 3))), (1, .ref (ad (4, v1))), (2, .int x2), (3, .int x3), (4, .int x4)]) hx hb dX0_seekPair_7 hl (by decide) rfl (fun ls hl => ?_)
  obtain ⟨g12, g120, g12s, hf⟩ := lp1_e hf
  have Lg12 : ∀ (n : Nat) (x11 : Int32) (H : Heap) (locs : List Loc) (ls : Array Slot), DX D cA A ad L G S H → va_S A s.heap H locs → lv_has ls 10 [(0, .ref (ad (5, 3))), (1, .ref (ad (4, v1))), (2, .int x2), (3, .int x3), (4, .int x4), (5, .ref (ad (0, (23 + 2 * v1)))), (6, .int x11)] → g12 n x11 = some S' → W p l e (RM 1 0 0) s m args below meth c H locs 0 0 (MQ below (CtQ A none (DX D cA A ad L G S')) args s 0 0 A) (F0 m 9 ls []) := by
    intro n
    induction n with
    | zero => intro x11 H locs ls hX hS hl hf; rw [g120] at hf; cases hf
    | succ n ihg12 =>
      intro x11 H locs ls hX hS hl hf
      rw [g12s] at hf
      refine lv_iload hx hb dX0_seekPair_9 (lv_at hl 6 rfl) ?_
      refine lv_aload hx hb dX0_seekPair_11 (lv_at hl 5 rfl) ?_
      obtain ⟨z13, hz13, hf⟩ := cb_e hf
      refine dVx (cd := (0, (23 + 2 * v1))) (As := []) (rest := [.int x11]) hC (c_d4_size hG (hG.rw hv1) hz13) q_d4_size a_267 (Nat.le_of_ble_eq_true rfl) hX hKX (hG.rw hv1).1 rfl rfl rfl hl.1 (Nat.le_of_ble_eq_true rfl) dX0_seekPair_13 hS (fun H locs hX hS => ?_)
      refine lv_icmp_ge (tgt := 106) hx hb dX0_seekPair_16 (by decide) (fun c15 => ?_) (fun c15 => ?_)
      · have hf := it_t c15 hf
        cases hf
        exact Ct_rv hx hb hr hlk hX hS dX0_seekPair_106
      · have hf := it_f c15 hf
        refine lv_iload hx hb dX0_seekPair_19 (lv_at hl 6 rfl) ?_
        refine lv_iconst (v := 1) hx hb dX0_seekPair_21 (by decide) ?_
        refine lv_iadd hx hb dX0_seekPair_22 ?_
        refine lv_istore (lv' := [(7, .int (x11 + 1)), (0, .ref (ad (5, 3))), (1, .ref (ad (4, v1))), (2, .int x2), (3, .int x3), (4, .int x4), (5, .ref (ad (0, (23 + 2 * v1)))), (6, .int x11)]) hx hb dX0_seekPair_23 hl (by decide) rfl (fun ls hl => ?_)
        obtain ⟨g17, g170, g17s, hf⟩ := lp1_e hf
        have Lg17 : ∀ (n : Nat) (x16 : Int32) (H : Heap) (locs : List Loc) (ls : Array Slot), DX D cA A ad L G S H → va_S A s.heap H locs → lv_has ls 10 [(0, .ref (ad (5, 3))), (1, .ref (ad (4, v1))), (2, .int x2), (3, .int x3), (4, .int x4), (5, .ref (ad (0, (23 + 2 * v1)))), (6, .int x11), (7, .int x16)] → g17 n x16 = some S' → W p l e (RM 1 0 0) s m args below meth c H locs 0 0 (MQ below (CtQ A none (DX D cA A ad L G S')) args s 0 0 A) (F0 m 25 ls []) := by
          intro n
          induction n with
          | zero => intro x16 H locs ls hX hS hl hf; rw [g170] at hf; cases hf
          | succ n ihg17 =>
            intro x16 H locs ls hX hS hl hf
            rw [g17s] at hf
            refine lv_iload hx hb dX0_seekPair_25 (lv_at hl 7 rfl) ?_
            refine lv_aload hx hb dX0_seekPair_27 (lv_at hl 5 rfl) ?_
            obtain ⟨z18, hz18, hf⟩ := cb_e hf
            refine dVx (cd := (0, (23 + 2 * v1))) (As := []) (rest := [.int x16]) hC (c_d4_size hG (hG.rw hv1) hz18) q_d4_size a_267 (Nat.le_of_ble_eq_true rfl) hX hKX (hG.rw hv1).1 rfl rfl rfl hl.1 (Nat.le_of_ble_eq_true rfl) dX0_seekPair_29 hS (fun H locs hX hS => ?_)
            refine lv_icmp_ge (tgt := 100) hx hb dX0_seekPair_32 (by decide) (fun c20 => ?_) (fun c20 => ?_)
            · have hf := it_t c20 hf
              refine lv_iinc (v := (x11 + 1)) (lv' := [(6, .int (x11 + 1)), (0, .ref (ad (5, 3))), (1, .ref (ad (4, v1))), (2, .int x2), (3, .int x3), (4, .int x4), (5, .ref (ad (0, (23 + 2 * v1)))), (7, .int x16)]) hx hb dX0_seekPair_100 hl (k := 6) rfl rfl (by decide) rfl (fun ls hl => ?_)
              refine lv_goto (tgt := 9) hx hb dX0_seekPair_103 (by decide) ?_
              exact ihg12 _ _ _ _ hX hS (lv_sub hl [1, 2, 3, 4, 5, 6, 0] rfl) hf
            · have hf := it_f c20 hf
              refine lv_aload hx hb dX0_seekPair_35 (lv_at hl 5 rfl) ?_
              refine lv_iload hx hb dX0_seekPair_37 (lv_at hl 6 rfl) ?_
              obtain ⟨z21, hz21, hf⟩ := cb_e hf
              refine dVx (cd := (0, (23 + 2 * v1))) (As := [.int x11]) (rest := []) hC (c_d4_at hG (hG.rw hv1) hz21) q_d4_at a_271 (Nat.le_of_ble_eq_true rfl) hX hKX (hG.rw hv1).1 rfl rfl rfl hl.1 (Nat.le_of_ble_eq_true rfl) dX0_seekPair_39 hS (fun H locs hX hS => ?_)
              refine lv_istore (lv' := [(8, .int z21), (0, .ref (ad (5, 3))), (1, .ref (ad (4, v1))), (2, .int x2), (3, .int x3), (4, .int x4), (5, .ref (ad (0, (23 + 2 * v1)))), (6, .int x11), (7, .int x16)]) hx hb dX0_seekPair_42 hl (by decide) rfl (fun ls hl => ?_)
              refine lv_aload hx hb dX0_seekPair_44 (lv_at hl 6 rfl) ?_
              refine lv_iload hx hb dX0_seekPair_46 (lv_at hl 8 rfl) ?_
              obtain ⟨z23, hz23, hf⟩ := cb_e hf
              refine dVx (cd := (0, (23 + 2 * v1))) (As := [.int x16]) (rest := []) hC (c_d4_at hG (hG.rw hv1) hz23) q_d4_at a_271 (Nat.le_of_ble_eq_true rfl) hX hKX (hG.rw hv1).1 rfl rfl rfl hl.1 (Nat.le_of_ble_eq_true rfl) dX0_seekPair_48 hS (fun H locs hX hS => ?_)
              refine lv_istore (lv' := [(9, .int z23), (8, .int z21), (0, .ref (ad (5, 3))), (1, .ref (ad (4, v1))), (2, .int x2), (3, .int x3), (4, .int x4), (5, .ref (ad (0, (23 + 2 * v1)))), (6, .int x11), (7, .int x16)]) hx hb dX0_seekPair_51 hl (by decide) rfl (fun ls hl => ?_)
              refine lv_iload hx hb dX0_seekPair_53 (lv_at hl 1 rfl) ?_
              refine lv_iload hx hb dX0_seekPair_55 (lv_at hl 0 rfl) ?_
              refine lv_iload_n hx hb dX0_seekPair_57 rfl (lv_at hl 5 rfl) ?_
              obtain ⟨z25, hz25, hf⟩ := cb_e hf
              refine dSx (As := [.int z21, .int z23, .int x3]) (rest := []) hC (c_d1_alike hG hz25) q_d1_alike a_272 (Nat.le_of_ble_eq_true rfl) hX hKX rfl hl.1 (Nat.le_of_ble_eq_true rfl) dX0_seekPair_58 hS (fun H locs hX hS => ?_)
              refine lv_if_eq (tgt := 94) hx hb dX0_seekPair_61 (by decide) (fun c27 => ?_) (fun c27 => ?_)
              · have hf := it_t c27 hf
                refine lv_iinc (v := (x16 + 1)) (lv' := [(7, .int (x16 + 1)), (9, .int z23), (8, .int z21), (0, .ref (ad (5, 3))), (1, .ref (ad (4, v1))), (2, .int x2), (3, .int x3), (4, .int x4), (5, .ref (ad (0, (23 + 2 * v1)))), (6, .int x11)]) hx hb dX0_seekPair_94 hl (k := 9) rfl rfl (by decide) rfl (fun ls hl => ?_)
                refine lv_goto (tgt := 25) hx hb dX0_seekPair_97 (by decide) ?_
                exact ihg17 _ _ _ _ hX hS (lv_sub hl [3, 4, 5, 6, 7, 8, 9, 0] rfl) hf
              · have hf := it_f c27 hf
                refine lv_iload hx hb dX0_seekPair_64 (lv_at hl 1 rfl) ?_
                refine lv_iload hx hb dX0_seekPair_66 (lv_at hl 0 rfl) ?_
                refine lv_iload hx hb dX0_seekPair_68 (lv_at hl 6 rfl) ?_
                obtain ⟨z28, hz28, hf⟩ := cb_e hf
                refine dSx (As := [.int z21, .int z23, .int x4]) (rest := []) hC (c_d1_alike hG hz28) q_d1_alike a_272 (Nat.le_of_ble_eq_true rfl) hX hKX rfl hl.1 (Nat.le_of_ble_eq_true rfl) dX0_seekPair_70 hS (fun H locs hX hS => ?_)
                refine lv_if_ne (tgt := 94) hx hb dX0_seekPair_73 (by decide) (fun c30 => ?_) (fun c30 => ?_)
                · have hf := it_f c30 hf
                  refine lv_iinc (v := (x16 + 1)) (lv' := [(7, .int (x16 + 1)), (9, .int z23), (8, .int z21), (0, .ref (ad (5, 3))), (1, .ref (ad (4, v1))), (2, .int x2), (3, .int x3), (4, .int x4), (5, .ref (ad (0, (23 + 2 * v1)))), (6, .int x11)]) hx hb dX0_seekPair_94 hl (k := 9) rfl rfl (by decide) rfl (fun ls hl => ?_)
                  refine lv_goto (tgt := 25) hx hb dX0_seekPair_97 (by decide) ?_
                  exact ihg17 _ _ _ _ hX hS (lv_sub hl [3, 4, 5, 6, 7, 8, 9, 0] rfl) hf
                · have hf := it_t c30 hf
                  refine lv_aload_n hx hb dX0_seekPair_76 rfl (lv_at hl 2 rfl) ?_
                  refine lv_bipush (v := 10) hx hb dX0_seekPair_77 (by decide) ?_
                  refine lv_aload_n hx hb dX0_seekPair_79 rfl (lv_at hl 3 rfl) ?_
                  refine dgetV (v := v1) (k := 0) (x := .int (G v1 0)) hx hb hC hKX.1 hX hG hv1 (by decide) a_698 (Or.inl rfl) rfl dX0_seekPair_80 ?_
                  refine lv_imul hx hb dX0_seekPair_83 ?_
                  refine lv_iload_n hx hb dX0_seekPair_84 rfl (lv_at hl 4 rfl) ?_
                  refine lv_iadd hx hb dX0_seekPair_85 ?_
                  refine lv_iload hx hb dX0_seekPair_86 (lv_at hl 1 rfl) ?_
                  refine lv_iload hx hb dX0_seekPair_88 (lv_at hl 0 rfl) ?_
                  obtain ⟨S33, hz31, hf⟩ := cb_e hf
                  refine dVv (cd := (5, 3)) (As := [.int ((10 * (G v1 0)) + x2), .int z21, .int z23]) (rest := []) hC (c_d0_tell hG hz31) q_d0_tell a_244 (Nat.le_of_ble_eq_true rfl) hX hKX (hG.F 3 (by decide)) rfl rfl rfl hl.1 (Nat.le_of_ble_eq_true rfl) dX0_seekPair_90 hS (fun H locs hX hS => ?_)
                  cases hf
                  exact Ct_rv hx hb hr hlk hX hS dX0_seekPair_93
        exact Lg17 FU _ _ _ _ hX hS (lv_sub hl [1, 2, 3, 4, 5, 6, 7, 0] rfl) hf
  exact Lg12 FU _ _ _ _ hX hS (lv_sub hl [2, 3, 4, 5, 6, 1, 0] rfl) hf

set_option maxRecDepth 100000 in
set_option maxHeartbeats 4000000 in
theorem c_d2_seekOwnConflict {l : Launch} {D : va_G} {cA : Nat → ClassId} {A : Nat → Prop} {ad : Cd → Nat} {L : List Cd} {G : Gt} {nt nv : Nat} (hG : WF L G nt nv) {v : Nat} (hv : v < nv) (hk : G v 6 = 1) {S : St} {S' : St} (hf : d2_seekOwnConflict v S = some S') : Ct l D cA A yX2_seekOwnConflict cX2_seekOwnConflict 2 none 0 0 0 [.ref (ad (4, v)), .ref (ad (5, 3))] (DX D cA A ad L G S) none (DX D cA A ad L G S') := by
  refine Ct_of (by decide +kernel) (Nat.le_of_ble_eq_true rfl) ?_
  intro p e s m args below meth c ls hC hr hlk hnm hX hKX hl
  have hx := hC.1
  have hb := hC.2.1
  have hS : va_S A s.heap s.heap [] := va_S.rf
  have hl : lv_has ls 2 [(0, .ref (ad (4, v))), (1, .ref (ad (5, 3)))] := hl
  unfold d2_seekOwnConflict at hf
  cases hf
  exact Ct_rv hx hb hr hlk hX hS dX2_seekOwnConflict_0

set_option maxRecDepth 100000 in
set_option maxHeartbeats 4000000 in
theorem c_d3_seekOwnConflict {l : Launch} {D : va_G} {cA : Nat → ClassId} {A : Nat → Prop} {ad : Cd → Nat} {L : List Cd} {G : Gt} {nt nv : Nat} (hG : WF L G nt nv) {v : Nat} (hv : v < nv) (hk : G v 6 = 2) {S : St} {S' : St} (hf : d3_seekOwnConflict G nt nv v S = some S') : Ct l D cA A yX3_seekOwnConflict cX3_seekOwnConflict 2 none 2 0 0 [.ref (ad (4, v)), .ref (ad (5, 3))] (DX D cA A ad L G S) none (DX D cA A ad L G S') := by
  refine Ct_of (by decide +kernel) (Nat.le_of_ble_eq_true rfl) ?_
  intro p e s m args below meth c ls hC hr hlk hnm hX hKX hl
  have hx := hC.1
  have hb := hC.2.1
  have hS : va_S A s.heap s.heap [] := va_S.rf
  have hl : lv_has ls 2 [(0, .ref (ad (4, v))), (1, .ref (ad (5, 3)))] := hl
  unfold d3_seekOwnConflict at hf
  refine lv_aload_n hx hb dX3_seekOwnConflict_0 rfl (lv_at hl 1 rfl) ?_
  refine lv_aload_n hx hb dX3_seekOwnConflict_1 rfl (lv_at hl 0 rfl) ?_
  refine lv_iconst (v := 3) hx hb dX3_seekOwnConflict_2 (by decide) ?_
  refine lv_aload_n hx hb dX3_seekOwnConflict_3 rfl (lv_at hl 0 rfl) ?_
  refine dget (cd := (4, v)) (ci := 2) (C := RX3) (T := TX3) (N := 11) (v := .ref (ad (4, (vr G v)))) hx hb hC hKX.1 hX (hG.V hv) (dce_V2 hk) rfl inX3 9 (by decide) a_845 (Or.inl rfl) rfl dX3_seekOwnConflict_4 ?_
  refine dgetV (v := (vr G v)) (k := 2) (x := .int (G (vr G v) 2)) hx hb hC hKX.1 hX hG (hG.r hv hk) (by decide) a_709 (Or.inl rfl) rfl dX3_seekOwnConflict_7 ?_
  refine lv_aload_n hx hb dX3_seekOwnConflict_10 rfl (lv_at hl 0 rfl) ?_
  refine dget (cd := (4, v)) (ci := 2) (C := RX3) (T := TX3) (N := 11) (v := .ref (ad (4, (vr G v)))) hx hb hC hKX.1 hX (hG.V hv) (dce_V2 hk) rfl inX3 9 (by decide) a_845 (Or.inl rfl) rfl dX3_seekOwnConflict_11 ?_
  refine dgetV (v := (vr G v)) (k := 1) (x := .int (G (vr G v) 1)) hx hb hC hKX.1 hX hG (hG.r hv hk) (by decide) a_702 (Or.inl rfl) rfl dX3_seekOwnConflict_14 ?_
  obtain ⟨S13, hz11, hf⟩ := cb_e hf
  refine dVv (cd := (5, 3)) (As := [.ref (ad (4, v)), .int 3, .int (G (vr G v) 2), .int (G (vr G v) 1)]) (rest := []) hC (c_d0_seekPair hG hv hz11) q_d0_seekPair a_285 (Nat.le_of_ble_eq_true rfl) hX hKX (hG.F 3 (by decide)) rfl rfl rfl hl.1 (Nat.le_of_ble_eq_true rfl) dX3_seekOwnConflict_17 hS (fun H locs hX hS => ?_)
  cases hf
  exact Ct_rv hx hb hr hlk hX hS dX3_seekOwnConflict_20

set_option maxRecDepth 100000 in
set_option maxHeartbeats 4000000 in
theorem c_d5_seekOwnConflict {l : Launch} {D : va_G} {cA : Nat → ClassId} {A : Nat → Prop} {ad : Cd → Nat} {L : List Cd} {G : Gt} {nt nv : Nat} (hG : WF L G nt nv) {v : Nat} (hv : v < nv) (hk : G v 6 = 4) {S : St} {S' : St} (hf : d5_seekOwnConflict G nt nv v S = some S') : Ct l D cA A yX5_seekOwnConflict cX5_seekOwnConflict 4 none 2 0 0 [.ref (ad (4, v)), .ref (ad (5, 3))] (DX D cA A ad L G S) none (DX D cA A ad L G S') := by
  refine Ct_of (by decide +kernel) (Nat.le_of_ble_eq_true rfl) ?_
  intro p e s m args below meth c ls hC hr hlk hnm hX hKX hl
  have hx := hC.1
  have hb := hC.2.1
  have hS : va_S A s.heap s.heap [] := va_S.rf
  have hl : lv_has ls 4 [(0, .ref (ad (4, v))), (1, .ref (ad (5, 3)))] := hl
  unfold d5_seekOwnConflict at hf
  refine lv_iconst (v := 0) hx hb dX5_seekOwnConflict_0 (by decide) ?_
  refine lv_istore_n (lv' := [(2, .int 0), (0, .ref (ad (4, v))), (1, .ref (ad (5, 3)))]) hx hb dX5_seekOwnConflict_1 rfl hl (by decide) rfl (fun ls hl => ?_)
  obtain ⟨g12, g120, g12s, hf⟩ := lp1_e hf
  have Lg12 : ∀ (n : Nat) (x11 : Int32) (H : Heap) (locs : List Loc) (ls : Array Slot), DX D cA A ad L G S H → va_S A s.heap H locs → lv_has ls 4 [(0, .ref (ad (4, v))), (1, .ref (ad (5, 3))), (2, .int x11)] → g12 n x11 = some S' → W p l e (RM 2 0 0) s m args below meth c H locs 0 0 (MQ below (CtQ A none (DX D cA A ad L G S')) args s 0 0 A) (F0 m 2 ls []) := by
    intro n
    induction n with
    | zero => intro x11 H locs ls hX hS hl hf; rw [g120] at hf; cases hf
    | succ n ihg12 =>
      intro x11 H locs ls hX hS hl hf
      rw [g12s] at hf
      refine lv_iload_n hx hb dX5_seekOwnConflict_2 rfl (lv_at hl 2 rfl) ?_
      refine lv_aload_n hx hb dX5_seekOwnConflict_3 rfl (lv_at hl 0 rfl) ?_
      refine dgetV (v := v) (k := 7) (x := .ref (ad (0, (23 + 2 * v)))) hx hb hC hKX.1 hX hG hv (by decide) a_741 (Or.inr a_742) rfl dX5_seekOwnConflict_4 ?_
      obtain ⟨z13, hz13, hf⟩ := cb_e hf
      refine dVx (cd := (0, (23 + 2 * v))) (As := []) (rest := [.int x11]) hC (c_d4_size hG (hG.rw hv) hz13) q_d4_size a_289 (Nat.le_of_ble_eq_true rfl) hX hKX (hG.rw hv).1 rfl rfl rfl hl.1 (Nat.le_of_ble_eq_true rfl) dX5_seekOwnConflict_7 hS (fun H locs hX hS => ?_)
      refine lv_icmp_ge (tgt := 52) hx hb dX5_seekOwnConflict_10 (by decide) (fun c15 => ?_) (fun c15 => ?_)
      · have hf := it_t c15 hf
        cases hf
        exact Ct_rv hx hb hr hlk hX hS dX5_seekOwnConflict_52
      · have hf := it_f c15 hf
        refine lv_aload_n hx hb dX5_seekOwnConflict_13 rfl (lv_at hl 0 rfl) ?_
        refine dgetV (v := v) (k := 7) (x := .ref (ad (0, (23 + 2 * v)))) hx hb hC hKX.1 hX hG hv (by decide) a_741 (Or.inr a_742) rfl dX5_seekOwnConflict_14 ?_
        refine lv_iload_n hx hb dX5_seekOwnConflict_17 rfl (lv_at hl 2 rfl) ?_
        obtain ⟨z16, hz16, hf⟩ := cb_e hf
        refine dVx (cd := (0, (23 + 2 * v))) (As := [.int x11]) (rest := []) hC (c_d4_at hG (hG.rw hv) hz16) q_d4_at a_290 (Nat.le_of_ble_eq_true rfl) hX hKX (hG.rw hv).1 rfl rfl rfl hl.1 (Nat.le_of_ble_eq_true rfl) dX5_seekOwnConflict_18 hS (fun H locs hX hS => ?_)
        refine lv_istore_n (lv' := [(3, .int z16), (0, .ref (ad (4, v))), (1, .ref (ad (5, 3))), (2, .int x11)]) hx hb dX5_seekOwnConflict_21 rfl hl (by decide) rfl (fun ls hl => ?_)
        refine lv_aload_n hx hb dX5_seekOwnConflict_22 rfl (lv_at hl 1 rfl) ?_
        refine lv_iload_n hx hb dX5_seekOwnConflict_23 rfl (lv_at hl 0 rfl) ?_
        obtain ⟨z18, hz18, hf⟩ := cb_e hf
        refine dVx (cd := (4, v)) (As := [.int z16]) (rest := []) hC (c_d5_selects hG hv hk hz18) q_d5_selects a_291 (Nat.le_of_ble_eq_true rfl) hX hKX (hG.V hv) (dce_V4 hk) rfl rfl hl.1 (Nat.le_of_ble_eq_true rfl) dX5_seekOwnConflict_24 hS (fun H locs hX hS => ?_)
        refine lv_if_ne (tgt := 46) hx hb dX5_seekOwnConflict_27 (by decide) (fun c20 => ?_) (fun c20 => ?_)
        · have hf := it_f c20 hf
          refine lv_iinc (v := (x11 + 1)) (lv' := [(2, .int (x11 + 1)), (3, .int z16), (0, .ref (ad (4, v))), (1, .ref (ad (5, 3)))]) hx hb dX5_seekOwnConflict_46 hl (k := 3) rfl rfl (by decide) rfl (fun ls hl => ?_)
          refine lv_goto (tgt := 2) hx hb dX5_seekOwnConflict_49 (by decide) ?_
          exact ihg12 _ _ _ _ hX hS (lv_sub hl [2, 3, 0] rfl) hf
        · have hf := it_t c20 hf
          refine lv_aload_n hx hb dX5_seekOwnConflict_30 rfl (lv_at hl 2 rfl) ?_
          refine lv_bipush (v := 10) hx hb dX5_seekOwnConflict_31 (by decide) ?_
          refine lv_aload_n hx hb dX5_seekOwnConflict_33 rfl (lv_at hl 1 rfl) ?_
          refine dgetV (v := v) (k := 0) (x := .int (G v 0)) hx hb hC hKX.1 hX hG hv (by decide) a_696 (Or.inr a_697) rfl dX5_seekOwnConflict_34 ?_
          refine lv_imul hx hb dX5_seekOwnConflict_37 ?_
          refine lv_iconst (v := 2) hx hb dX5_seekOwnConflict_38 (by decide) ?_
          refine lv_iadd hx hb dX5_seekOwnConflict_39 ?_
          refine lv_iload_n hx hb dX5_seekOwnConflict_40 rfl (lv_at hl 0 rfl) ?_
          refine lv_iconst (v := (-1)) hx hb dX5_seekOwnConflict_41 (by decide) ?_
          obtain ⟨S23, hz21, hf⟩ := cb_e hf
          refine dVv (cd := (5, 3)) (As := [.int ((10 * (G v 0)) + 2), .int z16, .int (-1)]) (rest := []) hC (c_d0_tell hG hz21) q_d0_tell a_298 (Nat.le_of_ble_eq_true rfl) hX hKX (hG.F 3 (by decide)) rfl rfl rfl hl.1 (Nat.le_of_ble_eq_true rfl) dX5_seekOwnConflict_42 hS (fun H locs hX hS => ?_)
          cases hf
          exact Ct_rv hx hb hr hlk hX hS dX5_seekOwnConflict_45
  exact Lg12 FU _ _ _ _ hX hS (lv_sub hl [1, 2, 0] rfl) hf

set_option maxRecDepth 100000 in
set_option maxHeartbeats 4000000 in
theorem c_d7_seekOwnConflict {l : Launch} {D : va_G} {cA : Nat → ClassId} {A : Nat → Prop} {ad : Cd → Nat} {L : List Cd} {G : Gt} {nt nv : Nat} (hG : WF L G nt nv) {v : Nat} (hv : v < nv) (hk : G v 6 = 6) {S : St} {S' : St} (hf : d7_seekOwnConflict G nt nv v S = some S') : Ct l D cA A yX7_seekOwnConflict cX7_seekOwnConflict 2 none 1 0 0 [.ref (ad (4, v)), .ref (ad (5, 3))] (DX D cA A ad L G S) none (DX D cA A ad L G S') := by
  refine Ct_of (by decide +kernel) (Nat.le_of_ble_eq_true rfl) ?_
  intro p e s m args below meth c ls hC hr hlk hnm hX hKX hl
  have hx := hC.1
  have hb := hC.2.1
  have hS : va_S A s.heap s.heap [] := va_S.rf
  have hl : lv_has ls 2 [(0, .ref (ad (4, v))), (1, .ref (ad (5, 3)))] := hl
  unfold d7_seekOwnConflict at hf
  refine lv_aload_n hx hb dX7_seekOwnConflict_0 rfl (lv_at hl 0 rfl) ?_
  refine dgetV (v := v) (k := 7) (x := .ref (ad (0, (23 + 2 * v)))) hx hb hC hKX.1 hX hG hv (by decide) a_739 (Or.inr a_740) rfl dX7_seekOwnConflict_1 ?_
  obtain ⟨z11, hz11, hf⟩ := cb_e hf
  refine dVx (cd := (0, (23 + 2 * v))) (As := []) (rest := []) hC (c_d4_size hG (hG.rw hv) hz11) q_d4_size a_302 (Nat.le_of_ble_eq_true rfl) hX hKX (hG.rw hv).1 rfl rfl rfl hl.1 (Nat.le_of_ble_eq_true rfl) dX7_seekOwnConflict_4 hS (fun H locs hX hS => ?_)
  refine lv_bipush (v := 12) hx hb dX7_seekOwnConflict_7 (by decide) ?_
  refine lv_icmp_le (tgt := 27) hx hb dX7_seekOwnConflict_9 (by decide) (fun c13 => ?_) (fun c13 => ?_)
  · have hf := it_t c13 hf
    cases hf
    exact Ct_rv hx hb hr hlk hX hS dX7_seekOwnConflict_27
  · have hf := it_f c13 hf
    refine lv_aload_n hx hb dX7_seekOwnConflict_12 rfl (lv_at hl 1 rfl) ?_
    refine lv_bipush (v := 10) hx hb dX7_seekOwnConflict_13 (by decide) ?_
    refine lv_aload_n hx hb dX7_seekOwnConflict_15 rfl (lv_at hl 0 rfl) ?_
    refine dgetV (v := v) (k := 0) (x := .int (G v 0)) hx hb hC hKX.1 hX hG hv (by decide) a_694 (Or.inr a_695) rfl dX7_seekOwnConflict_16 ?_
    refine lv_imul hx hb dX7_seekOwnConflict_19 ?_
    refine lv_iconst (v := 4) hx hb dX7_seekOwnConflict_20 (by decide) ?_
    refine lv_iadd hx hb dX7_seekOwnConflict_21 ?_
    refine lv_iconst (v := (-1)) hx hb dX7_seekOwnConflict_22 (by decide) ?_
    refine lv_iconst (v := (-1)) hx hb dX7_seekOwnConflict_23 (by decide) ?_
    obtain ⟨S16, hz14, hf⟩ := cb_e hf
    refine dVv (cd := (5, 3)) (As := [.int ((10 * (G v 0)) + 4), .int (-1), .int (-1)]) (rest := []) hC (c_d0_tell hG hz14) q_d0_tell a_303 (Nat.le_of_ble_eq_true rfl) hX hKX (hG.F 3 (by decide)) rfl rfl rfl hl.1 (Nat.le_of_ble_eq_true rfl) dX7_seekOwnConflict_24 hS (fun H locs hX hS => ?_)
    cases hf
    exact Ct_rv hx hb hr hlk hX hS dX7_seekOwnConflict_27

theorem q_u_X2_X9_seekOwnConflict : VWu RX2 "Lensbench$View" ⟨"Lensbench$View", "seekOwnConflict", "(LLensbench$Conflict;)V"⟩ yX2_seekOwnConflict cX2_seekOwnConflict 2 none 1 := ⟨a_281, a_32, a_280, a_279, a_278, by decide +kernel, Nat.le_of_ble_eq_true rfl⟩

theorem q_u_X3_X9_seekOwnConflict : VWu RX3 "Lensbench$View" ⟨"Lensbench$View", "seekOwnConflict", "(LLensbench$Conflict;)V"⟩ yX3_seekOwnConflict cX3_seekOwnConflict 2 none 1 := ⟨a_284, a_33, a_283, a_282, a_278, by decide +kernel, Nat.le_of_ble_eq_true rfl⟩

theorem q_u_X5_X9_seekOwnConflict : VWu RX5 "Lensbench$View" ⟨"Lensbench$View", "seekOwnConflict", "(LLensbench$Conflict;)V"⟩ yX5_seekOwnConflict cX5_seekOwnConflict 4 none 1 := ⟨a_288, a_31, a_287, a_286, a_278, by decide +kernel, Nat.le_of_ble_eq_true rfl⟩

theorem q_u_X7_X9_seekOwnConflict : VWu RX7 "Lensbench$View" ⟨"Lensbench$View", "seekOwnConflict", "(LLensbench$Conflict;)V"⟩ yX7_seekOwnConflict cX7_seekOwnConflict 2 none 1 := ⟨a_301, a_34, a_300, a_299, a_278, by decide +kernel, Nat.le_of_ble_eq_true rfl⟩

set_option maxRecDepth 100000 in
set_option maxHeartbeats 4000000 in
theorem c_d9_seekConflict {l : Launch} {D : va_G} {cA : Nat → ClassId} {A : Nat → Prop} {ad : Cd → Nat} {L : List Cd} {G : Gt} {nt nv : Nat} (hG : WF L G nt nv) {v : Nat} (hv : v < nv) {S : St} {S' : St} (hf : d9_seekConflict G nt nv v S = some S') : Ct l D cA A yX9_seekConflict cX9_seekConflict 2 none 3 0 0 [.ref (ad (4, v)), .ref (ad (5, 3))] (DX D cA A ad L G S) none (DX D cA A ad L G S') := by
  refine Ct_of (by decide +kernel) (Nat.le_of_ble_eq_true rfl) ?_
  intro p e s m args below meth c ls hC hr hlk hnm hX hKX hl
  have hx := hC.1
  have hb := hC.2.1
  have hS : va_S A s.heap s.heap [] := va_S.rf
  have hl : lv_has ls 2 [(0, .ref (ad (4, v))), (1, .ref (ad (5, 3)))] := hl
  unfold d9_seekConflict at hf
  refine lv_aload_n hx hb dX9_seekConflict_0 rfl (lv_at hl 1 rfl) ?_
  refine lv_aload_n hx hb dX9_seekConflict_1 rfl (lv_at hl 0 rfl) ?_
  refine lv_iconst (v := 1) hx hb dX9_seekConflict_2 (by decide) ?_
  refine lv_aload_n hx hb dX9_seekConflict_3 rfl (lv_at hl 0 rfl) ?_
  refine dgetV (v := v) (k := 2) (x := .int (G v 2)) hx hb hC hKX.1 hX hG hv (by decide) a_711 (Or.inl rfl) rfl dX9_seekConflict_4 ?_
  refine lv_aload_n hx hb dX9_seekConflict_7 rfl (lv_at hl 0 rfl) ?_
  refine dgetV (v := v) (k := 1) (x := .int (G v 1)) hx hb hC hKX.1 hX hG hv (by decide) a_703 (Or.inl rfl) rfl dX9_seekConflict_8 ?_
  obtain ⟨S13, hz11, hf⟩ := cb_e hf
  refine dVv (cd := (5, 3)) (As := [.ref (ad (4, v)), .int 1, .int (G v 2), .int (G v 1)]) (rest := []) hC (c_d0_seekPair hG hv hz11) q_d0_seekPair a_263 (Nat.le_of_ble_eq_true rfl) hX hKX (hG.F 3 (by decide)) rfl rfl rfl hl.1 (Nat.le_of_ble_eq_true rfl) dX9_seekConflict_11 hS (fun H locs hX hS => ?_)
  refine lv_aload_n hx hb dX9_seekConflict_14 rfl (lv_at hl 1 rfl) ?_
  obtain ⟨z14, hz14, hf⟩ := cb_e hf
  refine dVx (cd := (5, 3)) (As := []) (rest := []) hC (c_d0_isTold hG hz14) q_d0_isTold a_275 (Nat.le_of_ble_eq_true rfl) hX hKX (hG.F 3 (by decide)) rfl rfl rfl hl.1 (Nat.le_of_ble_eq_true rfl) dX9_seekConflict_15 hS (fun H locs hX hS => ?_)
  refine lv_if_ne (tgt := 26) hx hb dX9_seekConflict_18 (by decide) (fun c16 => ?_) (fun c16 => ?_)
  · have hf := it_f c16 hf
    cases hf
    exact Ct_rv hx hb hr hlk hX hS dX9_seekConflict_26
  · have hf := it_t c16 hf
    refine lv_aload_n hx hb dX9_seekConflict_21 rfl (lv_at hl 0 rfl) ?_
    refine lv_aload_n hx hb dX9_seekConflict_22 rfl (lv_at hl 1 rfl) ?_
    obtain ⟨S19, hz17, hf⟩ := cb_e hf
    have KK : ∀ (H : Heap) (locs : List Loc), DX D cA A ad L G S19 H → va_S A s.heap H locs → W p l e (RM 3 0 0) s m args below meth c H locs 0 0 (MQ below (CtQ A none (DX D cA A ad L G S')) args s 0 0 A) (F0 m 26 ls []) := by
      intro H locs hX hS
      cases hf
      exact Ct_rv hx hb hr hlk hX hS dX9_seekConflict_26
    rcases hG.K hv with hq18 | hq18 | hq18 | hq18
    · have hz17 := vd_1 hq18 hz17
      refine dUv (cd := (4, v)) (As := [.ref (ad (5, 3))]) (rest := []) hC (c_d2_seekOwnConflict hG hv hq18 hz17) q_u_X2_X9_seekOwnConflict (va_Decl.abs hKX.2.1.2.2) a_276 (Nat.le_of_ble_eq_true rfl) hX hKX (hG.V hv) (dce_V1 hq18) rfl rfl hl.1 (Nat.le_of_ble_eq_true rfl) dX9_seekConflict_23 hS (fun H locs hX hS => ?_)
      exact KK H locs hX hS
    · have hz17 := vd_2 hq18 hz17
      refine dUv (cd := (4, v)) (As := [.ref (ad (5, 3))]) (rest := []) hC (c_d3_seekOwnConflict hG hv hq18 hz17) q_u_X3_X9_seekOwnConflict (va_Decl.abs hKX.2.1.2.2) a_276 (Nat.le_of_ble_eq_true rfl) hX hKX (hG.V hv) (dce_V2 hq18) rfl rfl hl.1 (Nat.le_of_ble_eq_true rfl) dX9_seekConflict_23 hS (fun H locs hX hS => ?_)
      exact KK H locs hX hS
    · have hz17 := vd_4 hq18 hz17
      refine dUv (cd := (4, v)) (As := [.ref (ad (5, 3))]) (rest := []) hC (c_d5_seekOwnConflict hG hv hq18 hz17) q_u_X5_X9_seekOwnConflict (va_Decl.abs hKX.2.1.2.2) a_276 (Nat.le_of_ble_eq_true rfl) hX hKX (hG.V hv) (dce_V4 hq18) rfl rfl hl.1 (Nat.le_of_ble_eq_true rfl) dX9_seekConflict_23 hS (fun H locs hX hS => ?_)
      exact KK H locs hX hS
    · have hz17 := vd_6 hq18 hz17
      refine dUv (cd := (4, v)) (As := [.ref (ad (5, 3))]) (rest := []) hC (c_d7_seekOwnConflict hG hv hq18 hz17) q_u_X7_X9_seekOwnConflict (va_Decl.abs hKX.2.1.2.2) a_276 (Nat.le_of_ble_eq_true rfl) hX hKX (hG.V hv) (dce_V6 hq18) rfl rfl hl.1 (Nat.le_of_ble_eq_true rfl) dX9_seekConflict_23 hS (fun H locs hX hS => ?_)
      exact KK H locs hX hS

theorem q_d2_hiddenValue : VWv RX2 yX2_hiddenValue cX2_hiddenValue 3 (some .int) 1 := ⟨a_320, a_32, a_318, a_3, by decide +kernel, Nat.le_of_ble_eq_true rfl⟩
set_option maxRecDepth 100000 in
set_option maxHeartbeats 4000000 in
theorem c_d2_hiddenValue {l : Launch} {D : va_G} {cA : Nat → ClassId} {A : Nat → Prop} {ad : Cd → Nat} {L : List Cd} {G : Gt} {nt nv : Nat} (hG : WF L G nt nv) {v : Nat} (hv : v < nv) (hk : G v 6 = 1) {x1 : Int32} {S : St} {r : Int32} (hf : d2_hiddenValue G nt nv v x1 S = some r) : Ct l D cA A yX2_hiddenValue cX2_hiddenValue 3 (some .int) 2 0 0 [.ref (ad (4, v)), .int x1] (DX D cA A ad L G S) (some (.int r)) (DX D cA A ad L G S) := by
  refine Ct_of (by decide +kernel) (Nat.le_of_ble_eq_true rfl) ?_
  intro p e s m args below meth c ls hC hr hlk hnm hX hKX hl
  have hx := hC.1
  have hb := hC.2.1
  have hS : va_S A s.heap s.heap [] := va_S.rf
  have hl : lv_has ls 3 [(0, .ref (ad (4, v))), (1, .int x1)] := hl
  unfold d2_hiddenValue at hf
  refine lv_aload_n hx hb dX2_hiddenValue_0 rfl (lv_at hl 0 rfl) ?_
  refine dget (cd := (4, v)) (ci := 1) (C := RX2) (T := TX2) (N := 11) (v := .ref (ad (4, (vl G v)))) hx hb hC hKX.1 hX (hG.V hv) (dce_V1 hk) rfl inX2 8 (by decide) a_812 (Or.inl rfl) rfl dX2_hiddenValue_1 ?_
  refine dgetV (v := (vl G v)) (k := 6) (x := .ref (ad (0, (22 + 2 * (vl G v))))) hx hb hC hKX.1 hX hG (hG.l hv (ne6_1 hk)) (by decide) a_732 (Or.inl rfl) rfl dX2_hiddenValue_4 ?_
  refine lv_iload_n hx hb dX2_hiddenValue_7 rfl (lv_at hl 1 rfl) ?_
  refine lv_aload_n hx hb dX2_hiddenValue_8 rfl (lv_at hl 0 rfl) ?_
  refine dgetV (v := v) (k := 2) (x := .int (G v 2)) hx hb hC hKX.1 hX hG hv (by decide) a_712 (Or.inr a_713) rfl dX2_hiddenValue_9 ?_
  obtain ⟨z11, hz11, hf⟩ := cb_e hf
  refine dVx (cd := (0, (22 + 2 * (vl G v)))) (As := [.int x1, .int (G v 2)]) (rest := []) hC (c_d4_firstLike hG (hG.rs (hG.l hv (ne6_1 hk))) hz11) q_d4_firstLike a_321 (Nat.le_of_ble_eq_true rfl) hX hKX (hG.rs (hG.l hv (ne6_1 hk))).1 rfl rfl rfl hl.1 (Nat.le_of_ble_eq_true rfl) dX2_hiddenValue_12 hS (fun H locs hX hS => ?_)
  refine lv_istore_n (lv' := [(2, .int z11), (0, .ref (ad (4, v))), (1, .int x1)]) hx hb dX2_hiddenValue_15 rfl hl (by decide) rfl (fun ls hl => ?_)
  refine lv_iload_n hx hb dX2_hiddenValue_16 rfl (lv_at hl 0 rfl) ?_
  refine lv_iconst (v := (-1)) hx hb dX2_hiddenValue_17 (by decide) ?_
  refine lv_icmp_ne (tgt := 28) hx hb dX2_hiddenValue_18 (by decide) (fun c13 => ?_) (fun c13 => ?_)
  · have hf := it_f c13 hf
    refine lv_iload_n hx hb dX2_hiddenValue_28 rfl (lv_at hl 0 rfl) ?_
    refine lv_aload_n hx hb dX2_hiddenValue_29 rfl (lv_at hl 1 rfl) ?_
    refine dget (cd := (4, v)) (ci := 1) (C := RX2) (T := TX2) (N := 11) (v := .int (G v 7)) hx hb hC hKX.1 hX (hG.V hv) (dce_V1 hk) rfl inX2 9 (by decide) a_813 (Or.inl rfl) rfl dX2_hiddenValue_30 ?_
    obtain ⟨z14, hz14, hf⟩ := cb_e hf
    refine dSx (As := [.int z11, .int (G v 7)]) (rest := []) hC (c_d1_digit hG hz14) q_d1_digit a_326 (Nat.le_of_ble_eq_true rfl) hX hKX rfl hl.1 (Nat.le_of_ble_eq_true rfl) dX2_hiddenValue_33 hS (fun H locs hX hS => ?_)
    cases hf
    exact Ct_ri hx hb hr hlk hX hS dX2_hiddenValue_36
  · have hf := it_t c13 hf
    refine lv_aload_n hx hb dX2_hiddenValue_21 rfl (lv_at hl 1 rfl) ?_
    refine dget (cd := (4, v)) (ci := 1) (C := RX2) (T := TX2) (N := 11) (v := .int (G v 8)) hx hb hC hKX.1 hX (hG.V hv) (dce_V1 hk) rfl inX2 10 (by decide) a_814 (Or.inl rfl) rfl dX2_hiddenValue_22 ?_
    refine lv_goto (tgt := 36) hx hb dX2_hiddenValue_25 (by decide) ?_
    cases hf
    exact Ct_ri hx hb hr hlk hX hS dX2_hiddenValue_36

theorem q_d1_told : VWs yX1_told cX1_told 4 (some .int) 2 := ⟨a_333, a_27, a_332, by decide +kernel, Nat.le_of_ble_eq_true rfl⟩
set_option maxRecDepth 100000 in
set_option maxHeartbeats 4000000 in
theorem c_d1_told {l : Launch} {D : va_G} {cA : Nat → ClassId} {A : Nat → Prop} {ad : Cd → Nat} {L : List Cd} {G : Gt} {nt nv : Nat} (hG : WF L G nt nv) {x1 : Int32} {x2 : Int32} {S : St} {r : Int32} (hf : d1_told x1 x2 = some r) : Ct l D cA A yX1_told cX1_told 4 (some .int) 0 0 0 [.int x1, .int x2] (DX D cA A ad L G S) (some (.int r)) (DX D cA A ad L G S) := by
  refine Ct_of (by decide +kernel) (Nat.le_of_ble_eq_true rfl) ?_
  intro p e s m args below meth c ls hC hr hlk hnm hX hKX hl
  have hx := hC.1
  have hb := hC.2.1
  have hS : va_S A s.heap s.heap [] := va_S.rf
  have hl : lv_has ls 4 [(0, .int x1), (1, .int x2)] := hl
  unfold d1_told at hf
  refine lv_iload_n hx hb dX1_told_0 rfl (lv_at hl 1 rfl) ?_
  refine lv_istore_n (lv' := [(2, .int x2), (0, .int x1), (1, .int x2)]) hx hb dX1_told_1 rfl hl (by decide) rfl (fun ls hl => ?_)
  refine lv_iconst (v := 0) hx hb dX1_told_2 (by decide) ?_
  refine lv_istore_n (lv' := [(3, .int 0), (2, .int x2), (0, .int x1), (1, .int x2)]) hx hb dX1_told_3 rfl hl (by decide) rfl (fun ls hl => ?_)
  obtain ⟨g13, g130, g13s, hf⟩ := lp2_e hf
  have Lg13 : ∀ (n : Nat) (x11 : Int32) (x12 : Int32) (H : Heap) (locs : List Loc) (ls : Array Slot), DX D cA A ad L G S H → va_S A s.heap H locs → lv_has ls 4 [(0, .int x1), (2, .int x11), (3, .int x12)] → g13 n x11 x12 = some r → W p l e (RM 0 0 0) s m args below meth c H locs 0 0 (MQ below (CtQ A (some (.int r)) (DX D cA A ad L G S)) args s 0 0 A) (F0 m 4 ls []) := by
    intro n
    induction n with
    | zero => intro x11 x12 H locs ls hX hS hl hf; rw [g130] at hf; cases hf
    | succ n ihg13 =>
      intro x11 x12 H locs ls hX hS hl hf
      rw [g13s] at hf
      refine lv_iload_n hx hb dX1_told_4 rfl (lv_at hl 2 rfl) ?_
      refine lv_iload_n hx hb dX1_told_5 rfl (lv_at hl 0 rfl) ?_
      refine lv_icmp_ge (tgt := 26) hx hb dX1_told_6 (by decide) (fun c14 => ?_) (fun c14 => ?_)
      · have hf := it_t c14 hf
        refine lv_iload_n hx hb dX1_told_26 rfl (lv_at hl 1 rfl) ?_
        cases hf
        exact Ct_ri hx hb hr hlk hX hS dX1_told_27
      · have hf := it_f c14 hf
        refine lv_iload_n hx hb dX1_told_9 rfl (lv_at hl 2 rfl) ?_
        refine lv_bipush (v := 6) hx hb dX1_told_10 (by decide) ?_
        refine lv_icmp_ge (tgt := 26) hx hb dX1_told_12 (by decide) (fun c15 => ?_) (fun c15 => ?_)
        · have hf := it_t c15 hf
          refine lv_iload_n hx hb dX1_told_26 rfl (lv_at hl 1 rfl) ?_
          cases hf
          exact Ct_ri hx hb hr hlk hX hS dX1_told_27
        · have hf := it_f c15 hf
          refine lv_iload_n hx hb dX1_told_15 rfl (lv_at hl 1 rfl) ?_
          refine lv_bipush (v := 10) hx hb dX1_told_16 (by decide) ?_
          refine lv_imul hx hb dX1_told_18 ?_
          refine lv_istore_n (lv' := [(2, .int (x11 * 10)), (0, .int x1), (3, .int x12)]) hx hb dX1_told_19 rfl hl (by decide) rfl (fun ls hl => ?_)
          refine lv_iinc (v := (x12 + 1)) (lv' := [(3, .int (x12 + 1)), (2, .int (x11 * 10)), (0, .int x1)]) hx hb dX1_told_20 hl (k := 2) rfl rfl (by decide) rfl (fun ls hl => ?_)
          refine lv_goto (tgt := 4) hx hb dX1_told_23 (by decide) ?_
          exact ihg13 _ _ _ _ _ hX hS (lv_sub hl [2, 1, 0] rfl) hf
  exact Lg13 FU _ _ _ _ _ hX hS (lv_sub hl [2, 1, 0] rfl) hf

theorem q_d1_with : VWs yX1_with cX1_with 3 (some .int) 3 := ⟨a_329, a_27, a_328, by decide +kernel, Nat.le_of_ble_eq_true rfl⟩
set_option maxRecDepth 100000 in
set_option maxHeartbeats 4000000 in
theorem c_d1_with {l : Launch} {D : va_G} {cA : Nat → ClassId} {A : Nat → Prop} {ad : Cd → Nat} {L : List Cd} {G : Gt} {nt nv : Nat} (hG : WF L G nt nv) {x1 : Int32} {x2 : Int32} {x3 : Int32} {S : St} {r : Int32} (hf : d1_with x1 x2 x3 = some r) : Ct l D cA A yX1_with cX1_with 3 (some .int) 1 0 0 [.int x1, .int x2, .int x3] (DX D cA A ad L G S) (some (.int r)) (DX D cA A ad L G S) := by
  refine Ct_of (by decide +kernel) (Nat.le_of_ble_eq_true rfl) ?_
  intro p e s m args below meth c ls hC hr hlk hnm hX hKX hl
  have hx := hC.1
  have hb := hC.2.1
  have hS : va_S A s.heap s.heap [] := va_S.rf
  have hl : lv_has ls 3 [(0, .int x1), (1, .int x2), (2, .int x3)] := hl
  unfold d1_with at hf
  refine lv_iload_n hx hb dX1_with_0 rfl (lv_at hl 0 rfl) ?_
  refine lv_iload_n hx hb dX1_with_1 rfl (lv_at hl 1 rfl) ?_
  refine lv_iload_n hx hb dX1_with_2 rfl (lv_at hl 0 rfl) ?_
  refine lv_iload_n hx hb dX1_with_3 rfl (lv_at hl 1 rfl) ?_
  obtain ⟨z11, hz11, hf⟩ := cb_e hf
  refine dSx (As := [.int x1, .int x2]) (rest := [.int x2, .int x1]) hC (c_d1_digit hG hz11) q_d1_digit a_330 (Nat.le_of_ble_eq_true rfl) hX hKX rfl hl.1 (Nat.le_of_ble_eq_true rfl) dX1_with_4 hS (fun H locs hX hS => ?_)
  obtain ⟨z13, hz13, hf⟩ := cb_e hf
  refine dSx (As := [.int x2, .int z11]) (rest := [.int x1]) hC (c_d1_told hG hz13) q_d1_told a_331 (Nat.le_of_ble_eq_true rfl) hX hKX rfl hl.1 (Nat.le_of_ble_eq_true rfl) dX1_with_7 hS (fun H locs hX hS => ?_)
  refine lv_isub hx hb dX1_with_10 ?_
  refine lv_iload_n hx hb dX1_with_11 rfl (lv_at hl 1 rfl) ?_
  refine lv_iload_n hx hb dX1_with_12 rfl (lv_at hl 2 rfl) ?_
  obtain ⟨z15, hz15, hf⟩ := cb_e hf
  refine dSx (As := [.int x2, .int x3]) (rest := [.int (x1 - z13)]) hC (c_d1_told hG hz15) q_d1_told a_331 (Nat.le_of_ble_eq_true rfl) hX hKX rfl hl.1 (Nat.le_of_ble_eq_true rfl) dX1_with_13 hS (fun H locs hX hS => ?_)
  refine lv_iadd hx hb dX1_with_16 ?_
  cases hf
  exact Ct_ri hx hb hr hlk hX hS dX1_with_17

set_option maxRecDepth 100000 in
set_option maxHeartbeats 4000000 in
theorem c_d2_passOn {l : Launch} {D : va_G} {cA : Nat → ClassId} {A : Nat → Prop} {ad : Cd → Nat} {L : List Cd} {G : Gt} {nt nv : Nat} (hG : WF L G nt nv) {v : Nat} (hv : v < nv) (hk : G v 6 = 1) {S : St} {S' : St} (hf : d2_passOn G nt nv v S = some S') : Ct l D cA A yX2_passOn cX2_passOn 3 none 3 0 0 [.ref (ad (4, v))] (DX D cA A ad L G S) none (DX D cA A ad L G S') := by
  refine Ct_of (by decide +kernel) (Nat.le_of_ble_eq_true rfl) ?_
  intro p e s m args below meth c ls hC hr hlk hnm hX hKX hl
  have hx := hC.1
  have hb := hC.2.1
  have hS : va_S A s.heap s.heap [] := va_S.rf
  have hl : lv_has ls 3 [(0, .ref (ad (4, v)))] := hl
  unfold d2_passOn at hf
  refine lv_aload_n hx hb dX2_passOn_0 rfl (lv_at hl 0 rfl) ?_
  refine dget (cd := (4, v)) (ci := 1) (C := RX2) (T := TX2) (N := 11) (v := .ref (ad (4, (vl G v)))) hx hb hC hKX.1 hX (hG.V hv) (dce_V1 hk) rfl inX2 8 (by decide) a_812 (Or.inl rfl) rfl dX2_passOn_1 ?_
  refine dgetV (v := (vl G v)) (k := 7) (x := .ref (ad (0, (23 + 2 * (vl G v))))) hx hb hC hKX.1 hX hG (hG.l hv (ne6_1 hk)) (by decide) a_743 (Or.inl rfl) rfl dX2_passOn_4 ?_
  obtain ⟨S13, hz11, hf⟩ := cb_e hf
  refine dVv (cd := (0, (23 + 2 * (vl G v)))) (As := []) (rest := []) hC (c_d4_clear hG (hG.rw (hG.l hv (ne6_1 hk))) hz11) q_d4_clear a_310 (Nat.le_of_ble_eq_true rfl) hX hKX (hG.rw (hG.l hv (ne6_1 hk))).1 rfl rfl rfl hl.1 (Nat.le_of_ble_eq_true rfl) dX2_passOn_7 hS (fun H locs hX hS => ?_)
  refine lv_iconst (v := 0) hx hb dX2_passOn_10 (by decide) ?_
  refine lv_istore_n (lv' := [(1, .int 0), (0, .ref (ad (4, v)))]) hx hb dX2_passOn_11 rfl hl (by decide) rfl (fun ls hl => ?_)
  obtain ⟨g16, g160, g16s, hf⟩ := lp2_e hf
  have Lg16 : ∀ (n : Nat) (x14 : Int32) (S15 : St) (H : Heap) (locs : List Loc) (ls : Array Slot), DX D cA A ad L G S15 H → va_S A s.heap H locs → lv_has ls 3 [(0, .ref (ad (4, v))), (1, .int x14)] → g16 n x14 S15 = some S' → W p l e (RM 3 0 0) s m args below meth c H locs 0 0 (MQ below (CtQ A none (DX D cA A ad L G S')) args s 0 0 A) (F0 m 12 ls []) := by
    intro n
    induction n with
    | zero => intro x14 S15 H locs ls hX hS hl hf; rw [g160] at hf; cases hf
    | succ n ihg16 =>
      intro x14 S15 H locs ls hX hS hl hf
      rw [g16s] at hf
      refine lv_iload_n hx hb dX2_passOn_12 rfl (lv_at hl 1 rfl) ?_
      refine lv_aload_n hx hb dX2_passOn_13 rfl (lv_at hl 0 rfl) ?_
      refine dgetV (v := v) (k := 7) (x := .ref (ad (0, (23 + 2 * v)))) hx hb hC hKX.1 hX hG hv (by decide) a_746 (Or.inr a_747) rfl dX2_passOn_14 ?_
      obtain ⟨z17, hz17, hf⟩ := cb_e hf
      refine dVx (cd := (0, (23 + 2 * v))) (As := []) (rest := [.int x14]) hC (c_d4_size hG (hG.rw hv) hz17) q_d4_size a_314 (Nat.le_of_ble_eq_true rfl) hX hKX (hG.rw hv).1 rfl rfl rfl hl.1 (Nat.le_of_ble_eq_true rfl) dX2_passOn_17 hS (fun H locs hX hS => ?_)
      refine lv_icmp_ge (tgt := 61) hx hb dX2_passOn_20 (by decide) (fun c19 => ?_) (fun c19 => ?_)
      · have hf := it_t c19 hf
        cases hf
        exact Ct_rv hx hb hr hlk hX hS dX2_passOn_61
      · have hf := it_f c19 hf
        refine lv_aload_n hx hb dX2_passOn_23 rfl (lv_at hl 0 rfl) ?_
        refine dgetV (v := v) (k := 7) (x := .ref (ad (0, (23 + 2 * v)))) hx hb hC hKX.1 hX hG hv (by decide) a_746 (Or.inr a_747) rfl dX2_passOn_24 ?_
        refine lv_iload_n hx hb dX2_passOn_27 rfl (lv_at hl 1 rfl) ?_
        obtain ⟨z20, hz20, hf⟩ := cb_e hf
        refine dVx (cd := (0, (23 + 2 * v))) (As := [.int x14]) (rest := []) hC (c_d4_at hG (hG.rw hv) hz20) q_d4_at a_315 (Nat.le_of_ble_eq_true rfl) hX hKX (hG.rw hv).1 rfl rfl rfl hl.1 (Nat.le_of_ble_eq_true rfl) dX2_passOn_28 hS (fun H locs hX hS => ?_)
        refine lv_istore_n (lv' := [(2, .int z20), (0, .ref (ad (4, v))), (1, .int x14)]) hx hb dX2_passOn_31 rfl hl (by decide) rfl (fun ls hl => ?_)
        refine lv_aload_n hx hb dX2_passOn_32 rfl (lv_at hl 1 rfl) ?_
        refine dget (cd := (4, v)) (ci := 1) (C := RX2) (T := TX2) (N := 11) (v := .ref (ad (4, (vl G v)))) hx hb hC hKX.1 hX (hG.V hv) (dce_V1 hk) rfl inX2 8 (by decide) a_812 (Or.inl rfl) rfl dX2_passOn_33 ?_
        refine dgetV (v := (vl G v)) (k := 7) (x := .ref (ad (0, (23 + 2 * (vl G v))))) hx hb hC hKX.1 hX hG (hG.l hv (ne6_1 hk)) (by decide) a_743 (Or.inl rfl) rfl dX2_passOn_36 ?_
        refine lv_iload_n hx hb dX2_passOn_39 rfl (lv_at hl 0 rfl) ?_
        refine lv_aload_n hx hb dX2_passOn_40 rfl (lv_at hl 1 rfl) ?_
        refine dget (cd := (4, v)) (ci := 1) (C := RX2) (T := TX2) (N := 11) (v := .int (G v 7)) hx hb hC hKX.1 hX (hG.V hv) (dce_V1 hk) rfl inX2 9 (by decide) a_813 (Or.inl rfl) rfl dX2_passOn_41 ?_
        refine lv_aload_n hx hb dX2_passOn_44 rfl (lv_at hl 1 rfl) ?_
        refine lv_iload_n hx hb dX2_passOn_45 rfl (lv_at hl 0 rfl) ?_
        obtain ⟨z22, hz22, hf⟩ := cb_e hf
        refine dVx (cd := (4, v)) (As := [.int z20]) (rest := [.int (G v 7), .int z20, .ref (ad (0, (23 + 2 * (vl G v))))]) hC (c_d2_hiddenValue hG hv hk hz22) q_d2_hiddenValue a_316 (Nat.le_of_ble_eq_true rfl) hX hKX (hG.V hv) (dce_V1 hk) rfl rfl hl.1 (Nat.le_of_ble_eq_true rfl) dX2_passOn_46 hS (fun H locs hX hS => ?_)
        obtain ⟨z24, hz24, hf⟩ := cb_e hf
        refine dSx (As := [.int z20, .int (G v 7), .int z22]) (rest := [.ref (ad (0, (23 + 2 * (vl G v))))]) hC (c_d1_with hG hz24) q_d1_with a_327 (Nat.le_of_ble_eq_true rfl) hX hKX rfl hl.1 (Nat.le_of_ble_eq_true rfl) dX2_passOn_49 hS (fun H locs hX hS => ?_)
        obtain ⟨S28, hz26, hf⟩ := cb_e hf
        refine dVv (cd := (0, (23 + 2 * (vl G v)))) (As := [.int z24]) (rest := []) hC (c_d4_put hG (hG.rw (hG.l hv (ne6_1 hk))) hz26) q_d4_put a_334 (Nat.le_of_ble_eq_true rfl) hX hKX (hG.rw (hG.l hv (ne6_1 hk))).1 rfl rfl rfl hl.1 (Nat.le_of_ble_eq_true rfl) dX2_passOn_52 hS (fun H locs hX hS => ?_)
        refine lv_iinc (v := (x14 + 1)) (lv' := [(1, .int (x14 + 1)), (2, .int z20), (0, .ref (ad (4, v)))]) hx hb dX2_passOn_55 hl (k := 2) rfl rfl (by decide) rfl (fun ls hl => ?_)
        refine lv_goto (tgt := 12) hx hb dX2_passOn_58 (by decide) ?_
        exact ihg16 _ _ _ _ _ hX hS (lv_sub hl [2, 0] rfl) hf
  exact Lg16 FU _ _ _ _ _ hX hS (lv_sub hl [1, 0] rfl) hf

set_option maxRecDepth 100000 in
set_option maxHeartbeats 4000000 in
theorem c_d9_wantParts {l : Launch} {D : va_G} {cA : Nat → ClassId} {A : Nat → Prop} {ad : Cd → Nat} {L : List Cd} {G : Gt} {nt nv : Nat} (hG : WF L G nt nv) {v : Nat} (hv : v < nv) {i1 : Nat} (hi1 : okR L i1) {S : St} {S' : St} (hf : d9_wantParts G nt nv v i1 S = some S') : Ct l D cA A yX9_wantParts cX9_wantParts 3 none 2 0 0 [.ref (ad (4, v)), .ref (ad (0, i1))] (DX D cA A ad L G S) none (DX D cA A ad L G S') := by
  refine Ct_of (by decide +kernel) (Nat.le_of_ble_eq_true rfl) ?_
  intro p e s m args below meth c ls hC hr hlk hnm hX hKX hl
  have hx := hC.1
  have hb := hC.2.1
  have hS : va_S A s.heap s.heap [] := va_S.rf
  have hl : lv_has ls 3 [(0, .ref (ad (4, v))), (1, .ref (ad (0, i1)))] := hl
  unfold d9_wantParts at hf
  refine lv_aload_n hx hb dX9_wantParts_0 rfl (lv_at hl 0 rfl) ?_
  refine dgetV (v := v) (k := 7) (x := .ref (ad (0, (23 + 2 * v)))) hx hb hC hKX.1 hX hG hv (by decide) a_738 (Or.inl rfl) rfl dX9_wantParts_1 ?_
  obtain ⟨S13, hz11, hf⟩ := cb_e hf
  refine dVv (cd := (0, (23 + 2 * v))) (As := []) (rest := []) hC (c_d4_clear hG (hG.rw hv) hz11) q_d4_clear a_353 (Nat.le_of_ble_eq_true rfl) hX hKX (hG.rw hv).1 rfl rfl rfl hl.1 (Nat.le_of_ble_eq_true rfl) dX9_wantParts_4 hS (fun H locs hX hS => ?_)
  refine lv_iconst (v := 0) hx hb dX9_wantParts_7 (by decide) ?_
  refine lv_istore_n (lv' := [(2, .int 0), (0, .ref (ad (4, v))), (1, .ref (ad (0, i1)))]) hx hb dX9_wantParts_8 rfl hl (by decide) rfl (fun ls hl => ?_)
  obtain ⟨g16, g160, g16s, hf⟩ := lp2_e hf
  have Lg16 : ∀ (n : Nat) (x14 : Int32) (S15 : St) (H : Heap) (locs : List Loc) (ls : Array Slot), DX D cA A ad L G S15 H → va_S A s.heap H locs → lv_has ls 3 [(0, .ref (ad (4, v))), (1, .ref (ad (0, i1))), (2, .int x14)] → g16 n x14 S15 = some S' → W p l e (RM 2 0 0) s m args below meth c H locs 0 0 (MQ below (CtQ A none (DX D cA A ad L G S')) args s 0 0 A) (F0 m 9 ls []) := by
    intro n
    induction n with
    | zero => intro x14 S15 H locs ls hX hS hl hf; rw [g160] at hf; cases hf
    | succ n ihg16 =>
      intro x14 S15 H locs ls hX hS hl hf
      rw [g16s] at hf
      refine lv_iload_n hx hb dX9_wantParts_9 rfl (lv_at hl 2 rfl) ?_
      refine lv_aload_n hx hb dX9_wantParts_10 rfl (lv_at hl 1 rfl) ?_
      obtain ⟨z17, hz17, hf⟩ := cb_e hf
      refine dVx (cd := (0, i1)) (As := []) (rest := [.int x14]) hC (c_d4_size hG hi1 hz17) q_d4_size a_354 (Nat.le_of_ble_eq_true rfl) hX hKX hi1.1 rfl rfl rfl hl.1 (Nat.le_of_ble_eq_true rfl) dX9_wantParts_11 hS (fun H locs hX hS => ?_)
      refine lv_icmp_ge (tgt := 42) hx hb dX9_wantParts_14 (by decide) (fun c19 => ?_) (fun c19 => ?_)
      · have hf := it_t c19 hf
        cases hf
        exact Ct_rv hx hb hr hlk hX hS dX9_wantParts_42
      · have hf := it_f c19 hf
        refine lv_aload_n hx hb dX9_wantParts_17 rfl (lv_at hl 0 rfl) ?_
        refine dgetV (v := v) (k := 7) (x := .ref (ad (0, (23 + 2 * v)))) hx hb hC hKX.1 hX hG hv (by decide) a_738 (Or.inl rfl) rfl dX9_wantParts_18 ?_
        refine lv_aload_n hx hb dX9_wantParts_21 rfl (lv_at hl 1 rfl) ?_
        refine lv_iload_n hx hb dX9_wantParts_22 rfl (lv_at hl 2 rfl) ?_
        obtain ⟨z20, hz20, hf⟩ := cb_e hf
        refine dVx (cd := (0, i1)) (As := [.int x14]) (rest := [.ref (ad (0, (23 + 2 * v)))]) hC (c_d4_at hG hi1 hz20) q_d4_at a_355 (Nat.le_of_ble_eq_true rfl) hX hKX hi1.1 rfl rfl rfl hl.1 (Nat.le_of_ble_eq_true rfl) dX9_wantParts_23 hS (fun H locs hX hS => ?_)
        refine lv_aload_n hx hb dX9_wantParts_26 rfl (lv_at hl 0 rfl) ?_
        refine dgetV (v := v) (k := 1) (x := .int (G v 1)) hx hb hC hKX.1 hX hG hv (by decide) a_703 (Or.inl rfl) rfl dX9_wantParts_27 ?_
        obtain ⟨z22, hz22, hf⟩ := cb_e hf
        refine dSx (As := [.int z20, .int (G v 1)]) (rest := [.ref (ad (0, (23 + 2 * v)))]) hC (c_d1_part hG hz22) q_d1_part a_356 (Nat.le_of_ble_eq_true rfl) hX hKX rfl hl.1 (Nat.le_of_ble_eq_true rfl) dX9_wantParts_30 hS (fun H locs hX hS => ?_)
        obtain ⟨S26, hz24, hf⟩ := cb_e hf
        refine dVv (cd := (0, (23 + 2 * v))) (As := [.int z22]) (rest := []) hC (c_d4_put hG (hG.rw hv) hz24) q_d4_put a_362 (Nat.le_of_ble_eq_true rfl) hX hKX (hG.rw hv).1 rfl rfl rfl hl.1 (Nat.le_of_ble_eq_true rfl) dX9_wantParts_33 hS (fun H locs hX hS => ?_)
        refine lv_iinc (v := (x14 + 1)) (lv' := [(2, .int (x14 + 1)), (0, .ref (ad (4, v))), (1, .ref (ad (0, i1)))]) hx hb dX9_wantParts_36 hl (k := 2) rfl rfl (by decide) rfl (fun ls hl => ?_)
        refine lv_goto (tgt := 9) hx hb dX9_wantParts_39 (by decide) ?_
        exact ihg16 _ _ _ _ _ hX hS (lv_sub hl [1, 2, 0] rfl) hf
  exact Lg16 FU _ _ _ _ _ hX hS (lv_sub hl [1, 2, 0] rfl) hf

set_option maxRecDepth 100000 in
set_option maxHeartbeats 4000000 in
theorem c_d9_wantsKeyOf {l : Launch} {D : va_G} {cA : Nat → ClassId} {A : Nat → Prop} {ad : Cd → Nat} {L : List Cd} {G : Gt} {nt nv : Nat} (hG : WF L G nt nv) {v : Nat} (hv : v < nv) {x1 : Int32} {S : St} {r : Int32} (hf : d9_wantsKeyOf G nt nv v x1 S = some r) : Ct l D cA A yX9_wantsKeyOf cX9_wantsKeyOf 2 (some .boolean) 2 0 0 [.ref (ad (4, v)), .int x1] (DX D cA A ad L G S) (some (.int r)) (DX D cA A ad L G S) := by
  refine Ct_of (by decide +kernel) (Nat.le_of_ble_eq_true rfl) ?_
  intro p e s m args below meth c ls hC hr hlk hnm hX hKX hl
  have hx := hC.1
  have hb := hC.2.1
  have hS : va_S A s.heap s.heap [] := va_S.rf
  have hl : lv_has ls 2 [(0, .ref (ad (4, v))), (1, .int x1)] := hl
  unfold d9_wantsKeyOf at hf
  refine lv_aload_n hx hb dX9_wantsKeyOf_0 rfl (lv_at hl 0 rfl) ?_
  refine dgetV (v := v) (k := 7) (x := .ref (ad (0, (23 + 2 * v)))) hx hb hC hKX.1 hX hG hv (by decide) a_738 (Or.inl rfl) rfl dX9_wantsKeyOf_1 ?_
  refine lv_iload_n hx hb dX9_wantsKeyOf_4 rfl (lv_at hl 1 rfl) ?_
  refine lv_aload_n hx hb dX9_wantsKeyOf_5 rfl (lv_at hl 0 rfl) ?_
  refine dgetV (v := v) (k := 2) (x := .int (G v 2)) hx hb hC hKX.1 hX hG hv (by decide) a_711 (Or.inl rfl) rfl dX9_wantsKeyOf_6 ?_
  obtain ⟨z11, hz11, hf⟩ := cb_e hf
  refine dVx (cd := (0, (23 + 2 * v))) (As := [.int x1, .int (G v 2)]) (rest := []) hC (c_d4_firstLike hG (hG.rw hv) hz11) q_d4_firstLike a_373 (Nat.le_of_ble_eq_true rfl) hX hKX (hG.rw hv).1 rfl rfl rfl hl.1 (Nat.le_of_ble_eq_true rfl) dX9_wantsKeyOf_9 hS (fun H locs hX hS => ?_)
  refine lv_iconst (v := (-1)) hx hb dX9_wantsKeyOf_12 (by decide) ?_
  refine lv_icmp_eq (tgt := 20) hx hb dX9_wantsKeyOf_13 (by decide) (fun c13 => ?_) (fun c13 => ?_)
  · have hf := it_t c13 hf
    refine lv_iconst (v := 0) hx hb dX9_wantsKeyOf_20 (by decide) ?_
    cases hf
    exact Ct_rz hx hb hr hlk nz0 hX hS dX9_wantsKeyOf_21
  · have hf := it_f c13 hf
    refine lv_iconst (v := 1) hx hb dX9_wantsKeyOf_16 (by decide) ?_
    refine lv_goto (tgt := 21) hx hb dX9_wantsKeyOf_17 (by decide) ?_
    cases hf
    exact Ct_rz hx hb hr hlk nz1 hX hS dX9_wantsKeyOf_21

theorem q_u_X2_X9_wantParts : VWu RX2 "Lensbench$View" yX9_wantParts yX9_wantParts cX9_wantParts 3 none 1 := ⟨a_352, a_30, a_346, a_348, a_347, by decide +kernel, Nat.le_of_ble_eq_true rfl⟩

theorem q_u_X2_X9_wantsKeyOf : VWu RX2 "Lensbench$View" yX9_wantsKeyOf yX9_wantsKeyOf cX9_wantsKeyOf 2 (some .boolean) 1 := ⟨a_372, a_30, a_366, a_368, a_367, by decide +kernel, Nat.le_of_ble_eq_true rfl⟩

theorem q_u_X3_X9_wantParts : VWu RX3 "Lensbench$View" yX9_wantParts yX9_wantParts cX9_wantParts 3 none 1 := ⟨a_352, a_30, a_346, a_349, a_347, by decide +kernel, Nat.le_of_ble_eq_true rfl⟩

theorem q_u_X3_X9_wantsKeyOf : VWu RX3 "Lensbench$View" yX9_wantsKeyOf yX9_wantsKeyOf cX9_wantsKeyOf 2 (some .boolean) 1 := ⟨a_372, a_30, a_366, a_369, a_367, by decide +kernel, Nat.le_of_ble_eq_true rfl⟩

theorem q_u_X5_X9_wantParts : VWu RX5 "Lensbench$View" yX9_wantParts yX9_wantParts cX9_wantParts 3 none 1 := ⟨a_352, a_30, a_346, a_350, a_347, by decide +kernel, Nat.le_of_ble_eq_true rfl⟩

theorem q_u_X5_X9_wantsKeyOf : VWu RX5 "Lensbench$View" yX9_wantsKeyOf yX9_wantsKeyOf cX9_wantsKeyOf 2 (some .boolean) 1 := ⟨a_372, a_30, a_366, a_370, a_367, by decide +kernel, Nat.le_of_ble_eq_true rfl⟩

theorem q_u_X7_X9_wantParts : VWu RX7 "Lensbench$View" yX9_wantParts yX9_wantParts cX9_wantParts 3 none 1 := ⟨a_352, a_30, a_346, a_351, a_347, by decide +kernel, Nat.le_of_ble_eq_true rfl⟩

theorem q_u_X7_X9_wantsKeyOf : VWu RX7 "Lensbench$View" yX9_wantsKeyOf yX9_wantsKeyOf cX9_wantsKeyOf 2 (some .boolean) 1 := ⟨a_372, a_30, a_366, a_371, a_367, by decide +kernel, Nat.le_of_ble_eq_true rfl⟩

set_option maxRecDepth 100000 in
set_option maxHeartbeats 4000000 in
theorem c_d3_passOn {l : Launch} {D : va_G} {cA : Nat → ClassId} {A : Nat → Prop} {ad : Cd → Nat} {L : List Cd} {G : Gt} {nt nv : Nat} (hG : WF L G nt nv) {v : Nat} (hv : v < nv) (hk : G v 6 = 2) {S : St} {S' : St} (hf : d3_passOn G nt nv v S = some S') : Ct l D cA A yX3_passOn cX3_passOn 3 none 3 0 0 [.ref (ad (4, v))] (DX D cA A ad L G S) none (DX D cA A ad L G S') := by
  refine Ct_of (by decide +kernel) (Nat.le_of_ble_eq_true rfl) ?_
  intro p e s m args below meth c ls hC hr hlk hnm hX hKX hl
  have hx := hC.1
  have hb := hC.2.1
  have hS : va_S A s.heap s.heap [] := va_S.rf
  have hl : lv_has ls 3 [(0, .ref (ad (4, v)))] := hl
  unfold d3_passOn at hf
  refine lv_aload_n hx hb dX3_passOn_0 rfl (lv_at hl 0 rfl) ?_
  refine dget (cd := (4, v)) (ci := 2) (C := RX3) (T := TX3) (N := 11) (v := .ref (ad (4, (vr G v)))) hx hb hC hKX.1 hX (hG.V hv) (dce_V2 hk) rfl inX3 9 (by decide) a_845 (Or.inl rfl) rfl dX3_passOn_1 ?_
  refine lv_aload_n hx hb dX3_passOn_4 rfl (lv_at hl 0 rfl) ?_
  refine dgetV (v := v) (k := 7) (x := .ref (ad (0, (23 + 2 * v)))) hx hb hC hKX.1 hX hG hv (by decide) a_744 (Or.inr a_745) rfl dX3_passOn_5 ?_
  obtain ⟨S13, hz11, hf⟩ := cb_e hf
  have KK : ∀ (H : Heap) (locs : List Loc), DX D cA A ad L G S13 H → va_S A s.heap H locs → W p l e (RM 3 0 0) s m args below meth c H locs 0 0 (MQ below (CtQ A none (DX D cA A ad L G S')) args s 0 0 A) (F0 m 11 ls []) := by
    intro H locs hX hS
    refine lv_iconst (v := 0) hx hb dX3_passOn_11 (by decide) ?_
    refine lv_istore_n (lv' := [(1, .int 0), (0, .ref (ad (4, v)))]) hx hb dX3_passOn_12 rfl hl (by decide) rfl (fun ls hl => ?_)
    obtain ⟨g16, g160, g16s, hf⟩ := lp2_e hf
    have Lg16 : ∀ (n : Nat) (x14 : Int32) (S15 : St) (H : Heap) (locs : List Loc) (ls : Array Slot), DX D cA A ad L G S15 H → va_S A s.heap H locs → lv_has ls 3 [(0, .ref (ad (4, v))), (1, .int x14)] → g16 n x14 S15 = some S' → W p l e (RM 3 0 0) s m args below meth c H locs 0 0 (MQ below (CtQ A none (DX D cA A ad L G S')) args s 0 0 A) (F0 m 13 ls []) := by
      intro n
      induction n with
      | zero => intro x14 S15 H locs ls hX hS hl hf; rw [g160] at hf; cases hf
      | succ n ihg16 =>
        intro x14 S15 H locs ls hX hS hl hf
        rw [g16s] at hf
        refine lv_iload_n hx hb dX3_passOn_13 rfl (lv_at hl 1 rfl) ?_
        refine lv_aload_n hx hb dX3_passOn_14 rfl (lv_at hl 0 rfl) ?_
        refine dget (cd := (4, v)) (ci := 2) (C := RX3) (T := TX3) (N := 11) (v := .ref (ad (4, (vr G v)))) hx hb hC hKX.1 hX (hG.V hv) (dce_V2 hk) rfl inX3 9 (by decide) a_845 (Or.inl rfl) rfl dX3_passOn_15 ?_
        refine dgetV (v := (vr G v)) (k := 6) (x := .ref (ad (0, (22 + 2 * (vr G v))))) hx hb hC hKX.1 hX hG (hG.r hv hk) (by decide) a_733 (Or.inl rfl) rfl dX3_passOn_18 ?_
        obtain ⟨z17, hz17, hf⟩ := cb_e hf
        refine dVx (cd := (0, (22 + 2 * (vr G v)))) (As := []) (rest := [.int x14]) hC (c_d4_size hG (hG.rs (hG.r hv hk)) hz17) q_d4_size a_363 (Nat.le_of_ble_eq_true rfl) hX hKX (hG.rs (hG.r hv hk)).1 rfl rfl rfl hl.1 (Nat.le_of_ble_eq_true rfl) dX3_passOn_21 hS (fun H locs hX hS => ?_)
        refine lv_icmp_ge (tgt := 67) hx hb dX3_passOn_24 (by decide) (fun c19 => ?_) (fun c19 => ?_)
        · have hf := it_t c19 hf
          refine lv_aload_n hx hb dX3_passOn_67 rfl (lv_at hl 0 rfl) ?_
          refine dget (cd := (4, v)) (ci := 2) (C := RX3) (T := TX3) (N := 11) (v := .ref (ad (4, (vl G v)))) hx hb hC hKX.1 hX (hG.V hv) (dce_V2 hk) rfl inX3 8 (by decide) a_844 (Or.inl rfl) rfl dX3_passOn_68 ?_
          refine lv_aload_n hx hb dX3_passOn_71 rfl (lv_at hl 0 rfl) ?_
          refine dgetV (v := v) (k := 7) (x := .ref (ad (0, (23 + 2 * v)))) hx hb hC hKX.1 hX hG hv (by decide) a_744 (Or.inr a_745) rfl dX3_passOn_72 ?_
          obtain ⟨S22, hz20, hf⟩ := cb_e hf
          have KK : ∀ (H : Heap) (locs : List Loc), DX D cA A ad L G S22 H → va_S A s.heap H locs → W p l e (RM 3 0 0) s m args below meth c H locs 0 0 (MQ below (CtQ A none (DX D cA A ad L G S')) args s 0 0 A) (F0 m 78 ls []) := by
            intro H locs hX hS
            refine lv_iconst (v := 0) hx hb dX3_passOn_78 (by decide) ?_
            refine lv_istore_n (lv' := [(1, .int 0), (0, .ref (ad (4, v)))]) hx hb dX3_passOn_79 rfl hl (by decide) rfl (fun ls hl => ?_)
            obtain ⟨g25, g250, g25s, hf⟩ := lp2_e hf
            have Lg25 : ∀ (n : Nat) (x23 : Int32) (S24 : St) (H : Heap) (locs : List Loc) (ls : Array Slot), DX D cA A ad L G S24 H → va_S A s.heap H locs → lv_has ls 3 [(0, .ref (ad (4, v))), (1, .int x23)] → g25 n x23 S24 = some S' → W p l e (RM 3 0 0) s m args below meth c H locs 0 0 (MQ below (CtQ A none (DX D cA A ad L G S')) args s 0 0 A) (F0 m 80 ls []) := by
              intro n
              induction n with
              | zero => intro x23 S24 H locs ls hX hS hl hf; rw [g250] at hf; cases hf
              | succ n ihg25 =>
                intro x23 S24 H locs ls hX hS hl hf
                rw [g25s] at hf
                refine lv_iload_n hx hb dX3_passOn_80 rfl (lv_at hl 1 rfl) ?_
                refine lv_aload_n hx hb dX3_passOn_81 rfl (lv_at hl 0 rfl) ?_
                refine dget (cd := (4, v)) (ci := 2) (C := RX3) (T := TX3) (N := 11) (v := .ref (ad (4, (vl G v)))) hx hb hC hKX.1 hX (hG.V hv) (dce_V2 hk) rfl inX3 8 (by decide) a_844 (Or.inl rfl) rfl dX3_passOn_82 ?_
                refine dgetV (v := (vl G v)) (k := 6) (x := .ref (ad (0, (22 + 2 * (vl G v))))) hx hb hC hKX.1 hX hG (hG.l hv (ne6_2 hk)) (by decide) a_733 (Or.inl rfl) rfl dX3_passOn_85 ?_
                obtain ⟨z26, hz26, hf⟩ := cb_e hf
                refine dVx (cd := (0, (22 + 2 * (vl G v)))) (As := []) (rest := [.int x23]) hC (c_d4_size hG (hG.rs (hG.l hv (ne6_2 hk))) hz26) q_d4_size a_363 (Nat.le_of_ble_eq_true rfl) hX hKX (hG.rs (hG.l hv (ne6_2 hk))).1 rfl rfl rfl hl.1 (Nat.le_of_ble_eq_true rfl) dX3_passOn_88 hS (fun H locs hX hS => ?_)
                refine lv_icmp_ge (tgt := 153) hx hb dX3_passOn_91 (by decide) (fun c28 => ?_) (fun c28 => ?_)
                · have hf := it_t c28 hf
                  cases hf
                  exact Ct_rv hx hb hr hlk hX hS dX3_passOn_153
                · have hf := it_f c28 hf
                  refine lv_aload_n hx hb dX3_passOn_94 rfl (lv_at hl 0 rfl) ?_
                  refine dget (cd := (4, v)) (ci := 2) (C := RX3) (T := TX3) (N := 11) (v := .ref (ad (4, (vl G v)))) hx hb hC hKX.1 hX (hG.V hv) (dce_V2 hk) rfl inX3 8 (by decide) a_844 (Or.inl rfl) rfl dX3_passOn_95 ?_
                  refine dgetV (v := (vl G v)) (k := 6) (x := .ref (ad (0, (22 + 2 * (vl G v))))) hx hb hC hKX.1 hX hG (hG.l hv (ne6_2 hk)) (by decide) a_733 (Or.inl rfl) rfl dX3_passOn_98 ?_
                  refine lv_iload_n hx hb dX3_passOn_101 rfl (lv_at hl 1 rfl) ?_
                  obtain ⟨z29, hz29, hf⟩ := cb_e hf
                  refine dVx (cd := (0, (22 + 2 * (vl G v)))) (As := [.int x23]) (rest := []) hC (c_d4_at hG (hG.rs (hG.l hv (ne6_2 hk))) hz29) q_d4_at a_364 (Nat.le_of_ble_eq_true rfl) hX hKX (hG.rs (hG.l hv (ne6_2 hk))).1 rfl rfl rfl hl.1 (Nat.le_of_ble_eq_true rfl) dX3_passOn_102 hS (fun H locs hX hS => ?_)
                  refine lv_istore_n (lv' := [(2, .int z29), (0, .ref (ad (4, v))), (1, .int x23)]) hx hb dX3_passOn_105 rfl hl (by decide) rfl (fun ls hl => ?_)
                  refine lv_aload_n hx hb dX3_passOn_106 rfl (lv_at hl 1 rfl) ?_
                  refine dget (cd := (4, v)) (ci := 2) (C := RX3) (T := TX3) (N := 11) (v := .ref (ad (4, (vl G v)))) hx hb hC hKX.1 hX (hG.V hv) (dce_V2 hk) rfl inX3 8 (by decide) a_844 (Or.inl rfl) rfl dX3_passOn_107 ?_
                  refine lv_iload_n hx hb dX3_passOn_110 rfl (lv_at hl 0 rfl) ?_
                  obtain ⟨z31, hz31, hf⟩ := cb_e hf
                  have KK : ∀ (H : Heap) (locs : List Loc), DX D cA A ad L G S24 H → va_S A s.heap H locs → W p l e (RM 3 0 0) s m args below meth c H locs 0 0 (MQ below (CtQ A none (DX D cA A ad L G S')) args s 0 0 A) (F0 m 114 ls [.int z31]) := by
                    intro H locs hX hS
                    refine lv_if_ne (tgt := 147) hx hb dX3_passOn_114 (by decide) (fun c33 => ?_) (fun c33 => ?_)
                    · have hf := it_f c33 hf
                      refine lv_iinc (v := (x23 + 1)) (lv' := [(1, .int (x23 + 1)), (2, .int z29), (0, .ref (ad (4, v)))]) hx hb dX3_passOn_147 hl (k := 2) rfl rfl (by decide) rfl (fun ls hl => ?_)
                      refine lv_goto (tgt := 80) hx hb dX3_passOn_150 (by decide) ?_
                      exact ihg25 _ _ _ _ _ hX hS (lv_sub hl [2, 0] rfl) hf
                    · have hf := it_t c33 hf
                      refine lv_aload_n hx hb dX3_passOn_117 rfl (lv_at hl 1 rfl) ?_
                      refine dget (cd := (4, v)) (ci := 2) (C := RX3) (T := TX3) (N := 11) (v := .ref (ad (4, (vr G v)))) hx hb hC hKX.1 hX (hG.V hv) (dce_V2 hk) rfl inX3 9 (by decide) a_845 (Or.inl rfl) rfl dX3_passOn_118 ?_
                      refine dgetV (v := (vr G v)) (k := 7) (x := .ref (ad (0, (23 + 2 * (vr G v))))) hx hb hC hKX.1 hX hG (hG.r hv hk) (by decide) a_748 (Or.inl rfl) rfl dX3_passOn_121 ?_
                      refine lv_iload_n hx hb dX3_passOn_124 rfl (lv_at hl 0 rfl) ?_
                      refine lv_aload_n hx hb dX3_passOn_125 rfl (lv_at hl 1 rfl) ?_
                      refine dget (cd := (4, v)) (ci := 2) (C := RX3) (T := TX3) (N := 11) (v := .int (G v 10)) hx hb hC hKX.1 hX (hG.V hv) (dce_V2 hk) rfl inX3 10 (by decide) a_846 (Or.inl rfl) rfl dX3_passOn_126 ?_
                      obtain ⟨z34, hz34, hf⟩ := cb_e hf
                      refine dVx (cd := (0, (23 + 2 * (vr G v)))) (As := [.int z29, .int (G v 10)]) (rest := []) hC (c_d4_firstLike hG (hG.rw (hG.r hv hk)) hz34) q_d4_firstLike a_375 (Nat.le_of_ble_eq_true rfl) hX hKX (hG.rw (hG.r hv hk)).1 rfl rfl rfl hl.1 (Nat.le_of_ble_eq_true rfl) dX3_passOn_129 hS (fun H locs hX hS => ?_)
                      refine lv_iconst (v := (-1)) hx hb dX3_passOn_132 (by decide) ?_
                      refine lv_icmp_ne (tgt := 147) hx hb dX3_passOn_133 (by decide) (fun c36 => ?_) (fun c36 => ?_)
                      · have hf := it_f c36 hf
                        refine lv_iinc (v := (x23 + 1)) (lv' := [(1, .int (x23 + 1)), (2, .int z29), (0, .ref (ad (4, v)))]) hx hb dX3_passOn_147 hl (k := 2) rfl rfl (by decide) rfl (fun ls hl => ?_)
                        refine lv_goto (tgt := 80) hx hb dX3_passOn_150 (by decide) ?_
                        exact ihg25 _ _ _ _ _ hX hS (lv_sub hl [2, 0] rfl) hf
                      · have hf := it_t c36 hf
                        refine lv_aload_n hx hb dX3_passOn_136 rfl (lv_at hl 1 rfl) ?_
                        refine dget (cd := (4, v)) (ci := 2) (C := RX3) (T := TX3) (N := 11) (v := .ref (ad (4, (vl G v)))) hx hb hC hKX.1 hX (hG.V hv) (dce_V2 hk) rfl inX3 8 (by decide) a_844 (Or.inl rfl) rfl dX3_passOn_137 ?_
                        refine dgetV (v := (vl G v)) (k := 7) (x := .ref (ad (0, (23 + 2 * (vl G v))))) hx hb hC hKX.1 hX hG (hG.l hv (ne6_2 hk)) (by decide) a_748 (Or.inl rfl) rfl dX3_passOn_140 ?_
                        refine lv_iload_n hx hb dX3_passOn_143 rfl (lv_at hl 0 rfl) ?_
                        obtain ⟨S39, hz37, hf⟩ := cb_e hf
                        refine dVv (cd := (0, (23 + 2 * (vl G v)))) (As := [.int z29]) (rest := []) hC (c_d4_put hG (hG.rw (hG.l hv (ne6_2 hk))) hz37) q_d4_put a_374 (Nat.le_of_ble_eq_true rfl) hX hKX (hG.rw (hG.l hv (ne6_2 hk))).1 rfl rfl rfl hl.1 (Nat.le_of_ble_eq_true rfl) dX3_passOn_144 hS (fun H locs hX hS => ?_)
                        refine lv_iinc (v := (x23 + 1)) (lv' := [(1, .int (x23 + 1)), (2, .int z29), (0, .ref (ad (4, v)))]) hx hb dX3_passOn_147 hl (k := 2) rfl rfl (by decide) rfl (fun ls hl => ?_)
                        refine lv_goto (tgt := 80) hx hb dX3_passOn_150 (by decide) ?_
                        exact ihg25 _ _ _ _ _ hX hS (lv_sub hl [2, 0] rfl) hf
                  rcases hG.K (hG.l hv (ne6_2 hk)) with hq32 | hq32 | hq32 | hq32
                  · skip
                    refine dUx (cd := (4, (vl G v))) (As := [.int z29]) (rest := []) hC (c_d9_wantsKeyOf hG (hG.l hv (ne6_2 hk)) hz31) q_u_X2_X9_wantsKeyOf (va_Decl.of (tA hC.2.2.2.2 a_366) (tA hC.2.2.2.2 a_372)) a_365 (Nat.le_of_ble_eq_true rfl) hX hKX (hG.V (hG.l hv (ne6_2 hk))) (dce_V1 hq32) rfl rfl hl.1 (Nat.le_of_ble_eq_true rfl) dX3_passOn_111 hS (fun H locs hX hS => ?_)
                    exact KK H locs hX hS
                  · skip
                    refine dUx (cd := (4, (vl G v))) (As := [.int z29]) (rest := []) hC (c_d9_wantsKeyOf hG (hG.l hv (ne6_2 hk)) hz31) q_u_X3_X9_wantsKeyOf (va_Decl.of (tA hC.2.2.2.2 a_366) (tA hC.2.2.2.2 a_372)) a_365 (Nat.le_of_ble_eq_true rfl) hX hKX (hG.V (hG.l hv (ne6_2 hk))) (dce_V2 hq32) rfl rfl hl.1 (Nat.le_of_ble_eq_true rfl) dX3_passOn_111 hS (fun H locs hX hS => ?_)
                    exact KK H locs hX hS
                  · skip
                    refine dUx (cd := (4, (vl G v))) (As := [.int z29]) (rest := []) hC (c_d9_wantsKeyOf hG (hG.l hv (ne6_2 hk)) hz31) q_u_X5_X9_wantsKeyOf (va_Decl.of (tA hC.2.2.2.2 a_366) (tA hC.2.2.2.2 a_372)) a_365 (Nat.le_of_ble_eq_true rfl) hX hKX (hG.V (hG.l hv (ne6_2 hk))) (dce_V4 hq32) rfl rfl hl.1 (Nat.le_of_ble_eq_true rfl) dX3_passOn_111 hS (fun H locs hX hS => ?_)
                    exact KK H locs hX hS
                  · skip
                    refine dUx (cd := (4, (vl G v))) (As := [.int z29]) (rest := []) hC (c_d9_wantsKeyOf hG (hG.l hv (ne6_2 hk)) hz31) q_u_X7_X9_wantsKeyOf (va_Decl.of (tA hC.2.2.2.2 a_366) (tA hC.2.2.2.2 a_372)) a_365 (Nat.le_of_ble_eq_true rfl) hX hKX (hG.V (hG.l hv (ne6_2 hk))) (dce_V6 hq32) rfl rfl hl.1 (Nat.le_of_ble_eq_true rfl) dX3_passOn_111 hS (fun H locs hX hS => ?_)
                    exact KK H locs hX hS
            exact Lg25 FU _ _ _ _ _ hX hS (lv_sub hl [1, 0] rfl) hf
          rcases hG.K (hG.l hv (ne6_2 hk)) with hq21 | hq21 | hq21 | hq21
          · skip
            refine dUv (cd := (4, (vl G v))) (As := [.ref (ad (0, (23 + 2 * v)))]) (rest := []) hC (c_d9_wantParts hG (hG.l hv (ne6_2 hk)) (hG.rw hv) hz20) q_u_X2_X9_wantParts (va_Decl.of (tA hC.2.2.2.2 a_346) (tA hC.2.2.2.2 a_352)) a_345 (Nat.le_of_ble_eq_true rfl) hX hKX (hG.V (hG.l hv (ne6_2 hk))) (dce_V1 hq21) rfl rfl hl.1 (Nat.le_of_ble_eq_true rfl) dX3_passOn_75 hS (fun H locs hX hS => ?_)
            exact KK H locs hX hS
          · skip
            refine dUv (cd := (4, (vl G v))) (As := [.ref (ad (0, (23 + 2 * v)))]) (rest := []) hC (c_d9_wantParts hG (hG.l hv (ne6_2 hk)) (hG.rw hv) hz20) q_u_X3_X9_wantParts (va_Decl.of (tA hC.2.2.2.2 a_346) (tA hC.2.2.2.2 a_352)) a_345 (Nat.le_of_ble_eq_true rfl) hX hKX (hG.V (hG.l hv (ne6_2 hk))) (dce_V2 hq21) rfl rfl hl.1 (Nat.le_of_ble_eq_true rfl) dX3_passOn_75 hS (fun H locs hX hS => ?_)
            exact KK H locs hX hS
          · skip
            refine dUv (cd := (4, (vl G v))) (As := [.ref (ad (0, (23 + 2 * v)))]) (rest := []) hC (c_d9_wantParts hG (hG.l hv (ne6_2 hk)) (hG.rw hv) hz20) q_u_X5_X9_wantParts (va_Decl.of (tA hC.2.2.2.2 a_346) (tA hC.2.2.2.2 a_352)) a_345 (Nat.le_of_ble_eq_true rfl) hX hKX (hG.V (hG.l hv (ne6_2 hk))) (dce_V4 hq21) rfl rfl hl.1 (Nat.le_of_ble_eq_true rfl) dX3_passOn_75 hS (fun H locs hX hS => ?_)
            exact KK H locs hX hS
          · skip
            refine dUv (cd := (4, (vl G v))) (As := [.ref (ad (0, (23 + 2 * v)))]) (rest := []) hC (c_d9_wantParts hG (hG.l hv (ne6_2 hk)) (hG.rw hv) hz20) q_u_X7_X9_wantParts (va_Decl.of (tA hC.2.2.2.2 a_346) (tA hC.2.2.2.2 a_352)) a_345 (Nat.le_of_ble_eq_true rfl) hX hKX (hG.V (hG.l hv (ne6_2 hk))) (dce_V6 hq21) rfl rfl hl.1 (Nat.le_of_ble_eq_true rfl) dX3_passOn_75 hS (fun H locs hX hS => ?_)
            exact KK H locs hX hS
        · have hf := it_f c19 hf
          refine lv_aload_n hx hb dX3_passOn_27 rfl (lv_at hl 0 rfl) ?_
          refine dget (cd := (4, v)) (ci := 2) (C := RX3) (T := TX3) (N := 11) (v := .ref (ad (4, (vr G v)))) hx hb hC hKX.1 hX (hG.V hv) (dce_V2 hk) rfl inX3 9 (by decide) a_845 (Or.inl rfl) rfl dX3_passOn_28 ?_
          refine dgetV (v := (vr G v)) (k := 6) (x := .ref (ad (0, (22 + 2 * (vr G v))))) hx hb hC hKX.1 hX hG (hG.r hv hk) (by decide) a_733 (Or.inl rfl) rfl dX3_passOn_31 ?_
          refine lv_iload_n hx hb dX3_passOn_34 rfl (lv_at hl 1 rfl) ?_
          obtain ⟨z40, hz40, hf⟩ := cb_e hf
          refine dVx (cd := (0, (22 + 2 * (vr G v)))) (As := [.int x14]) (rest := []) hC (c_d4_at hG (hG.rs (hG.r hv hk)) hz40) q_d4_at a_364 (Nat.le_of_ble_eq_true rfl) hX hKX (hG.rs (hG.r hv hk)).1 rfl rfl rfl hl.1 (Nat.le_of_ble_eq_true rfl) dX3_passOn_35 hS (fun H locs hX hS => ?_)
          refine lv_istore_n (lv' := [(2, .int z40), (0, .ref (ad (4, v))), (1, .int x14)]) hx hb dX3_passOn_38 rfl hl (by decide) rfl (fun ls hl => ?_)
          refine lv_aload_n hx hb dX3_passOn_39 rfl (lv_at hl 1 rfl) ?_
          refine dget (cd := (4, v)) (ci := 2) (C := RX3) (T := TX3) (N := 11) (v := .ref (ad (4, (vr G v)))) hx hb hC hKX.1 hX (hG.V hv) (dce_V2 hk) rfl inX3 9 (by decide) a_845 (Or.inl rfl) rfl dX3_passOn_40 ?_
          refine lv_iload_n hx hb dX3_passOn_43 rfl (lv_at hl 0 rfl) ?_
          obtain ⟨z42, hz42, hf⟩ := cb_e hf
          have KK : ∀ (H : Heap) (locs : List Loc), DX D cA A ad L G S15 H → va_S A s.heap H locs → W p l e (RM 3 0 0) s m args below meth c H locs 0 0 (MQ below (CtQ A none (DX D cA A ad L G S')) args s 0 0 A) (F0 m 47 ls [.int z42]) := by
            intro H locs hX hS
            refine lv_if_ne (tgt := 61) hx hb dX3_passOn_47 (by decide) (fun c44 => ?_) (fun c44 => ?_)
            · have hf := it_f c44 hf
              refine lv_iinc (v := (x14 + 1)) (lv' := [(1, .int (x14 + 1)), (2, .int z40), (0, .ref (ad (4, v)))]) hx hb dX3_passOn_61 hl (k := 2) rfl rfl (by decide) rfl (fun ls hl => ?_)
              refine lv_goto (tgt := 13) hx hb dX3_passOn_64 (by decide) ?_
              exact ihg16 _ _ _ _ _ hX hS (lv_sub hl [2, 0] rfl) hf
            · have hf := it_t c44 hf
              refine lv_aload_n hx hb dX3_passOn_50 rfl (lv_at hl 1 rfl) ?_
              refine dget (cd := (4, v)) (ci := 2) (C := RX3) (T := TX3) (N := 11) (v := .ref (ad (4, (vr G v)))) hx hb hC hKX.1 hX (hG.V hv) (dce_V2 hk) rfl inX3 9 (by decide) a_845 (Or.inl rfl) rfl dX3_passOn_51 ?_
              refine dgetV (v := (vr G v)) (k := 7) (x := .ref (ad (0, (23 + 2 * (vr G v))))) hx hb hC hKX.1 hX hG (hG.r hv hk) (by decide) a_748 (Or.inl rfl) rfl dX3_passOn_54 ?_
              refine lv_iload_n hx hb dX3_passOn_57 rfl (lv_at hl 0 rfl) ?_
              obtain ⟨S47, hz45, hf⟩ := cb_e hf
              refine dVv (cd := (0, (23 + 2 * (vr G v)))) (As := [.int z40]) (rest := []) hC (c_d4_put hG (hG.rw (hG.r hv hk)) hz45) q_d4_put a_374 (Nat.le_of_ble_eq_true rfl) hX hKX (hG.rw (hG.r hv hk)).1 rfl rfl rfl hl.1 (Nat.le_of_ble_eq_true rfl) dX3_passOn_58 hS (fun H locs hX hS => ?_)
              refine lv_iinc (v := (x14 + 1)) (lv' := [(1, .int (x14 + 1)), (2, .int z40), (0, .ref (ad (4, v)))]) hx hb dX3_passOn_61 hl (k := 2) rfl rfl (by decide) rfl (fun ls hl => ?_)
              refine lv_goto (tgt := 13) hx hb dX3_passOn_64 (by decide) ?_
              exact ihg16 _ _ _ _ _ hX hS (lv_sub hl [2, 0] rfl) hf
          rcases hG.K (hG.r hv hk) with hq43 | hq43 | hq43 | hq43
          · skip
            refine dUx (cd := (4, (vr G v))) (As := [.int z40]) (rest := []) hC (c_d9_wantsKeyOf hG (hG.r hv hk) hz42) q_u_X2_X9_wantsKeyOf (va_Decl.of (tA hC.2.2.2.2 a_366) (tA hC.2.2.2.2 a_372)) a_365 (Nat.le_of_ble_eq_true rfl) hX hKX (hG.V (hG.r hv hk)) (dce_V1 hq43) rfl rfl hl.1 (Nat.le_of_ble_eq_true rfl) dX3_passOn_44 hS (fun H locs hX hS => ?_)
            exact KK H locs hX hS
          · skip
            refine dUx (cd := (4, (vr G v))) (As := [.int z40]) (rest := []) hC (c_d9_wantsKeyOf hG (hG.r hv hk) hz42) q_u_X3_X9_wantsKeyOf (va_Decl.of (tA hC.2.2.2.2 a_366) (tA hC.2.2.2.2 a_372)) a_365 (Nat.le_of_ble_eq_true rfl) hX hKX (hG.V (hG.r hv hk)) (dce_V2 hq43) rfl rfl hl.1 (Nat.le_of_ble_eq_true rfl) dX3_passOn_44 hS (fun H locs hX hS => ?_)
            exact KK H locs hX hS
          · skip
            refine dUx (cd := (4, (vr G v))) (As := [.int z40]) (rest := []) hC (c_d9_wantsKeyOf hG (hG.r hv hk) hz42) q_u_X5_X9_wantsKeyOf (va_Decl.of (tA hC.2.2.2.2 a_366) (tA hC.2.2.2.2 a_372)) a_365 (Nat.le_of_ble_eq_true rfl) hX hKX (hG.V (hG.r hv hk)) (dce_V4 hq43) rfl rfl hl.1 (Nat.le_of_ble_eq_true rfl) dX3_passOn_44 hS (fun H locs hX hS => ?_)
            exact KK H locs hX hS
          · skip
            refine dUx (cd := (4, (vr G v))) (As := [.int z40]) (rest := []) hC (c_d9_wantsKeyOf hG (hG.r hv hk) hz42) q_u_X7_X9_wantsKeyOf (va_Decl.of (tA hC.2.2.2.2 a_366) (tA hC.2.2.2.2 a_372)) a_365 (Nat.le_of_ble_eq_true rfl) hX hKX (hG.V (hG.r hv hk)) (dce_V6 hq43) rfl rfl hl.1 (Nat.le_of_ble_eq_true rfl) dX3_passOn_44 hS (fun H locs hX hS => ?_)
            exact KK H locs hX hS
    exact Lg16 FU _ _ _ _ _ hX hS (lv_sub hl [1, 0] rfl) hf
  rcases hG.K (hG.r hv hk) with hq12 | hq12 | hq12 | hq12
  · skip
    refine dUv (cd := (4, (vr G v))) (As := [.ref (ad (0, (23 + 2 * v)))]) (rest := []) hC (c_d9_wantParts hG (hG.r hv hk) (hG.rw hv) hz11) q_u_X2_X9_wantParts (va_Decl.of (tA hC.2.2.2.2 a_346) (tA hC.2.2.2.2 a_352)) a_345 (Nat.le_of_ble_eq_true rfl) hX hKX (hG.V (hG.r hv hk)) (dce_V1 hq12) rfl rfl hl.1 (Nat.le_of_ble_eq_true rfl) dX3_passOn_8 hS (fun H locs hX hS => ?_)
    exact KK H locs hX hS
  · skip
    refine dUv (cd := (4, (vr G v))) (As := [.ref (ad (0, (23 + 2 * v)))]) (rest := []) hC (c_d9_wantParts hG (hG.r hv hk) (hG.rw hv) hz11) q_u_X3_X9_wantParts (va_Decl.of (tA hC.2.2.2.2 a_346) (tA hC.2.2.2.2 a_352)) a_345 (Nat.le_of_ble_eq_true rfl) hX hKX (hG.V (hG.r hv hk)) (dce_V2 hq12) rfl rfl hl.1 (Nat.le_of_ble_eq_true rfl) dX3_passOn_8 hS (fun H locs hX hS => ?_)
    exact KK H locs hX hS
  · skip
    refine dUv (cd := (4, (vr G v))) (As := [.ref (ad (0, (23 + 2 * v)))]) (rest := []) hC (c_d9_wantParts hG (hG.r hv hk) (hG.rw hv) hz11) q_u_X5_X9_wantParts (va_Decl.of (tA hC.2.2.2.2 a_346) (tA hC.2.2.2.2 a_352)) a_345 (Nat.le_of_ble_eq_true rfl) hX hKX (hG.V (hG.r hv hk)) (dce_V4 hq12) rfl rfl hl.1 (Nat.le_of_ble_eq_true rfl) dX3_passOn_8 hS (fun H locs hX hS => ?_)
    exact KK H locs hX hS
  · skip
    refine dUv (cd := (4, (vr G v))) (As := [.ref (ad (0, (23 + 2 * v)))]) (rest := []) hC (c_d9_wantParts hG (hG.r hv hk) (hG.rw hv) hz11) q_u_X7_X9_wantParts (va_Decl.of (tA hC.2.2.2.2 a_346) (tA hC.2.2.2.2 a_352)) a_345 (Nat.le_of_ble_eq_true rfl) hX hKX (hG.V (hG.r hv hk)) (dce_V6 hq12) rfl rfl hl.1 (Nat.le_of_ble_eq_true rfl) dX3_passOn_8 hS (fun H locs hX hS => ?_)
    exact KK H locs hX hS

theorem q_u_X5_X5_wantsKeyOf : VWu RX5 "Lensbench$View" ⟨"Lensbench$SelectView", "wantsKeyOf", "(I)Z"⟩ yX9_wantsKeyOf cX9_wantsKeyOf 2 (some .boolean) 1 := ⟨a_372, a_30, a_366, a_383, a_381, by decide +kernel, Nat.le_of_ble_eq_true rfl⟩

set_option maxRecDepth 100000 in
set_option maxHeartbeats 4000000 in
theorem c_d5_passOn {l : Launch} {D : va_G} {cA : Nat → ClassId} {A : Nat → Prop} {ad : Cd → Nat} {L : List Cd} {G : Gt} {nt nv : Nat} (hG : WF L G nt nv) {v : Nat} (hv : v < nv) (hk : G v 6 = 4) {S : St} {S' : St} (hf : d5_passOn G nt nv v S = some S') : Ct l D cA A yX5_passOn cX5_passOn 3 none 3 0 0 [.ref (ad (4, v))] (DX D cA A ad L G S) none (DX D cA A ad L G S') := by
  refine Ct_of (by decide +kernel) (Nat.le_of_ble_eq_true rfl) ?_
  intro p e s m args below meth c ls hC hr hlk hnm hX hKX hl
  have hx := hC.1
  have hb := hC.2.1
  have hS : va_S A s.heap s.heap [] := va_S.rf
  have hl : lv_has ls 3 [(0, .ref (ad (4, v)))] := hl
  unfold d5_passOn at hf
  refine lv_aload_n hx hb dX5_passOn_0 rfl (lv_at hl 0 rfl) ?_
  refine dget (cd := (4, v)) (ci := 4) (C := RX5) (T := TX5) (N := 12) (v := .ref (ad (4, (vl G v)))) hx hb hC hKX.1 hX (hG.V hv) (dce_V4 hk) rfl inX5 8 (by decide) a_689 (Or.inl rfl) rfl dX5_passOn_1 ?_
  refine dgetV (v := (vl G v)) (k := 7) (x := .ref (ad (0, (23 + 2 * (vl G v))))) hx hb hC hKX.1 hX hG (hG.l hv (ne6_4 hk)) (by decide) a_750 (Or.inl rfl) rfl dX5_passOn_4 ?_
  refine lv_aload_n hx hb dX5_passOn_7 rfl (lv_at hl 0 rfl) ?_
  refine dgetV (v := v) (k := 7) (x := .ref (ad (0, (23 + 2 * v)))) hx hb hC hKX.1 hX hG hv (by decide) a_741 (Or.inr a_742) rfl dX5_passOn_8 ?_
  obtain ⟨S13, hz11, hf⟩ := cb_e hf
  refine dVv (cd := (0, (23 + 2 * (vl G v)))) (As := [.ref (ad (0, (23 + 2 * v)))]) (rest := []) hC (c_d4_takeOver hG (hG.rw (hG.l hv (ne6_4 hk))) (hG.rw hv) hz11) q_d4_takeOver a_379 (Nat.le_of_ble_eq_true rfl) hX hKX (hG.rw (hG.l hv (ne6_4 hk))).1 rfl rfl rfl hl.1 (Nat.le_of_ble_eq_true rfl) dX5_passOn_11 hS (fun H locs hX hS => ?_)
  refine lv_iconst (v := 0) hx hb dX5_passOn_14 (by decide) ?_
  refine lv_istore_n (lv' := [(1, .int 0), (0, .ref (ad (4, v)))]) hx hb dX5_passOn_15 rfl hl (by decide) rfl (fun ls hl => ?_)
  obtain ⟨g16, g160, g16s, hf⟩ := lp2_e hf
  have Lg16 : ∀ (n : Nat) (x14 : Int32) (S15 : St) (H : Heap) (locs : List Loc) (ls : Array Slot), DX D cA A ad L G S15 H → va_S A s.heap H locs → lv_has ls 3 [(0, .ref (ad (4, v))), (1, .int x14)] → g16 n x14 S15 = some S' → W p l e (RM 3 0 0) s m args below meth c H locs 0 0 (MQ below (CtQ A none (DX D cA A ad L G S')) args s 0 0 A) (F0 m 16 ls []) := by
    intro n
    induction n with
    | zero => intro x14 S15 H locs ls hX hS hl hf; rw [g160] at hf; cases hf
    | succ n ihg16 =>
      intro x14 S15 H locs ls hX hS hl hf
      rw [g16s] at hf
      refine lv_iload_n hx hb dX5_passOn_16 rfl (lv_at hl 1 rfl) ?_
      refine lv_aload_n hx hb dX5_passOn_17 rfl (lv_at hl 0 rfl) ?_
      refine dget (cd := (4, v)) (ci := 4) (C := RX5) (T := TX5) (N := 12) (v := .ref (ad (4, (vl G v)))) hx hb hC hKX.1 hX (hG.V hv) (dce_V4 hk) rfl inX5 8 (by decide) a_689 (Or.inl rfl) rfl dX5_passOn_18 ?_
      refine dgetV (v := (vl G v)) (k := 6) (x := .ref (ad (0, (22 + 2 * (vl G v))))) hx hb hC hKX.1 hX hG (hG.l hv (ne6_4 hk)) (by decide) a_736 (Or.inl rfl) rfl dX5_passOn_21 ?_
      obtain ⟨z17, hz17, hf⟩ := cb_e hf
      refine dVx (cd := (0, (22 + 2 * (vl G v)))) (As := []) (rest := [.int x14]) hC (c_d4_size hG (hG.rs (hG.l hv (ne6_4 hk))) hz17) q_d4_size a_289 (Nat.le_of_ble_eq_true rfl) hX hKX (hG.rs (hG.l hv (ne6_4 hk))).1 rfl rfl rfl hl.1 (Nat.le_of_ble_eq_true rfl) dX5_passOn_24 hS (fun H locs hX hS => ?_)
      refine lv_icmp_ge (tgt := 75) hx hb dX5_passOn_27 (by decide) (fun c19 => ?_) (fun c19 => ?_)
      · have hf := it_t c19 hf
        cases hf
        exact Ct_rv hx hb hr hlk hX hS dX5_passOn_75
      · have hf := it_f c19 hf
        refine lv_aload_n hx hb dX5_passOn_30 rfl (lv_at hl 0 rfl) ?_
        refine dget (cd := (4, v)) (ci := 4) (C := RX5) (T := TX5) (N := 12) (v := .ref (ad (4, (vl G v)))) hx hb hC hKX.1 hX (hG.V hv) (dce_V4 hk) rfl inX5 8 (by decide) a_689 (Or.inl rfl) rfl dX5_passOn_31 ?_
        refine dgetV (v := (vl G v)) (k := 6) (x := .ref (ad (0, (22 + 2 * (vl G v))))) hx hb hC hKX.1 hX hG (hG.l hv (ne6_4 hk)) (by decide) a_736 (Or.inl rfl) rfl dX5_passOn_34 ?_
        refine lv_iload_n hx hb dX5_passOn_37 rfl (lv_at hl 1 rfl) ?_
        obtain ⟨z20, hz20, hf⟩ := cb_e hf
        refine dVx (cd := (0, (22 + 2 * (vl G v)))) (As := [.int x14]) (rest := []) hC (c_d4_at hG (hG.rs (hG.l hv (ne6_4 hk))) hz20) q_d4_at a_290 (Nat.le_of_ble_eq_true rfl) hX hKX (hG.rs (hG.l hv (ne6_4 hk))).1 rfl rfl rfl hl.1 (Nat.le_of_ble_eq_true rfl) dX5_passOn_38 hS (fun H locs hX hS => ?_)
        refine lv_istore_n (lv' := [(2, .int z20), (0, .ref (ad (4, v))), (1, .int x14)]) hx hb dX5_passOn_41 rfl hl (by decide) rfl (fun ls hl => ?_)
        refine lv_aload_n hx hb dX5_passOn_42 rfl (lv_at hl 1 rfl) ?_
        refine lv_iload_n hx hb dX5_passOn_43 rfl (lv_at hl 0 rfl) ?_
        obtain ⟨z22, hz22, hf⟩ := cb_e hf
        refine dVx (cd := (4, v)) (As := [.int z20]) (rest := []) hC (c_d5_selects hG hv hk hz22) q_d5_selects a_291 (Nat.le_of_ble_eq_true rfl) hX hKX (hG.V hv) (dce_V4 hk) rfl rfl hl.1 (Nat.le_of_ble_eq_true rfl) dX5_passOn_44 hS (fun H locs hX hS => ?_)
        refine lv_if_ne (tgt := 69) hx hb dX5_passOn_47 (by decide) (fun c24 => ?_) (fun c24 => ?_)
        · have hf := it_f c24 hf
          refine lv_iinc (v := (x14 + 1)) (lv' := [(1, .int (x14 + 1)), (2, .int z20), (0, .ref (ad (4, v)))]) hx hb dX5_passOn_69 hl (k := 2) rfl rfl (by decide) rfl (fun ls hl => ?_)
          refine lv_goto (tgt := 16) hx hb dX5_passOn_72 (by decide) ?_
          exact ihg16 _ _ _ _ _ hX hS (lv_sub hl [2, 0] rfl) hf
        · have hf := it_t c24 hf
          refine lv_aload_n hx hb dX5_passOn_50 rfl (lv_at hl 1 rfl) ?_
          refine lv_iload_n hx hb dX5_passOn_51 rfl (lv_at hl 0 rfl) ?_
          obtain ⟨z25, hz25, hf⟩ := cb_e hf
          refine dUx (cd := (4, v)) (As := [.int z20]) (rest := []) hC (c_d9_wantsKeyOf hG hv hz25) q_u_X5_X5_wantsKeyOf (va_Decl.of (tA hC.2.2.2.2 a_366) (tA hC.2.2.2.2 a_372)) a_380 (Nat.le_of_ble_eq_true rfl) hX hKX (hG.V hv) (dce_V4 hk) rfl rfl hl.1 (Nat.le_of_ble_eq_true rfl) dX5_passOn_52 hS (fun H locs hX hS => ?_)
          refine lv_if_ne (tgt := 69) hx hb dX5_passOn_55 (by decide) (fun c27 => ?_) (fun c27 => ?_)
          · have hf := it_f c27 hf
            refine lv_iinc (v := (x14 + 1)) (lv' := [(1, .int (x14 + 1)), (2, .int z20), (0, .ref (ad (4, v)))]) hx hb dX5_passOn_69 hl (k := 2) rfl rfl (by decide) rfl (fun ls hl => ?_)
            refine lv_goto (tgt := 16) hx hb dX5_passOn_72 (by decide) ?_
            exact ihg16 _ _ _ _ _ hX hS (lv_sub hl [2, 0] rfl) hf
          · have hf := it_t c27 hf
            refine lv_aload_n hx hb dX5_passOn_58 rfl (lv_at hl 1 rfl) ?_
            refine dget (cd := (4, v)) (ci := 4) (C := RX5) (T := TX5) (N := 12) (v := .ref (ad (4, (vl G v)))) hx hb hC hKX.1 hX (hG.V hv) (dce_V4 hk) rfl inX5 8 (by decide) a_689 (Or.inl rfl) rfl dX5_passOn_59 ?_
            refine dgetV (v := (vl G v)) (k := 7) (x := .ref (ad (0, (23 + 2 * (vl G v))))) hx hb hC hKX.1 hX hG (hG.l hv (ne6_4 hk)) (by decide) a_750 (Or.inl rfl) rfl dX5_passOn_62 ?_
            refine lv_iload_n hx hb dX5_passOn_65 rfl (lv_at hl 0 rfl) ?_
            obtain ⟨S30, hz28, hf⟩ := cb_e hf
            refine dVv (cd := (0, (23 + 2 * (vl G v)))) (As := [.int z20]) (rest := []) hC (c_d4_put hG (hG.rw (hG.l hv (ne6_4 hk))) hz28) q_d4_put a_384 (Nat.le_of_ble_eq_true rfl) hX hKX (hG.rw (hG.l hv (ne6_4 hk))).1 rfl rfl rfl hl.1 (Nat.le_of_ble_eq_true rfl) dX5_passOn_66 hS (fun H locs hX hS => ?_)
            refine lv_iinc (v := (x14 + 1)) (lv' := [(1, .int (x14 + 1)), (2, .int z20), (0, .ref (ad (4, v)))]) hx hb dX5_passOn_69 hl (k := 2) rfl rfl (by decide) rfl (fun ls hl => ?_)
            refine lv_goto (tgt := 16) hx hb dX5_passOn_72 (by decide) ?_
            exact ihg16 _ _ _ _ _ hX hS (lv_sub hl [2, 0] rfl) hf
  exact Lg16 FU _ _ _ _ _ hX hS (lv_sub hl [1, 0] rfl) hf

set_option maxRecDepth 100000 in
set_option maxHeartbeats 4000000 in
theorem c_d7_passOn {l : Launch} {D : va_G} {cA : Nat → ClassId} {A : Nat → Prop} {ad : Cd → Nat} {L : List Cd} {G : Gt} {nt nv : Nat} (hG : WF L G nt nv) {v : Nat} (hv : v < nv) (hk : G v 6 = 6) {S : St} {S' : St} (hf : d7_passOn G nt nv v S = some S') : Ct l D cA A yX7_passOn cX7_passOn 1 none 2 0 0 [.ref (ad (4, v))] (DX D cA A ad L G S) none (DX D cA A ad L G S') := by
  refine Ct_of (by decide +kernel) (Nat.le_of_ble_eq_true rfl) ?_
  intro p e s m args below meth c ls hC hr hlk hnm hX hKX hl
  have hx := hC.1
  have hb := hC.2.1
  have hS : va_S A s.heap s.heap [] := va_S.rf
  have hl : lv_has ls 1 [(0, .ref (ad (4, v)))] := hl
  unfold d7_passOn at hf
  refine lv_aload_n hx hb dX7_passOn_0 rfl (lv_at hl 0 rfl) ?_
  refine dget (cd := (4, v)) (ci := 6) (C := RX7) (T := TX7) (N := 9) (v := .ref (ad (2, (vt G v)))) hx hb hC hKX.1 hX (hG.V hv) (dce_V6 hk) rfl inX7 8 (by decide) a_876 (Or.inl rfl) rfl dX7_passOn_1 ?_
  refine dget (cd := (2, (vt G v))) (ci := 5) (C := RX6) (T := TX6) (N := 5) (v := .ref (ad (0, (2 + 7 * (vt G v))))) hx hb hC hKX.1 hX (hG.T (hG.T' hv hk).2) rfl rfl inX6 3 (by decide) a_921 (Or.inl rfl) rfl dX7_passOn_4 ?_
  refine lv_aload_n hx hb dX7_passOn_7 rfl (lv_at hl 0 rfl) ?_
  refine dgetV (v := v) (k := 7) (x := .ref (ad (0, (23 + 2 * v)))) hx hb hC hKX.1 hX hG hv (by decide) a_739 (Or.inr a_740) rfl dX7_passOn_8 ?_
  obtain ⟨S13, hz11, hf⟩ := cb_e hf
  refine dVv (cd := (0, (2 + 7 * (vt G v)))) (As := [.ref (ad (0, (23 + 2 * v)))]) (rest := []) hC (c_d4_takeOver hG (hG.r2 (hG.T' hv hk).2) (hG.rw hv) hz11) q_d4_takeOver a_388 (Nat.le_of_ble_eq_true rfl) hX hKX (hG.r2 (hG.T' hv hk).2).1 rfl rfl rfl hl.1 (Nat.le_of_ble_eq_true rfl) dX7_passOn_11 hS (fun H locs hX hS => ?_)
  cases hf
  exact Ct_rv hx hb hr hlk hX hS dX7_passOn_14

theorem q_u_X2_X9_passOn : VWu RX2 "Lensbench$View" ⟨"Lensbench$View", "passOn", "()V"⟩ yX2_passOn cX2_passOn 3 none 0 := ⟨a_309, a_32, a_308, a_307, a_306, by decide +kernel, Nat.le_of_ble_eq_true rfl⟩

theorem q_u_X2_X9_seekConflict : VWu RX2 "Lensbench$View" yX9_seekConflict yX9_seekConflict cX9_seekConflict 2 none 1 := ⟨a_262, a_30, a_256, a_258, a_257, by decide +kernel, Nat.le_of_ble_eq_true rfl⟩

theorem q_u_X3_X9_passOn : VWu RX3 "Lensbench$View" ⟨"Lensbench$View", "passOn", "()V"⟩ yX3_passOn cX3_passOn 3 none 0 := ⟨a_344, a_33, a_343, a_342, a_306, by decide +kernel, Nat.le_of_ble_eq_true rfl⟩

theorem q_u_X3_X9_seekConflict : VWu RX3 "Lensbench$View" yX9_seekConflict yX9_seekConflict cX9_seekConflict 2 none 1 := ⟨a_262, a_30, a_256, a_259, a_257, by decide +kernel, Nat.le_of_ble_eq_true rfl⟩

theorem q_u_X5_X9_passOn : VWu RX5 "Lensbench$View" ⟨"Lensbench$View", "passOn", "()V"⟩ yX5_passOn cX5_passOn 3 none 0 := ⟨a_378, a_31, a_377, a_376, a_306, by decide +kernel, Nat.le_of_ble_eq_true rfl⟩

theorem q_u_X5_X9_seekConflict : VWu RX5 "Lensbench$View" yX9_seekConflict yX9_seekConflict cX9_seekConflict 2 none 1 := ⟨a_262, a_30, a_256, a_260, a_257, by decide +kernel, Nat.le_of_ble_eq_true rfl⟩

theorem q_u_X7_X9_passOn : VWu RX7 "Lensbench$View" ⟨"Lensbench$View", "passOn", "()V"⟩ yX7_passOn cX7_passOn 1 none 0 := ⟨a_387, a_34, a_386, a_385, a_306, by decide +kernel, Nat.le_of_ble_eq_true rfl⟩

theorem q_u_X7_X9_seekConflict : VWu RX7 "Lensbench$View" yX9_seekConflict yX9_seekConflict cX9_seekConflict 2 none 1 := ⟨a_262, a_30, a_256, a_261, a_257, by decide +kernel, Nat.le_of_ble_eq_true rfl⟩

theorem q_d10_passDown : VWs yX10_passDown cX10_passDown 3 none 3 := ⟨a_250, a_16, a_249, by decide +kernel, Nat.le_of_ble_eq_true rfl⟩
set_option maxRecDepth 100000 in
set_option maxHeartbeats 4000000 in
theorem c_d10_passDown {l : Launch} {D : va_G} {cA : Nat → ClassId} {A : Nat → Prop} {ad : Cd → Nat} {L : List Cd} {G : Gt} {nt nv : Nat} (hG : WF L G nt nv) : ∀ (n : Nat) {o1 : Option Nat} {x3 : Int32} {S : St} {S' : St} (hf : d10_passDown G nt nv n o1 x3 S = some S'), Ct l D cA A yX10_passDown cX10_passDown 3 none (4 + n + 1) 0 0 [rO ad 4 o1, .ref (ad (5, 3)), .int x3] (DX D cA A ad L G S) none (DX D cA A ad L G S') := by
  intro n
  induction n with
  | zero => intro o1 x3 S S' hf; cases hf
  | succ n ih =>
  intro o1 x3 S S' hf
  refine Ct_of (by decide +kernel) (by cases o1 <;> exact Nat.le_of_ble_eq_true rfl) ?_
  intro p e s m args below meth c ls hC hr hlk hnm hX hKX hl
  have hx := hC.1
  have hb := hC.2.1
  have hS : va_S A s.heap s.heap [] := va_S.rf
  have hl : lv_has ls 3 [(0, rO ad 4 o1), (1, .ref (ad (5, 3))), (2, .int x3)] := by cases o1 <;> exact hl
  have hf : (oc o1 (some S) fun (u11 : Nat) => gd (u11 < nv) <| if 10 ≤ x3 then (some S) else (cb (d0_isTold S) fun (z14 : Int32) => if z14 = 0 then (cb (d9_seekConflict G nt nv u11 S) fun (S19 : St) => cb (d0_isTold S19) fun (z20 : Int32) => if z20 = 0 then (cb (vd (G u11 6) (d2_passOn G nt nv u11 S19) (d3_passOn G nt nv u11 S19) (d5_passOn G nt nv u11 S19) (d7_passOn G nt nv u11 S19)) fun (S25 : St) => lt (oid (G u11 5)) fun (o26 : Option Nat) => cb (d10_passDown G nt nv n o26 (x3 + 1) S25) fun (S29 : St) => lt (oid (G u11 4)) fun (o30 : Option Nat) => cb (d10_passDown G nt nv n o30 (x3 + 1) S29) fun (S33 : St) => some S33) else (some S19)) else (some S))) = some S' := hf
  refine lv_aloadO_n hx hb dX10_passDown_0 rfl (lv_at hl 0 rfl) ?_
  rcases oc_e hf with ⟨ho, hf⟩ | ⟨u11, ho, hf⟩
  · subst ho
    have hl : lv_has ls 3 [(0, .null), (1, .ref (ad (5, 3))), (2, .int x3)] := hl
    refine lv_ifnullN (tgt := 17) hx hb dX10_passDown_1 (by decide) ?_
    cases hf
    exact Ct_rv hx hb hr hlk hX hS dX10_passDown_17
  · subst ho
    obtain ⟨h12, hf⟩ := gd_e hf
    have hl : lv_has ls 3 [(0, .ref (ad (4, u11))), (1, .ref (ad (5, 3))), (2, .int x3)] := hl
    refine lv_ifnull (x := ad (4, u11)) hx hb dX10_passDown_1 ?_
    refine lv_iload_n hx hb dX10_passDown_4 rfl (lv_at hl 2 rfl) ?_
    refine lv_bipush (v := 10) hx hb dX10_passDown_5 (by decide) ?_
    refine lv_icmp_ge (tgt := 17) hx hb dX10_passDown_7 (by decide) (fun c13 => ?_) (fun c13 => ?_)
    · have hf := it_t c13 hf
      cases hf
      exact Ct_rv hx hb hr hlk hX hS dX10_passDown_17
    · have hf := it_f c13 hf
      refine lv_aload_n hx hb dX10_passDown_10 rfl (lv_at hl 1 rfl) ?_
      obtain ⟨z14, hz14, hf⟩ := cb_e hf
      refine dVx (cd := (5, 3)) (As := []) (rest := []) hC (c_d0_isTold hG hz14) q_d0_isTold a_251 (by omega) hX hKX (hG.F 3 (by decide)) rfl rfl rfl hl.1 (Nat.le_of_ble_eq_true rfl) dX10_passDown_11 hS (fun H locs hX hS => ?_)
      refine lv_if_eq (tgt := 18) hx hb dX10_passDown_14 (by decide) (fun c16 => ?_) (fun c16 => ?_)
      · have hf := it_t c16 hf
        refine lv_aload_n hx hb dX10_passDown_18 rfl (lv_at hl 0 rfl) ?_
        refine lv_aload_n hx hb dX10_passDown_19 rfl (lv_at hl 1 rfl) ?_
        obtain ⟨S19, hz17, hf⟩ := cb_e hf
        have KK : ∀ (H : Heap) (locs : List Loc), DX D cA A ad L G S19 H → va_S A s.heap H locs → W p l e (RM (4 + (n + 1) + 1) 0 0) s m args below meth c H locs 0 0 (MQ below (CtQ A none (DX D cA A ad L G S')) args s 0 0 A) (F0 m 23 ls []) := by
          intro H locs hX hS
          refine lv_aload_n hx hb dX10_passDown_23 rfl (lv_at hl 1 rfl) ?_
          obtain ⟨z20, hz20, hf⟩ := cb_e hf
          refine dVx (cd := (5, 3)) (As := []) (rest := []) hC (c_d0_isTold hG hz20) q_d0_isTold a_251 (by omega) hX hKX (hG.F 3 (by decide)) rfl rfl rfl hl.1 (Nat.le_of_ble_eq_true rfl) dX10_passDown_24 hS (fun H locs hX hS => ?_)
          refine lv_if_eq (tgt := 31) hx hb dX10_passDown_27 (by decide) (fun c22 => ?_) (fun c22 => ?_)
          · have hf := it_t c22 hf
            refine lv_aload_n hx hb dX10_passDown_31 rfl (lv_at hl 0 rfl) ?_
            obtain ⟨S25, hz23, hf⟩ := cb_e hf
            have KK : ∀ (H : Heap) (locs : List Loc), DX D cA A ad L G S25 H → va_S A s.heap H locs → W p l e (RM (4 + (n + 1) + 1) 0 0) s m args below meth c H locs 0 0 (MQ below (CtQ A none (DX D cA A ad L G S')) args s 0 0 A) (F0 m 35 ls []) := by
              intro H locs hX hS
              refine lv_aload_n hx hb dX10_passDown_35 rfl (lv_at hl 0 rfl) ?_
              obtain ⟨o26, eo26, hf⟩ := lt_e hf
              refine dgetV (v := u11) (k := 5) (x := rO ad 4 o26) hx hb hC hKX.1 hX hG h12 (by decide) a_724 (Or.inl rfl) (by rw [eo26]; rfl) dX10_passDown_36 ?_
              refine lv_aload_n hx hb dX10_passDown_39 rfl (lv_at hl 1 rfl) ?_
              refine lv_iload_n hx hb dX10_passDown_40 rfl (lv_at hl 2 rfl) ?_
              refine lv_iconst (v := 1) hx hb dX10_passDown_41 (by decide) ?_
              refine lv_iadd hx hb dX10_passDown_42 ?_
              obtain ⟨S29, hz27, hf⟩ := cb_e hf
              refine dSv (As := [rO ad 4 o26, .ref (ad (5, 3)), .int (x3 + 1)]) (rest := []) hC (ih hz27) q_d10_passDown a_248 (by omega) hX hKX rfl hl.1 (Nat.le_of_ble_eq_true rfl) dX10_passDown_43 hS (fun H locs hX hS => ?_)
              refine lv_aload_n hx hb dX10_passDown_46 rfl (lv_at hl 0 rfl) ?_
              obtain ⟨o30, eo30, hf⟩ := lt_e hf
              refine dgetV (v := u11) (k := 4) (x := rO ad 4 o30) hx hb hC hKX.1 hX hG h12 (by decide) a_722 (Or.inl rfl) (by rw [eo30]; rfl) dX10_passDown_47 ?_
              refine lv_aload_n hx hb dX10_passDown_50 rfl (lv_at hl 1 rfl) ?_
              refine lv_iload_n hx hb dX10_passDown_51 rfl (lv_at hl 2 rfl) ?_
              refine lv_iconst (v := 1) hx hb dX10_passDown_52 (by decide) ?_
              refine lv_iadd hx hb dX10_passDown_53 ?_
              obtain ⟨S33, hz31, hf⟩ := cb_e hf
              refine dSv (As := [rO ad 4 o30, .ref (ad (5, 3)), .int (x3 + 1)]) (rest := []) hC (ih hz31) q_d10_passDown a_248 (by omega) hX hKX rfl hl.1 (Nat.le_of_ble_eq_true rfl) dX10_passDown_54 hS (fun H locs hX hS => ?_)
              cases hf
              exact Ct_rv hx hb hr hlk hX hS dX10_passDown_57
            rcases hG.K h12 with hq24 | hq24 | hq24 | hq24
            · have hz23 := vd_1 hq24 hz23
              refine dUv (cd := (4, u11)) (As := []) (rest := []) hC (c_d2_passOn hG h12 hq24 hz23) q_u_X2_X9_passOn (va_Decl.abs hKX.2.1.2.1) a_304 (by omega) hX hKX (hG.V h12) (dce_V1 hq24) rfl rfl hl.1 (Nat.le_of_ble_eq_true rfl) dX10_passDown_32 hS (fun H locs hX hS => ?_)
              exact KK H locs hX hS
            · have hz23 := vd_2 hq24 hz23
              refine dUv (cd := (4, u11)) (As := []) (rest := []) hC (c_d3_passOn hG h12 hq24 hz23) q_u_X3_X9_passOn (va_Decl.abs hKX.2.1.2.1) a_304 (by omega) hX hKX (hG.V h12) (dce_V2 hq24) rfl rfl hl.1 (Nat.le_of_ble_eq_true rfl) dX10_passDown_32 hS (fun H locs hX hS => ?_)
              exact KK H locs hX hS
            · have hz23 := vd_4 hq24 hz23
              refine dUv (cd := (4, u11)) (As := []) (rest := []) hC (c_d5_passOn hG h12 hq24 hz23) q_u_X5_X9_passOn (va_Decl.abs hKX.2.1.2.1) a_304 (by omega) hX hKX (hG.V h12) (dce_V4 hq24) rfl rfl hl.1 (Nat.le_of_ble_eq_true rfl) dX10_passDown_32 hS (fun H locs hX hS => ?_)
              exact KK H locs hX hS
            · have hz23 := vd_6 hq24 hz23
              refine dUv (cd := (4, u11)) (As := []) (rest := []) hC (c_d7_passOn hG h12 hq24 hz23) q_u_X7_X9_passOn (va_Decl.abs hKX.2.1.2.1) a_304 (by omega) hX hKX (hG.V h12) (dce_V6 hq24) rfl rfl hl.1 (Nat.le_of_ble_eq_true rfl) dX10_passDown_32 hS (fun H locs hX hS => ?_)
              exact KK H locs hX hS
          · have hf := it_f c22 hf
            cases hf
            exact Ct_rv hx hb hr hlk hX hS dX10_passDown_30
        rcases hG.K h12 with hq18 | hq18 | hq18 | hq18
        · skip
          refine dUv (cd := (4, u11)) (As := [.ref (ad (5, 3))]) (rest := []) hC (c_d9_seekConflict hG h12 hz17) q_u_X2_X9_seekConflict (va_Decl.of (tA hC.2.2.2.2 a_256) (tA hC.2.2.2.2 a_262)) a_255 (by omega) hX hKX (hG.V h12) (dce_V1 hq18) rfl rfl hl.1 (Nat.le_of_ble_eq_true rfl) dX10_passDown_20 hS (fun H locs hX hS => ?_)
          exact KK H locs hX hS
        · skip
          refine dUv (cd := (4, u11)) (As := [.ref (ad (5, 3))]) (rest := []) hC (c_d9_seekConflict hG h12 hz17) q_u_X3_X9_seekConflict (va_Decl.of (tA hC.2.2.2.2 a_256) (tA hC.2.2.2.2 a_262)) a_255 (by omega) hX hKX (hG.V h12) (dce_V2 hq18) rfl rfl hl.1 (Nat.le_of_ble_eq_true rfl) dX10_passDown_20 hS (fun H locs hX hS => ?_)
          exact KK H locs hX hS
        · skip
          refine dUv (cd := (4, u11)) (As := [.ref (ad (5, 3))]) (rest := []) hC (c_d9_seekConflict hG h12 hz17) q_u_X5_X9_seekConflict (va_Decl.of (tA hC.2.2.2.2 a_256) (tA hC.2.2.2.2 a_262)) a_255 (by omega) hX hKX (hG.V h12) (dce_V4 hq18) rfl rfl hl.1 (Nat.le_of_ble_eq_true rfl) dX10_passDown_20 hS (fun H locs hX hS => ?_)
          exact KK H locs hX hS
        · skip
          refine dUv (cd := (4, u11)) (As := [.ref (ad (5, 3))]) (rest := []) hC (c_d9_seekConflict hG h12 hz17) q_u_X7_X9_seekConflict (va_Decl.of (tA hC.2.2.2.2 a_256) (tA hC.2.2.2.2 a_262)) a_255 (by omega) hX hKX (hG.V h12) (dce_V6 hq18) rfl rfl hl.1 (Nat.le_of_ble_eq_true rfl) dX10_passDown_20 hS (fun H locs hX hS => ?_)
          exact KK H locs hX hS
      · have hf := it_f c16 hf
        cases hf
        exact Ct_rv hx hb hr hlk hX hS dX10_passDown_17

theorem q_d10_planPutBack : VWv RX10 yX10_planPutBack cX10_planPutBack 3 none 0 := ⟨a_224, a_16, a_223, a_1, by decide +kernel, Nat.le_of_ble_eq_true rfl⟩
set_option maxRecDepth 100000 in
set_option maxHeartbeats 4000000 in
theorem c_d10_planPutBack {l : Launch} {D : va_G} {cA : Nat → ClassId} {A : Nat → Prop} {ad : Cd → Nat} {L : List Cd} {G : Gt} {nt nv : Nat} (hG : WF L G nt nv)  {S : St} {S' : St} (hf : d10_planPutBack G nt nv S = some S') : Ct l D cA A yX10_planPutBack cX10_planPutBack 3 none 18 0 0 [.ref (ad (5, 0))] (DX D cA A ad L G S) none (DX D cA A ad L G S') := by
  refine Ct_of (by decide +kernel) (Nat.le_of_ble_eq_true rfl) ?_
  intro p e s m args below meth c ls hC hr hlk hnm hX hKX hl
  have hx := hC.1
  have hb := hC.2.1
  have hS : va_S A s.heap s.heap [] := va_S.rf
  have hl : lv_has ls 3 [(0, .ref (ad (5, 0)))] := hl
  unfold d10_planPutBack at hf
  refine lv_iconst (v := 0) hx hb dX10_planPutBack_0 (by decide) ?_
  refine lv_istore_n (lv' := [(1, .int 0), (0, .ref (ad (5, 0)))]) hx hb dX10_planPutBack_1 rfl hl (by decide) rfl (fun ls hl => ?_)
  obtain ⟨g13, g130, g13s, hf⟩ := lp2_e hf
  have Lg13 : ∀ (n : Nat) (x11 : Int32) (S12 : St) (H : Heap) (locs : List Loc) (ls : Array Slot), DX D cA A ad L G S12 H → va_S A s.heap H locs → lv_has ls 3 [(0, .ref (ad (5, 0))), (1, .int x11)] → g13 n x11 S12 = some S' → W p l e (RM 18 0 0) s m args below meth c H locs 0 0 (MQ below (CtQ A none (DX D cA A ad L G S')) args s 0 0 A) (F0 m 2 ls []) := by
    intro n
    induction n with
    | zero => intro x11 S12 H locs ls hX hS hl hf; rw [g130] at hf; cases hf
    | succ n ihg13 =>
      intro x11 S12 H locs ls hX hS hl hf
      rw [g13s] at hf
      refine lv_iload_n hx hb dX10_planPutBack_2 rfl (lv_at hl 1 rfl) ?_
      refine lv_aload_n hx hb dX10_planPutBack_3 rfl (lv_at hl 0 rfl) ?_
      refine dget (cd := (5, 0)) (ci := 8) (C := RX10) (T := TX10) (N := 9) (v := .int (S12.1 42)) hx hb hC hKX.1 hX (hG.F 0 (by decide)) rfl rfl inX10 1 (by decide) a_107 (Or.inl rfl) rfl dX10_planPutBack_4 ?_
      refine lv_icmp_ge (tgt := 37) hx hb dX10_planPutBack_7 (by decide) (fun c14 => ?_) (fun c14 => ?_)
      · have hf := it_t c14 hf
        refine lv_aload_n hx hb dX10_planPutBack_37 rfl (lv_at hl 0 rfl) ?_
        refine dget (cd := (5, 0)) (ci := 8) (C := RX10) (T := TX10) (N := 9) (v := .ref (ad (5, 3))) hx hb hC hKX.1 hX (hG.F 0 (by decide)) rfl rfl inX10 6 (by decide) a_112 (Or.inl rfl) rfl dX10_planPutBack_38 ?_
        obtain ⟨S17, hz15, hf⟩ := cb_e hf
        refine dVv (cd := (5, 3)) (As := []) (rest := []) hC (c_d0_clear hG hz15) q_d0_clear a_240 (Nat.le_of_ble_eq_true rfl) hX hKX (hG.F 3 (by decide)) rfl rfl rfl hl.1 (Nat.le_of_ble_eq_true rfl) dX10_planPutBack_41 hS (fun H locs hX hS => ?_)
        refine lv_aload_n hx hb dX10_planPutBack_44 rfl (lv_at hl 0 rfl) ?_
        obtain ⟨o18, eo18, hf⟩ := lt_e hf
        refine dget (cd := (5, 0)) (ci := 8) (C := RX10) (T := TX10) (N := 9) (v := rO ad 4 o18) hx hb hC hKX.1 hX (hG.F 0 (by decide)) rfl rfl inX10 5 (by decide) a_111 (Or.inl rfl) (by rw [eo18]; rfl) dX10_planPutBack_45 ?_
        rcases oc_e hf with ⟨ho, hf⟩ | ⟨u19, ho, hf⟩
        · subst ho
          have hl : lv_has ls 3 [(0, .ref (ad (5, 0))), (1, .int x11)] := hl
          refine lv_ifnullN (tgt := 77) hx hb dX10_planPutBack_48 (by decide) ?_
          cases hf
          exact Ct_rv hx hb hr hlk hX hS dX10_planPutBack_77
        · subst ho
          obtain ⟨h20, hf⟩ := gd_e hf
          have hl : lv_has ls 3 [(0, .ref (ad (5, 0))), (1, .int x11)] := hl
          refine lv_ifnull (x := ad (4, u19)) hx hb dX10_planPutBack_48 ?_
          refine lv_aload_n hx hb dX10_planPutBack_51 rfl (lv_at hl 0 rfl) ?_
          obtain ⟨o21, eo21, hf⟩ := lt_e hf
          refine dget (cd := (5, 0)) (ci := 8) (C := RX10) (T := TX10) (N := 9) (v := rO ad 4 o21) hx hb hC hKX.1 hX (hG.F 0 (by decide)) rfl rfl inX10 5 (by decide) a_111 (Or.inl rfl) (by rw [eo21]; rfl) dX10_planPutBack_52 ?_
          rcases oc_e hf with ⟨ho, hf⟩ | ⟨u22, ho, hf⟩
          · cases hf
          subst ho
          obtain ⟨h23, hf⟩ := gd_e hf
          have hl : lv_has ls 3 [(0, .ref (ad (5, 0))), (1, .int x11)] := hl
          refine W.eq (g2 := F0 m 55 ls [.ref (ad (4, u22))]) rfl ?_
          refine dgetV (v := u22) (k := 7) (x := .ref (ad (0, (23 + 2 * u22)))) hx hb hC hKX.1 hX hG h23 (by decide) a_751 (Or.inl rfl) rfl dX10_planPutBack_55 ?_
          refine lv_aload_n hx hb dX10_planPutBack_58 rfl (lv_at hl 0 rfl) ?_
          refine dget (cd := (5, 0)) (ci := 8) (C := RX10) (T := TX10) (N := 9) (v := .ref (ad (0, 0))) hx hb hC hKX.1 hX (hG.F 0 (by decide)) rfl rfl inX10 4 (by decide) a_110 (Or.inl rfl) rfl dX10_planPutBack_59 ?_
          obtain ⟨S26, hz24, hf⟩ := cb_e hf
          refine dVv (cd := (0, (23 + 2 * u22))) (As := [.ref (ad (0, 0))]) (rest := []) hC (c_d4_takeOver hG (hG.rw h23) hG.r0 hz24) q_d4_takeOver a_229 (Nat.le_of_ble_eq_true rfl) hX hKX (hG.rw h23).1 rfl rfl rfl hl.1 (Nat.le_of_ble_eq_true rfl) dX10_planPutBack_62 hS (fun H locs hX hS => ?_)
          refine lv_aload_n hx hb dX10_planPutBack_65 rfl (lv_at hl 0 rfl) ?_
          obtain ⟨o27, eo27, hf⟩ := lt_e hf
          refine dget (cd := (5, 0)) (ci := 8) (C := RX10) (T := TX10) (N := 9) (v := rO ad 4 o27) hx hb hC hKX.1 hX (hG.F 0 (by decide)) rfl rfl inX10 5 (by decide) a_111 (Or.inl rfl) (by rw [eo27]; rfl) dX10_planPutBack_66 ?_
          refine lv_aload_n hx hb dX10_planPutBack_69 rfl (lv_at hl 0 rfl) ?_
          refine dget (cd := (5, 0)) (ci := 8) (C := RX10) (T := TX10) (N := 9) (v := .ref (ad (5, 3))) hx hb hC hKX.1 hX (hG.F 0 (by decide)) rfl rfl inX10 6 (by decide) a_112 (Or.inl rfl) rfl dX10_planPutBack_70 ?_
          refine lv_iconst (v := 0) hx hb dX10_planPutBack_73 (by decide) ?_
          obtain ⟨S30, hz28, hf⟩ := cb_e hf
          refine dSv (As := [rO ad 4 o27, .ref (ad (5, 3)), .int 0]) (rest := []) hC (c_d10_passDown hG 12 hz28) q_d10_passDown a_248 (Nat.le_of_ble_eq_true rfl) hX hKX rfl hl.1 (Nat.le_of_ble_eq_true rfl) dX10_planPutBack_74 hS (fun H locs hX hS => ?_)
          cases hf
          exact Ct_rv hx hb hr hlk hX hS dX10_planPutBack_77
      · have hf := it_f c14 hf
        refine lv_aload_n hx hb dX10_planPutBack_10 rfl (lv_at hl 0 rfl) ?_
        refine lv_iload_n hx hb dX10_planPutBack_11 rfl (lv_at hl 1 rfl) ?_
        obtain ⟨z31, hz31, hf⟩ := cb_e hf
        refine dVx (cd := (5, 0)) (As := [.int x11]) (rest := []) hC (c_d10_tableAt hG hz31) q_d10_tableAt a_225 (Nat.le_of_ble_eq_true rfl) hX hKX (hG.F 0 (by decide)) rfl rfl rfl hl.1 (Nat.le_of_ble_eq_true rfl) dX10_planPutBack_12 hS (fun H locs hX hS => ?_)
        refine lv_astoreO_n (lv' := [(2, rO ad 2 z31), (0, .ref (ad (5, 0))), (1, .int x11)]) hx hb dX10_planPutBack_15 rfl hl (by decide) rfl (fun ls hl => ?_)
        refine lv_aloadO_n hx hb dX10_planPutBack_16 rfl (lv_at hl 0 rfl) ?_
        rcases oc_e hf with ⟨ho, hf⟩ | ⟨u33, ho, hf⟩
        · subst ho
          have hl : lv_has ls 3 [(2, .null), (0, .ref (ad (5, 0))), (1, .int x11)] := hl
          refine lv_ifnullN (tgt := 31) hx hb dX10_planPutBack_17 (by decide) ?_
          refine lv_iinc (v := (x11 + 1)) (lv' := [(1, .int (x11 + 1)), (2, .null), (0, .ref (ad (5, 0)))]) hx hb dX10_planPutBack_31 hl (k := 2) rfl rfl (by decide) rfl (fun ls hl => ?_)
          refine lv_goto (tgt := 2) hx hb dX10_planPutBack_34 (by decide) ?_
          exact ihg13 _ _ _ _ _ hX hS (lv_sub hl [2, 0] rfl) hf
        · subst ho
          obtain ⟨h34, hf⟩ := gd_e hf
          have hl : lv_has ls 3 [(2, .ref (ad (2, u33))), (0, .ref (ad (5, 0))), (1, .int x11)] := hl
          refine lv_ifnull (x := ad (2, u33)) hx hb dX10_planPutBack_17 ?_
          refine lv_aload_n hx hb dX10_planPutBack_20 rfl (lv_at hl 0 rfl) ?_
          refine dget (cd := (2, u33)) (ci := 5) (C := RX6) (T := TX6) (N := 5) (v := .ref (ad (0, (2 + 7 * u33)))) hx hb hC hKX.1 hX (hG.T h34) rfl rfl inX6 3 (by decide) a_922 (Or.inl rfl) rfl dX10_planPutBack_21 ?_
          refine lv_aload_n hx hb dX10_planPutBack_24 rfl (lv_at hl 0 rfl) ?_
          refine dget (cd := (2, u33)) (ci := 5) (C := RX6) (T := TX6) (N := 5) (v := .ref (ad (0, (1 + 7 * u33)))) hx hb hC hKX.1 hX (hG.T h34) rfl rfl inX6 2 (by decide) a_919 (Or.inl rfl) rfl dX10_planPutBack_25 ?_
          obtain ⟨S37, hz35, hf⟩ := cb_e hf
          refine dVv (cd := (0, (2 + 7 * u33))) (As := [.ref (ad (0, (1 + 7 * u33)))]) (rest := []) hC (c_d4_takeOver hG (hG.r2 h34) (hG.r1 h34) hz35) q_d4_takeOver a_229 (Nat.le_of_ble_eq_true rfl) hX hKX (hG.r2 h34).1 rfl rfl rfl hl.1 (Nat.le_of_ble_eq_true rfl) dX10_planPutBack_28 hS (fun H locs hX hS => ?_)
          refine lv_iinc (v := (x11 + 1)) (lv' := [(1, .int (x11 + 1)), (2, .ref (ad (2, u33))), (0, .ref (ad (5, 0)))]) hx hb dX10_planPutBack_31 hl (k := 2) rfl rfl (by decide) rfl (fun ls hl => ?_)
          refine lv_goto (tgt := 2) hx hb dX10_planPutBack_34 (by decide) ?_
          exact ihg13 _ _ _ _ _ hX hS (lv_sub hl [2, 0] rfl) hf
  exact Lg13 FU _ _ _ _ _ hX hS (lv_sub hl [1, 0] rfl) hf

theorem q_d4_countMissingIn : VWv RX4 yX4_countMissingIn cX4_countMissingIn 4 (some .int) 1 := ⟨a_427, a_17, a_425, a_426, by decide +kernel, Nat.le_of_ble_eq_true rfl⟩
set_option maxRecDepth 100000 in
set_option maxHeartbeats 4000000 in
theorem c_d4_countMissingIn {l : Launch} {D : va_G} {cA : Nat → ClassId} {A : Nat → Prop} {ad : Cd → Nat} {L : List Cd} {G : Gt} {nt nv : Nat} (hG : WF L G nt nv) {i : Nat} (hi : okR L i) {i1 : Nat} (hi1 : okR L i1) {S : St} {r : Int32} (hf : d4_countMissingIn i i1 S = some r) : Ct l D cA A yX4_countMissingIn cX4_countMissingIn 4 (some .int) 1 0 0 [.ref (ad (0, i)), .ref (ad (0, i1))] (DX D cA A ad L G S) (some (.int r)) (DX D cA A ad L G S) := by
  refine Ct_of (by decide +kernel) (Nat.le_of_ble_eq_true rfl) ?_
  intro p e s m args below meth c ls hC hr hlk hnm hX hKX hl
  have hx := hC.1
  have hb := hC.2.1
  have hS : va_S A s.heap s.heap [] := va_S.rf
  have hl : lv_has ls 4 [(0, .ref (ad (0, i))), (1, .ref (ad (0, i1)))] := hl
  unfold d4_countMissingIn at hf
  refine lv_iconst (v := 0) hx hb dX4_countMissingIn_0 (by decide) ?_
  refine lv_istore_n (lv' := [(2, .int 0), (0, .ref (ad (0, i))), (1, .ref (ad (0, i1)))]) hx hb dX4_countMissingIn_1 rfl hl (by decide) rfl (fun ls hl => ?_)
  refine lv_iconst (v := 0) hx hb dX4_countMissingIn_2 (by decide) ?_
  refine lv_istore_n (lv' := [(3, .int 0), (2, .int 0), (0, .ref (ad (0, i))), (1, .ref (ad (0, i1)))]) hx hb dX4_countMissingIn_3 rfl hl (by decide) rfl (fun ls hl => ?_)
  obtain ⟨g13, g130, g13s, hf⟩ := lp2_e hf
  have Lg13 : ∀ (n : Nat) (x11 : Int32) (x12 : Int32) (H : Heap) (locs : List Loc) (ls : Array Slot), DX D cA A ad L G S H → va_S A s.heap H locs → lv_has ls 4 [(0, .ref (ad (0, i))), (1, .ref (ad (0, i1))), (2, .int x11), (3, .int x12)] → g13 n x11 x12 = some r → W p l e (RM 1 0 0) s m args below meth c H locs 0 0 (MQ below (CtQ A (some (.int r)) (DX D cA A ad L G S)) args s 0 0 A) (F0 m 4 ls []) := by
    intro n
    induction n with
    | zero => intro x11 x12 H locs ls hX hS hl hf; rw [g130] at hf; cases hf
    | succ n ihg13 =>
      intro x11 x12 H locs ls hX hS hl hf
      rw [g13s] at hf
      refine lv_iload_n hx hb dX4_countMissingIn_4 rfl (lv_at hl 3 rfl) ?_
      refine lv_aload_n hx hb dX4_countMissingIn_5 rfl (lv_at hl 0 rfl) ?_
      refine dget (cd := (0, i)) (ci := 3) (C := RX4) (T := TX4) (N := 2) (v := .int (S.1 i)) hx hb hC hKX.1 hX hi.1 rfl rfl inX4 1 (by decide) a_55 (Or.inl rfl) rfl dX4_countMissingIn_6 ?_
      refine lv_icmp_ge (tgt := 33) hx hb dX4_countMissingIn_9 (by decide) (fun c14 => ?_) (fun c14 => ?_)
      · have hf := it_t c14 hf
        refine lv_iload_n hx hb dX4_countMissingIn_33 rfl (lv_at hl 2 rfl) ?_
        cases hf
        exact Ct_ri hx hb hr hlk hX hS dX4_countMissingIn_34
      · have hf := it_f c14 hf
        refine lv_aload_n hx hb dX4_countMissingIn_12 rfl (lv_at hl 1 rfl) ?_
        refine lv_aload_n hx hb dX4_countMissingIn_13 rfl (lv_at hl 0 rfl) ?_
        refine lv_iload_n hx hb dX4_countMissingIn_14 rfl (lv_at hl 3 rfl) ?_
        obtain ⟨z15, hz15, hf⟩ := cb_e hf
        refine dVx (cd := (0, i)) (As := [.int x12]) (rest := [.ref (ad (0, i1))]) hC (c_d4_at hG hi hz15) q_d4_at a_236 (Nat.le_of_ble_eq_true rfl) hX hKX hi.1 rfl rfl rfl hl.1 (Nat.le_of_ble_eq_true rfl) dX4_countMissingIn_15 hS (fun H locs hX hS => ?_)
        obtain ⟨z17, hz17, hf⟩ := cb_e hf
        refine dVx (cd := (0, i1)) (As := [.int z15]) (rest := []) hC (c_d4_has hG hi1 hz17) q_d4_has a_338 (Nat.le_of_ble_eq_true rfl) hX hKX hi1.1 rfl rfl rfl hl.1 (Nat.le_of_ble_eq_true rfl) dX4_countMissingIn_18 hS (fun H locs hX hS => ?_)
        refine lv_if_ne (tgt := 27) hx hb dX4_countMissingIn_21 (by decide) (fun c19 => ?_) (fun c19 => ?_)
        · have hf := it_f c19 hf
          refine lv_iinc (v := (x12 + 1)) (lv' := [(3, .int (x12 + 1)), (0, .ref (ad (0, i))), (1, .ref (ad (0, i1))), (2, .int x11)]) hx hb dX4_countMissingIn_27 hl (k := 3) rfl rfl (by decide) rfl (fun ls hl => ?_)
          refine lv_goto (tgt := 4) hx hb dX4_countMissingIn_30 (by decide) ?_
          exact ihg13 _ _ _ _ _ hX hS (lv_sub hl [1, 2, 3, 0] rfl) hf
        · have hf := it_t c19 hf
          refine lv_iinc (v := (x11 + 1)) (lv' := [(2, .int (x11 + 1)), (0, .ref (ad (0, i))), (1, .ref (ad (0, i1))), (3, .int x12)]) hx hb dX4_countMissingIn_24 hl (k := 2) rfl rfl (by decide) rfl (fun ls hl => ?_)
          refine lv_iinc (v := (x12 + 1)) (lv' := [(3, .int (x12 + 1)), (2, .int (x11 + 1)), (0, .ref (ad (0, i))), (1, .ref (ad (0, i1)))]) hx hb dX4_countMissingIn_27 hl (k := 3) rfl rfl (by decide) rfl (fun ls hl => ?_)
          refine lv_goto (tgt := 4) hx hb dX4_countMissingIn_30 (by decide) ?_
          exact ihg13 _ _ _ _ _ hX hS (lv_sub hl [2, 3, 1, 0] rfl) hf
  exact Lg13 FU _ _ _ _ _ hX hS (lv_sub hl [2, 3, 1, 0] rfl) hf

theorem q_d10_countPlanned : VWv RX10 yX10_countPlanned cX10_countPlanned 4 (some .int) 0 := ⟨a_423, a_16, a_422, a_4, by decide +kernel, Nat.le_of_ble_eq_true rfl⟩
set_option maxRecDepth 100000 in
set_option maxHeartbeats 4000000 in
theorem c_d10_countPlanned {l : Launch} {D : va_G} {cA : Nat → ClassId} {A : Nat → Prop} {ad : Cd → Nat} {L : List Cd} {G : Gt} {nt nv : Nat} (hG : WF L G nt nv)  {S : St} {r : Int32} (hf : d10_countPlanned G nt nv S = some r) : Ct l D cA A yX10_countPlanned cX10_countPlanned 4 (some .int) 2 0 0 [.ref (ad (5, 0))] (DX D cA A ad L G S) (some (.int r)) (DX D cA A ad L G S) := by
  refine Ct_of (by decide +kernel) (Nat.le_of_ble_eq_true rfl) ?_
  intro p e s m args below meth c ls hC hr hlk hnm hX hKX hl
  have hx := hC.1
  have hb := hC.2.1
  have hS : va_S A s.heap s.heap [] := va_S.rf
  have hl : lv_has ls 4 [(0, .ref (ad (5, 0)))] := hl
  unfold d10_countPlanned at hf
  refine lv_iconst (v := 0) hx hb dX10_countPlanned_0 (by decide) ?_
  refine lv_istore_n (lv' := [(1, .int 0), (0, .ref (ad (5, 0)))]) hx hb dX10_countPlanned_1 rfl hl (by decide) rfl (fun ls hl => ?_)
  refine lv_iconst (v := 0) hx hb dX10_countPlanned_2 (by decide) ?_
  refine lv_istore_n (lv' := [(2, .int 0), (1, .int 0), (0, .ref (ad (5, 0)))]) hx hb dX10_countPlanned_3 rfl hl (by decide) rfl (fun ls hl => ?_)
  obtain ⟨g13, g130, g13s, hf⟩ := lp2_e hf
  have Lg13 : ∀ (n : Nat) (x11 : Int32) (x12 : Int32) (H : Heap) (locs : List Loc) (ls : Array Slot), DX D cA A ad L G S H → va_S A s.heap H locs → lv_has ls 4 [(0, .ref (ad (5, 0))), (1, .int x11), (2, .int x12)] → g13 n x11 x12 = some r → W p l e (RM 2 0 0) s m args below meth c H locs 0 0 (MQ below (CtQ A (some (.int r)) (DX D cA A ad L G S)) args s 0 0 A) (F0 m 4 ls []) := by
    intro n
    induction n with
    | zero => intro x11 x12 H locs ls hX hS hl hf; rw [g130] at hf; cases hf
    | succ n ihg13 =>
      intro x11 x12 H locs ls hX hS hl hf
      rw [g13s] at hf
      refine lv_iload_n hx hb dX10_countPlanned_4 rfl (lv_at hl 2 rfl) ?_
      refine lv_aload_n hx hb dX10_countPlanned_5 rfl (lv_at hl 0 rfl) ?_
      refine dget (cd := (5, 0)) (ci := 8) (C := RX10) (T := TX10) (N := 9) (v := .int (S.1 42)) hx hb hC hKX.1 hX (hG.F 0 (by decide)) rfl rfl inX10 1 (by decide) a_107 (Or.inl rfl) rfl dX10_countPlanned_6 ?_
      refine lv_icmp_ge (tgt := 54) hx hb dX10_countPlanned_9 (by decide) (fun c14 => ?_) (fun c14 => ?_)
      · have hf := it_t c14 hf
        refine lv_iload_n hx hb dX10_countPlanned_54 rfl (lv_at hl 1 rfl) ?_
        cases hf
        exact Ct_ri hx hb hr hlk hX hS dX10_countPlanned_55
      · have hf := it_f c14 hf
        refine lv_aload_n hx hb dX10_countPlanned_12 rfl (lv_at hl 0 rfl) ?_
        refine lv_iload_n hx hb dX10_countPlanned_13 rfl (lv_at hl 2 rfl) ?_
        obtain ⟨z15, hz15, hf⟩ := cb_e hf
        refine dVx (cd := (5, 0)) (As := [.int x12]) (rest := []) hC (c_d10_tableAt hG hz15) q_d10_tableAt a_225 (Nat.le_of_ble_eq_true rfl) hX hKX (hG.F 0 (by decide)) rfl rfl rfl hl.1 (Nat.le_of_ble_eq_true rfl) dX10_countPlanned_14 hS (fun H locs hX hS => ?_)
        refine lv_astoreO_n (lv' := [(3, rO ad 2 z15), (0, .ref (ad (5, 0))), (1, .int x11), (2, .int x12)]) hx hb dX10_countPlanned_17 rfl hl (by decide) rfl (fun ls hl => ?_)
        refine lv_aloadO_n hx hb dX10_countPlanned_18 rfl (lv_at hl 0 rfl) ?_
        rcases oc_e hf with ⟨ho, hf⟩ | ⟨u17, ho, hf⟩
        · subst ho
          have hl : lv_has ls 4 [(3, .null), (0, .ref (ad (5, 0))), (1, .int x11), (2, .int x12)] := hl
          refine lv_ifnullN (tgt := 48) hx hb dX10_countPlanned_19 (by decide) ?_
          refine lv_iinc (v := (x12 + 1)) (lv' := [(2, .int (x12 + 1)), (3, .null), (0, .ref (ad (5, 0))), (1, .int x11)]) hx hb dX10_countPlanned_48 hl (k := 3) rfl rfl (by decide) rfl (fun ls hl => ?_)
          refine lv_goto (tgt := 4) hx hb dX10_countPlanned_51 (by decide) ?_
          exact ihg13 _ _ _ _ _ hX hS (lv_sub hl [2, 3, 0] rfl) hf
        · subst ho
          obtain ⟨h18, hf⟩ := gd_e hf
          have hl : lv_has ls 4 [(3, .ref (ad (2, u17))), (0, .ref (ad (5, 0))), (1, .int x11), (2, .int x12)] := hl
          refine lv_ifnull (x := ad (2, u17)) hx hb dX10_countPlanned_19 ?_
          refine lv_iload_n hx hb dX10_countPlanned_22 rfl (lv_at hl 2 rfl) ?_
          refine lv_aload_n hx hb dX10_countPlanned_23 rfl (lv_at hl 0 rfl) ?_
          refine dget (cd := (2, u17)) (ci := 5) (C := RX6) (T := TX6) (N := 5) (v := .ref (ad (0, (1 + 7 * u17)))) hx hb hC hKX.1 hX (hG.T h18) rfl rfl inX6 2 (by decide) a_919 (Or.inl rfl) rfl dX10_countPlanned_24 ?_
          refine lv_aload_n hx hb dX10_countPlanned_27 rfl (lv_at hl 0 rfl) ?_
          refine dget (cd := (2, u17)) (ci := 5) (C := RX6) (T := TX6) (N := 5) (v := .ref (ad (0, (2 + 7 * u17)))) hx hb hC hKX.1 hX (hG.T h18) rfl rfl inX6 3 (by decide) a_922 (Or.inl rfl) rfl dX10_countPlanned_28 ?_
          obtain ⟨z19, hz19, hf⟩ := cb_e hf
          refine dVx (cd := (0, (1 + 7 * u17))) (As := [.ref (ad (0, (2 + 7 * u17)))]) (rest := [.int x11]) hC (c_d4_countMissingIn hG (hG.r1 h18) (hG.r2 h18) hz19) q_d4_countMissingIn a_424 (Nat.le_of_ble_eq_true rfl) hX hKX (hG.r1 h18).1 rfl rfl rfl hl.1 (Nat.le_of_ble_eq_true rfl) dX10_countPlanned_31 hS (fun H locs hX hS => ?_)
          refine lv_aload_n hx hb dX10_countPlanned_34 rfl (lv_at hl 0 rfl) ?_
          refine dget (cd := (2, u17)) (ci := 5) (C := RX6) (T := TX6) (N := 5) (v := .ref (ad (0, (2 + 7 * u17)))) hx hb hC hKX.1 hX (hG.T h18) rfl rfl inX6 3 (by decide) a_922 (Or.inl rfl) rfl dX10_countPlanned_35 ?_
          refine lv_aload_n hx hb dX10_countPlanned_38 rfl (lv_at hl 0 rfl) ?_
          refine dget (cd := (2, u17)) (ci := 5) (C := RX6) (T := TX6) (N := 5) (v := .ref (ad (0, (1 + 7 * u17)))) hx hb hC hKX.1 hX (hG.T h18) rfl rfl inX6 2 (by decide) a_919 (Or.inl rfl) rfl dX10_countPlanned_39 ?_
          obtain ⟨z21, hz21, hf⟩ := cb_e hf
          refine dVx (cd := (0, (2 + 7 * u17))) (As := [.ref (ad (0, (1 + 7 * u17)))]) (rest := [.int z19, .int x11]) hC (c_d4_countMissingIn hG (hG.r2 h18) (hG.r1 h18) hz21) q_d4_countMissingIn a_424 (Nat.le_of_ble_eq_true rfl) hX hKX (hG.r2 h18).1 rfl rfl rfl hl.1 (Nat.le_of_ble_eq_true rfl) dX10_countPlanned_42 hS (fun H locs hX hS => ?_)
          refine lv_iadd hx hb dX10_countPlanned_45 ?_
          refine lv_iadd hx hb dX10_countPlanned_46 ?_
          refine lv_istore_n (lv' := [(1, .int (x11 + (z19 + z21))), (3, .ref (ad (2, u17))), (0, .ref (ad (5, 0))), (2, .int x12)]) hx hb dX10_countPlanned_47 rfl hl (by decide) rfl (fun ls hl => ?_)
          refine lv_iinc (v := (x12 + 1)) (lv' := [(2, .int (x12 + 1)), (1, .int (x11 + (z19 + z21))), (3, .ref (ad (2, u17))), (0, .ref (ad (5, 0)))]) hx hb dX10_countPlanned_48 hl (k := 3) rfl rfl (by decide) rfl (fun ls hl => ?_)
          refine lv_goto (tgt := 4) hx hb dX10_countPlanned_51 (by decide) ?_
          exact ihg13 _ _ _ _ _ hX hS (lv_sub hl [3, 1, 0] rfl) hf
  exact Lg13 FU _ _ _ _ _ hX hS (lv_sub hl [2, 1, 0] rfl) hf

theorem q_d6_forgetOldest : VWv RX6 yX6_forgetOldest cX6_forgetOldest 2 none 0 := ⟨a_978, a_25, a_977, a_14, by decide +kernel, Nat.le_of_ble_eq_true rfl⟩
set_option maxRecDepth 100000 in
set_option maxHeartbeats 4000000 in
theorem c_d6_forgetOldest {l : Launch} {D : va_G} {cA : Nat → ClassId} {A : Nat → Prop} {ad : Cd → Nat} {L : List Cd} {G : Gt} {nt nv : Nat} (hG : WF L G nt nv) {t : Nat} (ht : t < nt) {S : St} {S' : St} (hf : d6_forgetOldest t S = some S') : Ct l D cA A yX6_forgetOldest cX6_forgetOldest 2 none 2 0 0 [.ref (ad (2, t))] (DX D cA A ad L G S) none (DX D cA A ad L G S') := by
  refine Ct_of (by decide +kernel) (Nat.le_of_ble_eq_true rfl) ?_
  intro p e s m args below meth c ls hC hr hlk hnm hX hKX hl
  have hx := hC.1
  have hb := hC.2.1
  have hS : va_S A s.heap s.heap [] := va_S.rf
  have hl : lv_has ls 2 [(0, .ref (ad (2, t)))] := hl
  unfold d6_forgetOldest at hf
  refine lv_iconst (v := 0) hx hb dX6_forgetOldest_0 (by decide) ?_
  refine lv_istore_n (lv' := [(1, .int 0), (0, .ref (ad (2, t)))]) hx hb dX6_forgetOldest_1 rfl hl (by decide) rfl (fun ls hl => ?_)
  obtain ⟨g13, g130, g13s, hf⟩ := lp2_e hf
  have Lg13 : ∀ (n : Nat) (x11 : Int32) (S12 : St) (H : Heap) (locs : List Loc) (ls : Array Slot), DX D cA A ad L G S12 H → va_S A s.heap H locs → lv_has ls 2 [(0, .ref (ad (2, t))), (1, .int x11)] → g13 n x11 S12 = some S' → W p l e (RM 2 0 0) s m args below meth c H locs 0 0 (MQ below (CtQ A none (DX D cA A ad L G S')) args s 0 0 A) (F0 m 2 ls []) := by
    intro n
    induction n with
    | zero => intro x11 S12 H locs ls hX hS hl hf; rw [g130] at hf; cases hf
    | succ n ihg13 =>
      intro x11 S12 H locs ls hX hS hl hf
      rw [g13s] at hf
      refine lv_iload_n hx hb dX6_forgetOldest_2 rfl (lv_at hl 1 rfl) ?_
      refine lv_iconst (v := 1) hx hb dX6_forgetOldest_3 (by decide) ?_
      refine lv_iadd hx hb dX6_forgetOldest_4 ?_
      refine lv_aload_n hx hb dX6_forgetOldest_5 rfl (lv_at hl 0 rfl) ?_
      refine dget (cd := (2, t)) (ci := 5) (C := RX6) (T := TX6) (N := 5) (v := .ref (ad (3, t))) hx hb hC hKX.1 hX (hG.T ht) rfl rfl inX6 4 (by decide) a_923 (Or.inl rfl) rfl dX6_forgetOldest_6 ?_
      refine dlen (cd := (3, t)) hx hb hKX.1 hX (hG.P ht) rfl 5 rfl (v := 5) rfl dX6_forgetOldest_9 ?_
      refine lv_icmp_ge (tgt := 56) hx hb dX6_forgetOldest_10 (by decide) (fun c14 => ?_) (fun c14 => ?_)
      · have hf := it_t c14 hf
        cases hf
        exact Ct_rv hx hb hr hlk hX hS dX6_forgetOldest_56
      · have hf := it_f c14 hf
        refine lv_aload_n hx hb dX6_forgetOldest_13 rfl (lv_at hl 0 rfl) ?_
        refine dget (cd := (2, t)) (ci := 5) (C := RX6) (T := TX6) (N := 5) (v := .ref (ad (3, t))) hx hb hC hKX.1 hX (hG.T ht) rfl rfl inX6 4 (by decide) a_923 (Or.inl rfl) rfl dX6_forgetOldest_14 ?_
        refine lv_iload_n hx hb dX6_forgetOldest_17 rfl (lv_at hl 1 rfl) ?_
        obtain ⟨h16, j15, ej15, hf⟩ := rd_e hf
        refine daald (cd := (3, t)) (v := .ref (ad (0, (3 + 7 * t + j15)))) hx hb hKX.1 hX (hG.P ht) rfl 5 rfl h16 ej15 (by rw [if_pos (vp_lt h16 ej15)]; rfl) dX6_forgetOldest_18 ?_
        refine lv_ifnull hx hb dX6_forgetOldest_19 ?_
        refine lv_aload_n hx hb dX6_forgetOldest_22 rfl (lv_at hl 0 rfl) ?_
        refine dget (cd := (2, t)) (ci := 5) (C := RX6) (T := TX6) (N := 5) (v := .ref (ad (3, t))) hx hb hC hKX.1 hX (hG.T ht) rfl rfl inX6 4 (by decide) a_923 (Or.inl rfl) rfl dX6_forgetOldest_23 ?_
        refine lv_iload_n hx hb dX6_forgetOldest_26 rfl (lv_at hl 1 rfl) ?_
        refine lv_iconst (v := 1) hx hb dX6_forgetOldest_27 (by decide) ?_
        refine lv_iadd hx hb dX6_forgetOldest_28 ?_
        obtain ⟨h18, j17, ej17, hf⟩ := rd_e hf
        refine daald (cd := (3, t)) (v := .ref (ad (0, (3 + 7 * t + j17)))) hx hb hKX.1 hX (hG.P ht) rfl 5 rfl h18 ej17 (by rw [if_pos (vp_lt h18 ej17)]; rfl) dX6_forgetOldest_29 ?_
        refine lv_ifnull hx hb dX6_forgetOldest_30 ?_
        refine lv_aload_n hx hb dX6_forgetOldest_33 rfl (lv_at hl 0 rfl) ?_
        refine dget (cd := (2, t)) (ci := 5) (C := RX6) (T := TX6) (N := 5) (v := .ref (ad (3, t))) hx hb hC hKX.1 hX (hG.T ht) rfl rfl inX6 4 (by decide) a_923 (Or.inl rfl) rfl dX6_forgetOldest_34 ?_
        refine lv_iload_n hx hb dX6_forgetOldest_37 rfl (lv_at hl 1 rfl) ?_
        obtain ⟨h20, j19, ej19, hf⟩ := rd_e hf
        refine daald (cd := (3, t)) (v := .ref (ad (0, (3 + 7 * t + j19)))) hx hb hKX.1 hX (hG.P ht) rfl 5 rfl h20 ej19 (by rw [if_pos (vp_lt h20 ej19)]; rfl) dX6_forgetOldest_38 ?_
        refine lv_aload_n hx hb dX6_forgetOldest_39 rfl (lv_at hl 0 rfl) ?_
        refine dget (cd := (2, t)) (ci := 5) (C := RX6) (T := TX6) (N := 5) (v := .ref (ad (3, t))) hx hb hC hKX.1 hX (hG.T ht) rfl rfl inX6 4 (by decide) a_923 (Or.inl rfl) rfl dX6_forgetOldest_40 ?_
        refine lv_iload_n hx hb dX6_forgetOldest_43 rfl (lv_at hl 1 rfl) ?_
        refine lv_iconst (v := 1) hx hb dX6_forgetOldest_44 (by decide) ?_
        refine lv_iadd hx hb dX6_forgetOldest_45 ?_
        obtain ⟨h22, j21, ej21, hf⟩ := rd_e hf
        refine daald (cd := (3, t)) (v := .ref (ad (0, (3 + 7 * t + j21)))) hx hb hKX.1 hX (hG.P ht) rfl 5 rfl h22 ej21 (by rw [if_pos (vp_lt h22 ej21)]; rfl) dX6_forgetOldest_46 ?_
        obtain ⟨S25, hz23, hf⟩ := cb_e hf
        refine dVv (cd := (0, (3 + 7 * t + j19))) (As := [.ref (ad (0, (3 + 7 * t + j21)))]) (rest := []) hC (c_d4_takeOver hG (hG.r3 ht (vp_lt h20 ej19)) (hG.r3 ht (vp_lt h22 ej21)) hz23) q_d4_takeOver a_979 (Nat.le_of_ble_eq_true rfl) hX hKX (hG.r3 ht (vp_lt h20 ej19)).1 rfl rfl rfl hl.1 (Nat.le_of_ble_eq_true rfl) dX6_forgetOldest_47 hS (fun H locs hX hS => ?_)
        refine lv_iinc (v := (x11 + 1)) (lv' := [(1, .int (x11 + 1)), (0, .ref (ad (2, t)))]) hx hb dX6_forgetOldest_50 hl (k := 1) rfl rfl (by decide) rfl (fun ls hl => ?_)
        refine lv_goto (tgt := 2) hx hb dX6_forgetOldest_53 (by decide) ?_
        exact ihg13 _ _ _ _ _ hX hS (lv_sub hl [1, 0] rfl) hf
  exact Lg13 FU _ _ _ _ _ hX hS (lv_sub hl [1, 0] rfl) hf

theorem q_d6_remember : VWv RX6 yX6_remember cX6_remember 3 none 1 := ⟨a_974, a_25, a_972, a_973, by decide +kernel, Nat.le_of_ble_eq_true rfl⟩
set_option maxRecDepth 100000 in
set_option maxHeartbeats 4000000 in
theorem c_d6_remember {l : Launch} {D : va_G} {cA : Nat → ClassId} {A : Nat → Prop} {ad : Cd → Nat} {L : List Cd} {G : Gt} {nt nv : Nat} (hG : WF L G nt nv) {t : Nat} (ht : t < nt) {x1 : Int32} {S : St} {S' : St} (hf : d6_remember t x1 S = some S') : Ct l D cA A yX6_remember cX6_remember 3 none 3 0 0 [.ref (ad (2, t)), .int x1] (DX D cA A ad L G S) none (DX D cA A ad L G S') := by
  refine Ct_of (by decide +kernel) (Nat.le_of_ble_eq_true rfl) ?_
  intro p e s m args below meth c ls hC hr hlk hnm hX hKX hl
  have hx := hC.1
  have hb := hC.2.1
  have hS : va_S A s.heap s.heap [] := va_S.rf
  have hl : lv_has ls 3 [(0, .ref (ad (2, t))), (1, .int x1)] := hl
  unfold d6_remember at hf
  refine lv_iload_n hx hb dX6_remember_0 rfl (lv_at hl 1 rfl) ?_
  refine lv_istore_n (lv' := [(2, .int x1), (0, .ref (ad (2, t))), (1, .int x1)]) hx hb dX6_remember_1 rfl hl (by decide) rfl (fun ls hl => ?_)
  refine lv_iload_n hx hb dX6_remember_2 rfl (lv_at hl 0 rfl) ?_
  refine lv_aload_n hx hb dX6_remember_3 rfl (lv_at hl 1 rfl) ?_
  refine dget (cd := (2, t)) (ci := 5) (C := RX6) (T := TX6) (N := 5) (v := .ref (ad (3, t))) hx hb hC hKX.1 hX (hG.T ht) rfl rfl inX6 4 (by decide) a_923 (Or.inl rfl) rfl dX6_remember_4 ?_
  refine dlen (cd := (3, t)) hx hb hKX.1 hX (hG.P ht) rfl 5 rfl (v := 5) rfl dX6_remember_7 ?_
  obtain ⟨k13, hk13, hf⟩ := jn2_e hf
  have Jk13 : ∀ (x11 : Int32) (S12 : St) (H : Heap) (locs : List Loc) (ls : Array Slot), DX D cA A ad L G S12 H → va_S A s.heap H locs → lv_has ls 3 [(0, .ref (ad (2, t))), (2, .int x11)] → k13 x11 S12 = some S' → W p l e (RM 3 0 0) s m args below meth c H locs 0 0 (MQ below (CtQ A none (DX D cA A ad L G S')) args s 0 0 A) (F0 m 23 ls []) := by
    intro x11 S12 H locs ls hX hS hl hf
    rw [hk13] at hf
    refine lv_iload_n hx hb dX6_remember_23 rfl (lv_at hl 1 rfl) ?_
    refine lv_if_lt (tgt := 49) hx hb dX6_remember_24 (by decide) (fun c14 => ?_) (fun c14 => ?_)
    · have hf := it_t c14 hf
      cases hf
      exact Ct_rv hx hb hr hlk hX hS dX6_remember_49
    · have hf := it_f c14 hf
      refine lv_aload_n hx hb dX6_remember_27 rfl (lv_at hl 0 rfl) ?_
      refine dget (cd := (2, t)) (ci := 5) (C := RX6) (T := TX6) (N := 5) (v := .ref (ad (3, t))) hx hb hC hKX.1 hX (hG.T ht) rfl rfl inX6 4 (by decide) a_923 (Or.inl rfl) rfl dX6_remember_28 ?_
      refine lv_iload_n hx hb dX6_remember_31 rfl (lv_at hl 1 rfl) ?_
      obtain ⟨h16, j15, ej15, hf⟩ := rd_e hf
      refine daald (cd := (3, t)) (v := .ref (ad (0, (3 + 7 * t + j15)))) hx hb hKX.1 hX (hG.P ht) rfl 5 rfl h16 ej15 (by rw [if_pos (vp_lt h16 ej15)]; rfl) dX6_remember_32 ?_
      refine lv_ifnull hx hb dX6_remember_33 ?_
      refine lv_aload_n hx hb dX6_remember_36 rfl (lv_at hl 0 rfl) ?_
      refine dget (cd := (2, t)) (ci := 5) (C := RX6) (T := TX6) (N := 5) (v := .ref (ad (3, t))) hx hb hC hKX.1 hX (hG.T ht) rfl rfl inX6 4 (by decide) a_923 (Or.inl rfl) rfl dX6_remember_37 ?_
      refine lv_iload_n hx hb dX6_remember_40 rfl (lv_at hl 1 rfl) ?_
      obtain ⟨h18, j17, ej17, hf⟩ := rd_e hf
      refine daald (cd := (3, t)) (v := .ref (ad (0, (3 + 7 * t + j17)))) hx hb hKX.1 hX (hG.P ht) rfl 5 rfl h18 ej17 (by rw [if_pos (vp_lt h18 ej17)]; rfl) dX6_remember_41 ?_
      refine lv_aload_n hx hb dX6_remember_42 rfl (lv_at hl 0 rfl) ?_
      refine dget (cd := (2, t)) (ci := 5) (C := RX6) (T := TX6) (N := 5) (v := .ref (ad (0, (1 + 7 * t)))) hx hb hC hKX.1 hX (hG.T ht) rfl rfl inX6 2 (by decide) a_916 (Or.inl rfl) rfl dX6_remember_43 ?_
      obtain ⟨S21, hz19, hf⟩ := cb_e hf
      refine dVv (cd := (0, (3 + 7 * t + j17))) (As := [.ref (ad (0, (1 + 7 * t)))]) (rest := []) hC (c_d4_takeOver hG (hG.r3 ht (vp_lt h18 ej17)) (hG.r1 ht) hz19) q_d4_takeOver a_979 (Nat.le_of_ble_eq_true rfl) hX hKX (hG.r3 ht (vp_lt h18 ej17)).1 rfl rfl rfl hl.1 (Nat.le_of_ble_eq_true rfl) dX6_remember_46 hS (fun H locs hX hS => ?_)
      cases hf
      exact Ct_rv hx hb hr hlk hX hS dX6_remember_49
  refine lv_icmp_lt (tgt := 23) hx hb dX6_remember_8 (by decide) (fun c22 => ?_) (fun c22 => ?_)
  · have hf := it_t c22 hf
    exact Jk13 _ _ _ _ _ hX hS (lv_sub hl [1, 0] rfl) hf
  · have hf := it_f c22 hf
    refine lv_aload_n hx hb dX6_remember_11 rfl (lv_at hl 1 rfl) ?_
    obtain ⟨S25, hz23, hf⟩ := cb_e hf
    refine dVv (cd := (2, t)) (As := []) (rest := []) hC (c_d6_forgetOldest hG ht hz23) q_d6_forgetOldest a_975 (Nat.le_of_ble_eq_true rfl) hX hKX (hG.T ht) rfl rfl rfl hl.1 (Nat.le_of_ble_eq_true rfl) dX6_remember_12 hS (fun H locs hX hS => ?_)
    refine lv_aload_n hx hb dX6_remember_15 rfl (lv_at hl 1 rfl) ?_
    refine dget (cd := (2, t)) (ci := 5) (C := RX6) (T := TX6) (N := 5) (v := .ref (ad (3, t))) hx hb hC hKX.1 hX (hG.T ht) rfl rfl inX6 4 (by decide) a_923 (Or.inl rfl) rfl dX6_remember_16 ?_
    refine dlen (cd := (3, t)) hx hb hKX.1 hX (hG.P ht) rfl 5 rfl (v := 5) rfl dX6_remember_19 ?_
    refine lv_iconst (v := 1) hx hb dX6_remember_20 (by decide) ?_
    refine lv_isub hx hb dX6_remember_21 ?_
    refine lv_istore_n (lv' := [(2, .int (5 - 1)), (0, .ref (ad (2, t))), (1, .int x1)]) hx hb dX6_remember_22 rfl hl (by decide) rfl (fun ls hl => ?_)
    exact Jk13 _ _ _ _ _ hX hS (lv_sub hl [1, 0] rfl) hf

theorem q_d10_carryOut : VWv RX10 yX10_carryOut cX10_carryOut 3 none 0 := ⟨a_970, a_16, a_969, a_13, by decide +kernel, Nat.le_of_ble_eq_true rfl⟩
set_option maxRecDepth 100000 in
set_option maxHeartbeats 4000000 in
theorem c_d10_carryOut {l : Launch} {D : va_G} {cA : Nat → ClassId} {A : Nat → Prop} {ad : Cd → Nat} {L : List Cd} {G : Gt} {nt nv : Nat} (hG : WF L G nt nv)  {S : St} {S' : St} (hf : d10_carryOut G nt nv S = some S') : Ct l D cA A yX10_carryOut cX10_carryOut 3 none 4 0 0 [.ref (ad (5, 0))] (DX D cA A ad L G S) none (DX D cA A ad L G S') := by
  refine Ct_of (by decide +kernel) (Nat.le_of_ble_eq_true rfl) ?_
  intro p e s m args below meth c ls hC hr hlk hnm hX hKX hl
  have hx := hC.1
  have hb := hC.2.1
  have hS : va_S A s.heap s.heap [] := va_S.rf
  have hl : lv_has ls 3 [(0, .ref (ad (5, 0)))] := hl
  unfold d10_carryOut at hf
  refine lv_iconst (v := 0) hx hb dX10_carryOut_0 (by decide) ?_
  refine lv_istore_n (lv' := [(1, .int 0), (0, .ref (ad (5, 0)))]) hx hb dX10_carryOut_1 rfl hl (by decide) rfl (fun ls hl => ?_)
  obtain ⟨g13, g130, g13s, hf⟩ := lp2_e hf
  have Lg13 : ∀ (n : Nat) (x11 : Int32) (S12 : St) (H : Heap) (locs : List Loc) (ls : Array Slot), DX D cA A ad L G S12 H → va_S A s.heap H locs → lv_has ls 3 [(0, .ref (ad (5, 0))), (1, .int x11)] → g13 n x11 S12 = some S' → W p l e (RM 4 0 0) s m args below meth c H locs 0 0 (MQ below (CtQ A none (DX D cA A ad L G S')) args s 0 0 A) (F0 m 2 ls []) := by
    intro n
    induction n with
    | zero => intro x11 S12 H locs ls hX hS hl hf; rw [g130] at hf; cases hf
    | succ n ihg13 =>
      intro x11 S12 H locs ls hX hS hl hf
      rw [g13s] at hf
      refine lv_iload_n hx hb dX10_carryOut_2 rfl (lv_at hl 1 rfl) ?_
      refine lv_aload_n hx hb dX10_carryOut_3 rfl (lv_at hl 0 rfl) ?_
      refine dget (cd := (5, 0)) (ci := 8) (C := RX10) (T := TX10) (N := 9) (v := .int (S12.1 42)) hx hb hC hKX.1 hX (hG.F 0 (by decide)) rfl rfl inX10 1 (by decide) a_107 (Or.inl rfl) rfl dX10_carryOut_4 ?_
      refine lv_icmp_ge (tgt := 45) hx hb dX10_carryOut_7 (by decide) (fun c14 => ?_) (fun c14 => ?_)
      · have hf := it_t c14 hf
        refine lv_aload_n hx hb dX10_carryOut_45 rfl (lv_at hl 0 rfl) ?_
        refine lv_aload_n hx hb dX10_carryOut_46 rfl (lv_at hl 0 rfl) ?_
        refine dget (cd := (5, 0)) (ci := 8) (C := RX10) (T := TX10) (N := 9) (v := .int (S12.1 45)) hx hb hC hKX.1 hX (hG.F 0 (by decide)) rfl rfl inX10 8 (by decide) a_114 (Or.inl rfl) rfl dX10_carryOut_47 ?_
        refine lv_iconst (v := 1) hx hb dX10_carryOut_50 (by decide) ?_
        refine lv_iadd hx hb dX10_carryOut_51 ?_
        refine lv_iconst (v := 5) hx hb dX10_carryOut_52 (by decide) ?_
        obtain ⟨z15, ez15, hf⟩ := lt_e hf
        refine va_mmin hx hb (hC.2.2.1.trans hl.1.symm) hC.2.2.2.1 (tA hC.2.2.2.2 amin_X10) (tA hC.2.2.2.2 amin_static) (tA hC.2.2.2.2 amin_init) (tA hC.2.2.2.2 amin_code) (Nat.le_of_ble_eq_true rfl) (Nat.le_of_ble_eq_true rfl) (Nat.zero_le _) (Nat.zero_le _) dX10_carryOut_53 ?_
        rw [← ez15]
        refine dput (cd := (5, 0)) (ci := 8) (C := RX10) (T := TX10) (N := 9) (ty := .int) hx hb hC hKX.1 hX hS (hG.F 0 (by decide)) rfl rfl inX10 tyX10 tyX10_ok nmX10 8 (by decide) a_114 rfl rfl (by decide +kernel) rfl rfl (Nat.le_of_ble_eq_true rfl) (dset45 hG) dX10_carryOut_56 (fun H locs hX hS => ?_)
        obtain ⟨S16, eS16, hf⟩ := lt_e hf
        rw [← eS16] at hX
        refine lv_aload_n hx hb dX10_carryOut_59 rfl (lv_at hl 0 rfl) ?_
        obtain ⟨S19, hz17, hf⟩ := cb_e hf
        refine dVv (cd := (5, 0)) (As := []) (rest := []) hC (c_d10_showViews hG hz17) q_d10_showViews a_944 (Nat.le_of_ble_eq_true rfl) hX hKX (hG.F 0 (by decide)) rfl rfl rfl hl.1 (Nat.le_of_ble_eq_true rfl) dX10_carryOut_60 hS (fun H locs hX hS => ?_)
        cases hf
        exact Ct_rv hx hb hr hlk hX hS dX10_carryOut_63
      · have hf := it_f c14 hf
        refine lv_aload_n hx hb dX10_carryOut_10 rfl (lv_at hl 0 rfl) ?_
        refine lv_iload_n hx hb dX10_carryOut_11 rfl (lv_at hl 1 rfl) ?_
        obtain ⟨z20, hz20, hf⟩ := cb_e hf
        refine dVx (cd := (5, 0)) (As := [.int x11]) (rest := []) hC (c_d10_tableAt hG hz20) q_d10_tableAt a_225 (Nat.le_of_ble_eq_true rfl) hX hKX (hG.F 0 (by decide)) rfl rfl rfl hl.1 (Nat.le_of_ble_eq_true rfl) dX10_carryOut_12 hS (fun H locs hX hS => ?_)
        refine lv_astoreO_n (lv' := [(2, rO ad 2 z20), (0, .ref (ad (5, 0))), (1, .int x11)]) hx hb dX10_carryOut_15 rfl hl (by decide) rfl (fun ls hl => ?_)
        refine lv_aloadO_n hx hb dX10_carryOut_16 rfl (lv_at hl 0 rfl) ?_
        rcases oc_e hf with ⟨ho, hf⟩ | ⟨u22, ho, hf⟩
        · subst ho
          have hl : lv_has ls 3 [(2, .null), (0, .ref (ad (5, 0))), (1, .int x11)] := hl
          refine lv_ifnullN (tgt := 39) hx hb dX10_carryOut_17 (by decide) ?_
          refine lv_iinc (v := (x11 + 1)) (lv' := [(1, .int (x11 + 1)), (2, .null), (0, .ref (ad (5, 0)))]) hx hb dX10_carryOut_39 hl (k := 2) rfl rfl (by decide) rfl (fun ls hl => ?_)
          refine lv_goto (tgt := 2) hx hb dX10_carryOut_42 (by decide) ?_
          exact ihg13 _ _ _ _ _ hX hS (lv_sub hl [2, 0] rfl) hf
        · subst ho
          obtain ⟨h23, hf⟩ := gd_e hf
          have hl : lv_has ls 3 [(2, .ref (ad (2, u22))), (0, .ref (ad (5, 0))), (1, .int x11)] := hl
          refine lv_ifnull (x := ad (2, u22)) hx hb dX10_carryOut_17 ?_
          refine lv_aload_n hx hb dX10_carryOut_20 rfl (lv_at hl 0 rfl) ?_
          refine lv_aload_n hx hb dX10_carryOut_21 rfl (lv_at hl 1 rfl) ?_
          refine dget (cd := (5, 0)) (ci := 8) (C := RX10) (T := TX10) (N := 9) (v := .int (S12.1 45)) hx hb hC hKX.1 hX (hG.F 0 (by decide)) rfl rfl inX10 8 (by decide) a_114 (Or.inl rfl) rfl dX10_carryOut_22 ?_
          obtain ⟨S26, hz24, hf⟩ := cb_e hf
          refine dVv (cd := (2, u22)) (As := [.int (S12.1 45)]) (rest := []) hC (c_d6_remember hG h23 hz24) q_d6_remember a_971 (Nat.le_of_ble_eq_true rfl) hX hKX (hG.T h23) rfl rfl rfl hl.1 (Nat.le_of_ble_eq_true rfl) dX10_carryOut_25 hS (fun H locs hX hS => ?_)
          refine lv_aload_n hx hb dX10_carryOut_28 rfl (lv_at hl 0 rfl) ?_
          refine dget (cd := (2, u22)) (ci := 5) (C := RX6) (T := TX6) (N := 5) (v := .ref (ad (0, (1 + 7 * u22)))) hx hb hC hKX.1 hX (hG.T h23) rfl rfl inX6 2 (by decide) a_919 (Or.inl rfl) rfl dX10_carryOut_29 ?_
          refine lv_aload_n hx hb dX10_carryOut_32 rfl (lv_at hl 0 rfl) ?_
          refine dget (cd := (2, u22)) (ci := 5) (C := RX6) (T := TX6) (N := 5) (v := .ref (ad (0, (2 + 7 * u22)))) hx hb hC hKX.1 hX (hG.T h23) rfl rfl inX6 3 (by decide) a_922 (Or.inl rfl) rfl dX10_carryOut_33 ?_
          obtain ⟨S29, hz27, hf⟩ := cb_e hf
          refine dVv (cd := (0, (1 + 7 * u22))) (As := [.ref (ad (0, (2 + 7 * u22)))]) (rest := []) hC (c_d4_takeOver hG (hG.r1 h23) (hG.r2 h23) hz27) q_d4_takeOver a_229 (Nat.le_of_ble_eq_true rfl) hX hKX (hG.r1 h23).1 rfl rfl rfl hl.1 (Nat.le_of_ble_eq_true rfl) dX10_carryOut_36 hS (fun H locs hX hS => ?_)
          refine lv_iinc (v := (x11 + 1)) (lv' := [(1, .int (x11 + 1)), (2, .ref (ad (2, u22))), (0, .ref (ad (5, 0)))]) hx hb dX10_carryOut_39 hl (k := 2) rfl rfl (by decide) rfl (fun ls hl => ?_)
          refine lv_goto (tgt := 2) hx hb dX10_carryOut_42 (by decide) ?_
          exact ihg13 _ _ _ _ _ hX hS (lv_sub hl [2, 0] rfl) hf
  exact Lg13 FU _ _ _ _ _ hX hS (lv_sub hl [1, 0] rfl) hf

theorem q_d1_isColumn : VWs yX1_isColumn cX1_isColumn 2 (some .boolean) 2 := ⟨a_571, a_27, a_570, by decide +kernel, Nat.le_of_ble_eq_true rfl⟩
set_option maxRecDepth 100000 in
set_option maxHeartbeats 4000000 in
theorem c_d1_isColumn {l : Launch} {D : va_G} {cA : Nat → ClassId} {A : Nat → Prop} {ad : Cd → Nat} {L : List Cd} {G : Gt} {nt nv : Nat} (hG : WF L G nt nv) {x1 : Int32} {x2 : Int32} {S : St} {r : Int32} (hf : d1_isColumn x1 x2 = some r) : Ct l D cA A yX1_isColumn cX1_isColumn 2 (some .boolean) 1 0 0 [.int x1, .int x2] (DX D cA A ad L G S) (some (.int r)) (DX D cA A ad L G S) := by
  refine Ct_of (by decide +kernel) (Nat.le_of_ble_eq_true rfl) ?_
  intro p e s m args below meth c ls hC hr hlk hnm hX hKX hl
  have hx := hC.1
  have hb := hC.2.1
  have hS : va_S A s.heap s.heap [] := va_S.rf
  have hl : lv_has ls 2 [(0, .int x1), (1, .int x2)] := hl
  unfold d1_isColumn at hf
  refine lv_iload_n hx hb dX1_isColumn_0 rfl (lv_at hl 0 rfl) ?_
  refine lv_if_lt (tgt := 22) hx hb dX1_isColumn_1 (by decide) (fun c11 => ?_) (fun c11 => ?_)
  · have hf := it_t c11 hf
    refine lv_iconst (v := 0) hx hb dX1_isColumn_22 (by decide) ?_
    cases hf
    exact Ct_rz hx hb hr hlk nz0 hX hS dX1_isColumn_23
  · have hf := it_f c11 hf
    refine lv_iload_n hx hb dX1_isColumn_4 rfl (lv_at hl 0 rfl) ?_
    refine lv_bipush (v := 6) hx hb dX1_isColumn_5 (by decide) ?_
    refine lv_icmp_ge (tgt := 22) hx hb dX1_isColumn_7 (by decide) (fun c12 => ?_) (fun c12 => ?_)
    · have hf := it_t c12 hf
      refine lv_iconst (v := 0) hx hb dX1_isColumn_22 (by decide) ?_
      cases hf
      exact Ct_rz hx hb hr hlk nz0 hX hS dX1_isColumn_23
    · have hf := it_f c12 hf
      refine lv_iload_n hx hb dX1_isColumn_10 rfl (lv_at hl 0 rfl) ?_
      refine lv_iload_n hx hb dX1_isColumn_11 rfl (lv_at hl 1 rfl) ?_
      obtain ⟨z13, hz13, hf⟩ := cb_e hf
      refine dSx (As := [.int x1, .int x2]) (rest := []) hC (c_d1_isIn hG hz13) q_d1_isIn a_359 (Nat.le_of_ble_eq_true rfl) hX hKX rfl hl.1 (Nat.le_of_ble_eq_true rfl) dX1_isColumn_12 hS (fun H locs hX hS => ?_)
      refine lv_if_eq (tgt := 22) hx hb dX1_isColumn_15 (by decide) (fun c15 => ?_) (fun c15 => ?_)
      · have hf := it_t c15 hf
        refine lv_iconst (v := 0) hx hb dX1_isColumn_22 (by decide) ?_
        cases hf
        exact Ct_rz hx hb hr hlk nz0 hX hS dX1_isColumn_23
      · have hf := it_f c15 hf
        refine lv_iconst (v := 1) hx hb dX1_isColumn_18 (by decide) ?_
        refine lv_goto (tgt := 23) hx hb dX1_isColumn_19 (by decide) ?_
        cases hf
        exact Ct_rz hx hb hr hlk nz1 hX hS dX1_isColumn_23

theorem q_d1_isValue : VWs yX1_isValue cX1_isValue 1 (some .boolean) 1 := ⟨a_574, a_27, a_573, by decide +kernel, Nat.le_of_ble_eq_true rfl⟩
set_option maxRecDepth 100000 in
set_option maxHeartbeats 4000000 in
theorem c_d1_isValue {l : Launch} {D : va_G} {cA : Nat → ClassId} {A : Nat → Prop} {ad : Cd → Nat} {L : List Cd} {G : Gt} {nt nv : Nat} (hG : WF L G nt nv) {x1 : Int32} {S : St} {r : Int32} (hf : d1_isValue x1 = some r) : Ct l D cA A yX1_isValue cX1_isValue 1 (some .boolean) 0 0 0 [.int x1] (DX D cA A ad L G S) (some (.int r)) (DX D cA A ad L G S) := by
  refine Ct_of (by decide +kernel) (Nat.le_of_ble_eq_true rfl) ?_
  intro p e s m args below meth c ls hC hr hlk hnm hX hKX hl
  have hx := hC.1
  have hb := hC.2.1
  have hS : va_S A s.heap s.heap [] := va_S.rf
  have hl : lv_has ls 1 [(0, .int x1)] := hl
  unfold d1_isValue at hf
  refine lv_iload_n hx hb dX1_isValue_0 rfl (lv_at hl 0 rfl) ?_
  refine lv_if_lt (tgt := 14) hx hb dX1_isValue_1 (by decide) (fun c11 => ?_) (fun c11 => ?_)
  · have hf := it_t c11 hf
    refine lv_iconst (v := 0) hx hb dX1_isValue_14 (by decide) ?_
    cases hf
    exact Ct_rz hx hb hr hlk nz0 hX hS dX1_isValue_15
  · have hf := it_f c11 hf
    refine lv_iload_n hx hb dX1_isValue_4 rfl (lv_at hl 0 rfl) ?_
    refine lv_bipush (v := 9) hx hb dX1_isValue_5 (by decide) ?_
    refine lv_icmp_gt (tgt := 14) hx hb dX1_isValue_7 (by decide) (fun c12 => ?_) (fun c12 => ?_)
    · have hf := it_t c12 hf
      refine lv_iconst (v := 0) hx hb dX1_isValue_14 (by decide) ?_
      cases hf
      exact Ct_rz hx hb hr hlk nz0 hX hS dX1_isValue_15
    · have hf := it_f c12 hf
      refine lv_iconst (v := 1) hx hb dX1_isValue_10 (by decide) ?_
      refine lv_goto (tgt := 15) hx hb dX1_isValue_11 (by decide) ?_
      cases hf
      exact Ct_rz hx hb hr hlk nz1 hX hS dX1_isValue_15

theorem q_d1_isRow : VWs yX1_isRow cX1_isRow 2 (some .boolean) 2 := ⟨a_529, a_27, a_528, by decide +kernel, Nat.le_of_ble_eq_true rfl⟩
set_option maxRecDepth 100000 in
set_option maxHeartbeats 4000000 in
theorem c_d1_isRow {l : Launch} {D : va_G} {cA : Nat → ClassId} {A : Nat → Prop} {ad : Cd → Nat} {L : List Cd} {G : Gt} {nt nv : Nat} (hG : WF L G nt nv) {x1 : Int32} {x2 : Int32} {S : St} {r : Int32} (hf : d1_isRow x1 x2 = some r) : Ct l D cA A yX1_isRow cX1_isRow 2 (some .boolean) 2 0 0 [.int x1, .int x2] (DX D cA A ad L G S) (some (.int r)) (DX D cA A ad L G S) := by
  refine Ct_of (by decide +kernel) (Nat.le_of_ble_eq_true rfl) ?_
  intro p e s m args below meth c ls hC hr hlk hnm hX hKX hl
  have hx := hC.1
  have hb := hC.2.1
  have hS : va_S A s.heap s.heap [] := va_S.rf
  have hl : lv_has ls 2 [(0, .int x1), (1, .int x2)] := hl
  unfold d1_isRow at hf
  refine lv_iload_n hx hb dX1_isRow_0 rfl (lv_at hl 0 rfl) ?_
  refine lv_if_lt (tgt := 23) hx hb dX1_isRow_1 (by decide) (fun c11 => ?_) (fun c11 => ?_)
  · have hf := it_t c11 hf
    refine lv_iconst (v := 0) hx hb dX1_isRow_23 (by decide) ?_
    cases hf
    exact Ct_rz hx hb hr hlk nz0 hX hS dX1_isRow_24
  · have hf := it_f c11 hf
    refine lv_iload_n hx hb dX1_isRow_4 rfl (lv_at hl 0 rfl) ?_
    refine lv_ldc (v := 999999) hx hb hC.2.2.2.1 (tA hC.2.2.2.2 a_530) dX1_isRow_5 ?_
    refine lv_icmp_gt (tgt := 23) hx hb dX1_isRow_7 (by decide) (fun c12 => ?_) (fun c12 => ?_)
    · have hf := it_t c12 hf
      refine lv_iconst (v := 0) hx hb dX1_isRow_23 (by decide) ?_
      cases hf
      exact Ct_rz hx hb hr hlk nz0 hX hS dX1_isRow_24
    · have hf := it_f c12 hf
      refine lv_iload_n hx hb dX1_isRow_10 rfl (lv_at hl 0 rfl) ?_
      refine lv_iload_n hx hb dX1_isRow_11 rfl (lv_at hl 1 rfl) ?_
      obtain ⟨z13, hz13, hf⟩ := cb_e hf
      refine dSx (As := [.int x1, .int x2]) (rest := []) hC (c_d1_part hG hz13) q_d1_part a_531 (Nat.le_of_ble_eq_true rfl) hX hKX rfl hl.1 (Nat.le_of_ble_eq_true rfl) dX1_isRow_12 hS (fun H locs hX hS => ?_)
      refine lv_iload_n hx hb dX1_isRow_15 rfl (lv_at hl 0 rfl) ?_
      refine lv_icmp_ne (tgt := 23) hx hb dX1_isRow_16 (by decide) (fun c15 => ?_) (fun c15 => ?_)
      · have hf := it_f c15 hf
        refine lv_iconst (v := 0) hx hb dX1_isRow_23 (by decide) ?_
        cases hf
        exact Ct_rz hx hb hr hlk nz0 hX hS dX1_isRow_24
      · have hf := it_t c15 hf
        refine lv_iconst (v := 1) hx hb dX1_isRow_19 (by decide) ?_
        refine lv_goto (tgt := 24) hx hb dX1_isRow_20 (by decide) ?_
        cases hf
        exact Ct_rz hx hb hr hlk nz1 hX hS dX1_isRow_24

theorem q_d4_remove : VWv RX4 yX4_remove cX4_remove 4 none 1 := ⟨a_561, a_17, a_559, a_560, by decide +kernel, Nat.le_of_ble_eq_true rfl⟩
set_option maxRecDepth 100000 in
set_option maxHeartbeats 4000000 in
theorem c_d4_remove {l : Launch} {D : va_G} {cA : Nat → ClassId} {A : Nat → Prop} {ad : Cd → Nat} {L : List Cd} {G : Gt} {nt nv : Nat} (hG : WF L G nt nv) {i : Nat} (hi : okR L i) {x1 : Int32} {S : St} {S' : St} (hf : d4_remove i x1 S = some S') : Ct l D cA A yX4_remove cX4_remove 4 none 0 0 0 [.ref (ad (0, i)), .int x1] (DX D cA A ad L G S) none (DX D cA A ad L G S') := by
  refine Ct_of (by decide +kernel) (Nat.le_of_ble_eq_true rfl) ?_
  intro p e s m args below meth c ls hC hr hlk hnm hX hKX hl
  have hx := hC.1
  have hb := hC.2.1
  have hS : va_S A s.heap s.heap [] := va_S.rf
  have hl : lv_has ls 4 [(0, .ref (ad (0, i))), (1, .int x1)] := hl
  unfold d4_remove at hf
  refine lv_iconst (v := 0) hx hb dX4_remove_0 (by decide) ?_
  refine lv_istore_n (lv' := [(2, .int 0), (0, .ref (ad (0, i))), (1, .int x1)]) hx hb dX4_remove_1 rfl hl (by decide) rfl (fun ls hl => ?_)
  refine lv_iconst (v := 0) hx hb dX4_remove_2 (by decide) ?_
  refine lv_istore_n (lv' := [(3, .int 0), (2, .int 0), (0, .ref (ad (0, i))), (1, .int x1)]) hx hb dX4_remove_3 rfl hl (by decide) rfl (fun ls hl => ?_)
  obtain ⟨g14, g140, g14s, hf⟩ := lp3_e hf
  have Lg14 : ∀ (n : Nat) (x11 : Int32) (x12 : Int32) (S13 : St) (H : Heap) (locs : List Loc) (ls : Array Slot), DX D cA A ad L G S13 H → va_S A s.heap H locs → lv_has ls 4 [(0, .ref (ad (0, i))), (1, .int x1), (2, .int x11), (3, .int x12)] → g14 n x11 x12 S13 = some S' → W p l e (RM 0 0 0) s m args below meth c H locs 0 0 (MQ below (CtQ A none (DX D cA A ad L G S')) args s 0 0 A) (F0 m 4 ls []) := by
    intro n
    induction n with
    | zero => intro x11 x12 S13 H locs ls hX hS hl hf; rw [g140] at hf; cases hf
    | succ n ihg14 =>
      intro x11 x12 S13 H locs ls hX hS hl hf
      rw [g14s] at hf
      refine lv_iload_n hx hb dX4_remove_4 rfl (lv_at hl 3 rfl) ?_
      refine lv_aload_n hx hb dX4_remove_5 rfl (lv_at hl 0 rfl) ?_
      refine dget (cd := (0, i)) (ci := 3) (C := RX4) (T := TX4) (N := 2) (v := .int (S13.1 i)) hx hb hC hKX.1 hX hi.1 rfl rfl inX4 1 (by decide) a_55 (Or.inl rfl) rfl dX4_remove_6 ?_
      refine lv_icmp_ge (tgt := 52) hx hb dX4_remove_9 (by decide) (fun c15 => ?_) (fun c15 => ?_)
      · have hf := it_t c15 hf
        refine lv_aload_n hx hb dX4_remove_52 rfl (lv_at hl 0 rfl) ?_
        refine lv_iload_n hx hb dX4_remove_53 rfl (lv_at hl 2 rfl) ?_
        refine dput (cd := (0, i)) (ci := 3) (C := RX4) (T := TX4) (N := 2) (ty := .int) hx hb hC hKX.1 hX hS hi.1 rfl rfl inX4 tyX4 tyX4_ok nmX4 1 (by decide) a_55 rfl rfl (by decide +kernel) rfl rfl (Nat.le_of_ble_eq_true rfl) (dsetR hG hi.2.2) dX4_remove_54 (fun H locs hX hS => ?_)
        obtain ⟨S16, eS16, hf⟩ := lt_e hf
        rw [← eS16] at hX
        cases hf
        exact Ct_rv hx hb hr hlk hX hS dX4_remove_57
      · have hf := it_f c15 hf
        refine lv_iload_n hx hb dX4_remove_12 rfl (lv_at hl 3 rfl) ?_
        refine lv_aload_n hx hb dX4_remove_13 rfl (lv_at hl 0 rfl) ?_
        refine dget (cd := (0, i)) (ci := 3) (C := RX4) (T := TX4) (N := 2) (v := .ref (ad (1, i))) hx hb hC hKX.1 hX hi.1 rfl rfl inX4 0 (by decide) a_54 (Or.inl rfl) rfl dX4_remove_14 ?_
        refine dlen (cd := (1, i)) hx hb hKX.1 hX hi.2.1 rfl 0 rfl (v := (nI (dcap i))) rfl dX4_remove_17 ?_
        refine lv_icmp_ge (tgt := 52) hx hb dX4_remove_18 (by decide) (fun c17 => ?_) (fun c17 => ?_)
        · have hf := it_t c17 hf
          refine lv_aload_n hx hb dX4_remove_52 rfl (lv_at hl 0 rfl) ?_
          refine lv_iload_n hx hb dX4_remove_53 rfl (lv_at hl 2 rfl) ?_
          refine dput (cd := (0, i)) (ci := 3) (C := RX4) (T := TX4) (N := 2) (ty := .int) hx hb hC hKX.1 hX hS hi.1 rfl rfl inX4 tyX4 tyX4_ok nmX4 1 (by decide) a_55 rfl rfl (by decide +kernel) rfl rfl (Nat.le_of_ble_eq_true rfl) (dsetR hG hi.2.2) dX4_remove_54 (fun H locs hX hS => ?_)
          obtain ⟨S18, eS18, hf⟩ := lt_e hf
          rw [← eS18] at hX
          cases hf
          exact Ct_rv hx hb hr hlk hX hS dX4_remove_57
        · have hf := it_f c17 hf
          refine lv_aload_n hx hb dX4_remove_21 rfl (lv_at hl 0 rfl) ?_
          refine dget (cd := (0, i)) (ci := 3) (C := RX4) (T := TX4) (N := 2) (v := .ref (ad (1, i))) hx hb hC hKX.1 hX hi.1 rfl rfl inX4 0 (by decide) a_54 (Or.inl rfl) rfl dX4_remove_22 ?_
          refine lv_iload_n hx hb dX4_remove_25 rfl (lv_at hl 3 rfl) ?_
          obtain ⟨h20, j19, ej19, hf⟩ := rd_e hf
          refine dald (cd := (1, i)) hx hb hKX.1 hX hi.2.1 rfl h20 ej19 dX4_remove_26 ?_
          refine lv_iload_n hx hb dX4_remove_27 rfl (lv_at hl 1 rfl) ?_
          refine lv_icmp_eq (tgt := 46) hx hb dX4_remove_28 (by decide) (fun c21 => ?_) (fun c21 => ?_)
          · have hf := it_t c21 hf
            refine lv_iinc (v := (x12 + 1)) (lv' := [(3, .int (x12 + 1)), (0, .ref (ad (0, i))), (1, .int x1), (2, .int x11)]) hx hb dX4_remove_46 hl (k := 3) rfl rfl (by decide) rfl (fun ls hl => ?_)
            refine lv_goto (tgt := 4) hx hb dX4_remove_49 (by decide) ?_
            exact ihg14 _ _ _ _ _ _ hX hS (lv_sub hl [1, 2, 3, 0] rfl) hf
          · have hf := it_f c21 hf
            refine lv_aload_n hx hb dX4_remove_31 rfl (lv_at hl 0 rfl) ?_
            refine dget (cd := (0, i)) (ci := 3) (C := RX4) (T := TX4) (N := 2) (v := .ref (ad (1, i))) hx hb hC hKX.1 hX hi.1 rfl rfl inX4 0 (by decide) a_54 (Or.inl rfl) rfl dX4_remove_32 ?_
            refine lv_iload_n hx hb dX4_remove_35 rfl (lv_at hl 2 rfl) ?_
            refine lv_aload_n hx hb dX4_remove_36 rfl (lv_at hl 0 rfl) ?_
            refine dget (cd := (0, i)) (ci := 3) (C := RX4) (T := TX4) (N := 2) (v := .ref (ad (1, i))) hx hb hC hKX.1 hX hi.1 rfl rfl inX4 0 (by decide) a_54 (Or.inl rfl) rfl dX4_remove_37 ?_
            refine lv_iload_n hx hb dX4_remove_40 rfl (lv_at hl 3 rfl) ?_
            obtain ⟨h23, j22, ej22, hf⟩ := rd_e hf
            refine dald (cd := (1, i)) hx hb hKX.1 hX hi.2.1 rfl h23 ej22 dX4_remove_41 ?_
            obtain ⟨h25, j24, ej24, hf⟩ := rd_e hf
            refine dast (cd := (1, i)) hx hb hKX.1 hX hS hi.2.1 rfl (dsetA hG hi.2.2) h25 ej24 dX4_remove_42 (fun H locs hX hS => ?_)
            obtain ⟨S26, eS26, hf⟩ := lt_e hf
            rw [← eS26] at hX
            refine lv_iinc (v := (x11 + 1)) (lv' := [(2, .int (x11 + 1)), (0, .ref (ad (0, i))), (1, .int x1), (3, .int x12)]) hx hb dX4_remove_43 hl (k := 2) rfl rfl (by decide) rfl (fun ls hl => ?_)
            refine lv_iinc (v := (x12 + 1)) (lv' := [(3, .int (x12 + 1)), (2, .int (x11 + 1)), (0, .ref (ad (0, i))), (1, .int x1)]) hx hb dX4_remove_46 hl (k := 3) rfl rfl (by decide) rfl (fun ls hl => ?_)
            refine lv_goto (tgt := 4) hx hb dX4_remove_49 (by decide) ?_
            exact ihg14 _ _ _ _ _ _ hX hS (lv_sub hl [2, 3, 1, 0] rfl) hf
  exact Lg14 FU _ _ _ _ _ _ hX hS (lv_sub hl [2, 3, 1, 0] rfl) hf

theorem q_d6_recall : VWv RX6 yX6_recall cX6_recall 2 none 1 := ⟨a_992, a_25, a_990, a_991, by decide +kernel, Nat.le_of_ble_eq_true rfl⟩
set_option maxRecDepth 100000 in
set_option maxHeartbeats 4000000 in
theorem c_d6_recall {l : Launch} {D : va_G} {cA : Nat → ClassId} {A : Nat → Prop} {ad : Cd → Nat} {L : List Cd} {G : Gt} {nt nv : Nat} (hG : WF L G nt nv) {t : Nat} (ht : t < nt) {x1 : Int32} {S : St} {S' : St} (hf : d6_recall t x1 S = some S') : Ct l D cA A yX6_recall cX6_recall 2 none 2 0 0 [.ref (ad (2, t)), .int x1] (DX D cA A ad L G S) none (DX D cA A ad L G S') := by
  refine Ct_of (by decide +kernel) (Nat.le_of_ble_eq_true rfl) ?_
  intro p e s m args below meth c ls hC hr hlk hnm hX hKX hl
  have hx := hC.1
  have hb := hC.2.1
  have hS : va_S A s.heap s.heap [] := va_S.rf
  have hl : lv_has ls 2 [(0, .ref (ad (2, t))), (1, .int x1)] := hl
  unfold d6_recall at hf
  refine lv_iload_n hx hb dX6_recall_0 rfl (lv_at hl 1 rfl) ?_
  refine lv_if_lt (tgt := 35) hx hb dX6_recall_1 (by decide) (fun c11 => ?_) (fun c11 => ?_)
  · have hf := it_t c11 hf
    cases hf
    exact Ct_rv hx hb hr hlk hX hS dX6_recall_35
  · have hf := it_f c11 hf
    refine lv_iload_n hx hb dX6_recall_4 rfl (lv_at hl 1 rfl) ?_
    refine lv_aload_n hx hb dX6_recall_5 rfl (lv_at hl 0 rfl) ?_
    refine dget (cd := (2, t)) (ci := 5) (C := RX6) (T := TX6) (N := 5) (v := .ref (ad (3, t))) hx hb hC hKX.1 hX (hG.T ht) rfl rfl inX6 4 (by decide) a_923 (Or.inl rfl) rfl dX6_recall_6 ?_
    refine dlen (cd := (3, t)) hx hb hKX.1 hX (hG.P ht) rfl 5 rfl (v := 5) rfl dX6_recall_9 ?_
    refine lv_icmp_ge (tgt := 35) hx hb dX6_recall_10 (by decide) (fun c12 => ?_) (fun c12 => ?_)
    · have hf := it_t c12 hf
      cases hf
      exact Ct_rv hx hb hr hlk hX hS dX6_recall_35
    · have hf := it_f c12 hf
      refine lv_aload_n hx hb dX6_recall_13 rfl (lv_at hl 0 rfl) ?_
      refine dget (cd := (2, t)) (ci := 5) (C := RX6) (T := TX6) (N := 5) (v := .ref (ad (3, t))) hx hb hC hKX.1 hX (hG.T ht) rfl rfl inX6 4 (by decide) a_923 (Or.inl rfl) rfl dX6_recall_14 ?_
      refine lv_iload_n hx hb dX6_recall_17 rfl (lv_at hl 1 rfl) ?_
      obtain ⟨h14, j13, ej13, hf⟩ := rd_e hf
      refine daald (cd := (3, t)) (v := .ref (ad (0, (3 + 7 * t + j13)))) hx hb hKX.1 hX (hG.P ht) rfl 5 rfl h14 ej13 (by rw [if_pos (vp_lt h14 ej13)]; rfl) dX6_recall_18 ?_
      refine lv_ifnull hx hb dX6_recall_19 ?_
      refine lv_aload_n hx hb dX6_recall_22 rfl (lv_at hl 0 rfl) ?_
      refine dget (cd := (2, t)) (ci := 5) (C := RX6) (T := TX6) (N := 5) (v := .ref (ad (0, (1 + 7 * t)))) hx hb hC hKX.1 hX (hG.T ht) rfl rfl inX6 2 (by decide) a_916 (Or.inl rfl) rfl dX6_recall_23 ?_
      refine lv_aload_n hx hb dX6_recall_26 rfl (lv_at hl 0 rfl) ?_
      refine dget (cd := (2, t)) (ci := 5) (C := RX6) (T := TX6) (N := 5) (v := .ref (ad (3, t))) hx hb hC hKX.1 hX (hG.T ht) rfl rfl inX6 4 (by decide) a_923 (Or.inl rfl) rfl dX6_recall_27 ?_
      refine lv_iload_n hx hb dX6_recall_30 rfl (lv_at hl 1 rfl) ?_
      obtain ⟨h16, j15, ej15, hf⟩ := rd_e hf
      refine daald (cd := (3, t)) (v := .ref (ad (0, (3 + 7 * t + j15)))) hx hb hKX.1 hX (hG.P ht) rfl 5 rfl h16 ej15 (by rw [if_pos (vp_lt h16 ej15)]; rfl) dX6_recall_31 ?_
      obtain ⟨S19, hz17, hf⟩ := cb_e hf
      refine dVv (cd := (0, (1 + 7 * t))) (As := [.ref (ad (0, (3 + 7 * t + j15)))]) (rest := []) hC (c_d4_takeOver hG (hG.r1 ht) (hG.r3 ht (vp_lt h16 ej15)) hz17) q_d4_takeOver a_979 (Nat.le_of_ble_eq_true rfl) hX hKX (hG.r1 ht).1 rfl rfl rfl hl.1 (Nat.le_of_ble_eq_true rfl) dX6_recall_32 hS (fun H locs hX hS => ?_)
      cases hf
      exact Ct_rv hx hb hr hlk hX hS dX6_recall_35

theorem q_dJ_bitCount : VWs yJ6_bitCount_0f7a4 cJ6_bitCount_0f7a4 1 (some .int) 1 := ⟨a_444, a_35, a_443, by decide +kernel, Nat.le_of_ble_eq_true rfl⟩
set_option maxRecDepth 100000 in
set_option maxHeartbeats 4000000 in
theorem c_dJ_bitCount {l : Launch} {D : va_G} {cA : Nat → ClassId} {A : Nat → Prop} {ad : Cd → Nat} {L : List Cd} {G : Gt} {nt nv : Nat} (hG : WF L G nt nv) {x1 : Int32} {S : St} {r : Int32} (hf : dJ_bitCount x1 = some r) : Ct l D cA A yJ6_bitCount_0f7a4 cJ6_bitCount_0f7a4 1 (some .int) 0 0 0 [.int x1] (DX D cA A ad L G S) (some (.int r)) (DX D cA A ad L G S) := by
  refine Ct_of (by decide +kernel) (Nat.le_of_ble_eq_true rfl) ?_
  intro p e s m args below meth c ls hC hr hlk hnm hX hKX hl
  have hx := hC.1
  have hb := hC.2.1
  have hS : va_S A s.heap s.heap [] := va_S.rf
  have hl : lv_has ls 1 [(0, .int x1)] := hl
  unfold dJ_bitCount at hf
  refine lv_iload_n hx hb dJ6_bitCount_0f7a4_0 rfl (lv_at hl 0 rfl) ?_
  refine lv_iload_n hx hb dJ6_bitCount_0f7a4_1 rfl (lv_at hl 0 rfl) ?_
  refine lv_iconst (v := 1) hx hb dJ6_bitCount_0f7a4_2 (by decide) ?_
  refine lv_iushr (v := (ushr x1 1)) hx hb dJ6_bitCount_0f7a4_3 rfl ?_
  refine lv_ldcw (v := 1431655765) hx hb hC.2.2.2.1 (tA hC.2.2.2.2 a_445) dJ6_bitCount_0f7a4_4 ?_
  refine lv_iand hx hb dJ6_bitCount_0f7a4_7 ?_
  refine lv_isub hx hb dJ6_bitCount_0f7a4_8 ?_
  refine lv_istore_n (lv' := [(0, .int (x1 - ((ushr x1 1) &&& 1431655765)))]) hx hb dJ6_bitCount_0f7a4_9 rfl hl (by decide) rfl (fun ls hl => ?_)
  refine lv_iload_n hx hb dJ6_bitCount_0f7a4_10 rfl (lv_at hl 0 rfl) ?_
  refine lv_ldcw (v := 858993459) hx hb hC.2.2.2.1 (tA hC.2.2.2.2 a_446) dJ6_bitCount_0f7a4_11 ?_
  refine lv_iand hx hb dJ6_bitCount_0f7a4_14 ?_
  refine lv_iload_n hx hb dJ6_bitCount_0f7a4_15 rfl (lv_at hl 0 rfl) ?_
  refine lv_iconst (v := 2) hx hb dJ6_bitCount_0f7a4_16 (by decide) ?_
  refine lv_iushr (v := (ushr (x1 - ((ushr x1 1) &&& 1431655765)) 2)) hx hb dJ6_bitCount_0f7a4_17 rfl ?_
  refine lv_ldcw (v := 858993459) hx hb hC.2.2.2.1 (tA hC.2.2.2.2 a_446) dJ6_bitCount_0f7a4_18 ?_
  refine lv_iand hx hb dJ6_bitCount_0f7a4_21 ?_
  refine lv_iadd hx hb dJ6_bitCount_0f7a4_22 ?_
  refine lv_topi (fun x11 ex11 => ?_)
  have hf := lt_at ex11 hf
  refine lv_istore_n (lv' := [(0, .int x11)]) hx hb dJ6_bitCount_0f7a4_23 rfl hl (by decide) rfl (fun ls hl => ?_)
  refine lv_iload_n hx hb dJ6_bitCount_0f7a4_24 rfl (lv_at hl 0 rfl) ?_
  refine lv_iload_n hx hb dJ6_bitCount_0f7a4_25 rfl (lv_at hl 0 rfl) ?_
  refine lv_iconst (v := 4) hx hb dJ6_bitCount_0f7a4_26 (by decide) ?_
  refine lv_iushr (v := (ushr x11 4)) hx hb dJ6_bitCount_0f7a4_27 rfl ?_
  refine lv_iadd hx hb dJ6_bitCount_0f7a4_28 ?_
  refine lv_ldcw (v := 252645135) hx hb hC.2.2.2.1 (tA hC.2.2.2.2 a_447) dJ6_bitCount_0f7a4_29 ?_
  refine lv_iand hx hb dJ6_bitCount_0f7a4_32 ?_
  refine lv_istore_n (lv' := [(0, .int ((x11 + (ushr x11 4)) &&& 252645135))]) hx hb dJ6_bitCount_0f7a4_33 rfl hl (by decide) rfl (fun ls hl => ?_)
  refine lv_iload_n hx hb dJ6_bitCount_0f7a4_34 rfl (lv_at hl 0 rfl) ?_
  refine lv_iload_n hx hb dJ6_bitCount_0f7a4_35 rfl (lv_at hl 0 rfl) ?_
  refine lv_bipush (v := 8) hx hb dJ6_bitCount_0f7a4_36 (by decide) ?_
  refine lv_iushr (v := (ushr ((x11 + (ushr x11 4)) &&& 252645135) 8)) hx hb dJ6_bitCount_0f7a4_38 rfl ?_
  refine lv_iadd hx hb dJ6_bitCount_0f7a4_39 ?_
  refine lv_topi (fun x12 ex12 => ?_)
  have hf := lt_at ex12 hf
  refine lv_istore_n (lv' := [(0, .int x12)]) hx hb dJ6_bitCount_0f7a4_40 rfl hl (by decide) rfl (fun ls hl => ?_)
  refine lv_iload_n hx hb dJ6_bitCount_0f7a4_41 rfl (lv_at hl 0 rfl) ?_
  refine lv_iload_n hx hb dJ6_bitCount_0f7a4_42 rfl (lv_at hl 0 rfl) ?_
  refine lv_bipush (v := 16) hx hb dJ6_bitCount_0f7a4_43 (by decide) ?_
  refine lv_iushr (v := (ushr x12 16)) hx hb dJ6_bitCount_0f7a4_45 rfl ?_
  refine lv_iadd hx hb dJ6_bitCount_0f7a4_46 ?_
  refine lv_istore_n (lv' := [(0, .int (x12 + (ushr x12 16)))]) hx hb dJ6_bitCount_0f7a4_47 rfl hl (by decide) rfl (fun ls hl => ?_)
  refine lv_iload_n hx hb dJ6_bitCount_0f7a4_48 rfl (lv_at hl 0 rfl) ?_
  refine lv_bipush (v := 63) hx hb dJ6_bitCount_0f7a4_49 (by decide) ?_
  refine lv_iand hx hb dJ6_bitCount_0f7a4_51 ?_
  cases hf
  exact Ct_ri hx hb hr hlk hX hS dJ6_bitCount_0f7a4_52

theorem q_d8_hasGreatValue : VWs yX8_hasGreatValue cX8_hasGreatValue 2 (some .boolean) 1 := ⟨a_452, a_19, a_451, by decide +kernel, Nat.le_of_ble_eq_true rfl⟩
set_option maxRecDepth 100000 in
set_option maxHeartbeats 4000000 in
theorem c_d8_hasGreatValue {l : Launch} {D : va_G} {cA : Nat → ClassId} {A : Nat → Prop} {ad : Cd → Nat} {L : List Cd} {G : Gt} {nt nv : Nat} (hG : WF L G nt nv) {x1 : Int32} {S : St} {r : Int32} (hf : d8_hasGreatValue x1 = some r) : Ct l D cA A yX8_hasGreatValue cX8_hasGreatValue 2 (some .boolean) 1 0 0 [.int x1] (DX D cA A ad L G S) (some (.int r)) (DX D cA A ad L G S) := by
  refine Ct_of (by decide +kernel) (Nat.le_of_ble_eq_true rfl) ?_
  intro p e s m args below meth c ls hC hr hlk hnm hX hKX hl
  have hx := hC.1
  have hb := hC.2.1
  have hS : va_S A s.heap s.heap [] := va_S.rf
  have hl : lv_has ls 2 [(0, .int x1)] := hl
  unfold d8_hasGreatValue at hf
  refine lv_iconst (v := 0) hx hb dX8_hasGreatValue_0 (by decide) ?_
  refine lv_istore_n (lv' := [(1, .int 0), (0, .int x1)]) hx hb dX8_hasGreatValue_1 rfl hl (by decide) rfl (fun ls hl => ?_)
  obtain ⟨g12, g120, g12s, hf⟩ := lp1_e hf
  have Lg12 : ∀ (n : Nat) (x11 : Int32) (H : Heap) (locs : List Loc) (ls : Array Slot), DX D cA A ad L G S H → va_S A s.heap H locs → lv_has ls 2 [(0, .int x1), (1, .int x11)] → g12 n x11 = some r → W p l e (RM 1 0 0) s m args below meth c H locs 0 0 (MQ below (CtQ A (some (.int r)) (DX D cA A ad L G S)) args s 0 0 A) (F0 m 2 ls []) := by
    intro n
    induction n with
    | zero => intro x11 H locs ls hX hS hl hf; rw [g120] at hf; cases hf
    | succ n ihg12 =>
      intro x11 H locs ls hX hS hl hf
      rw [g12s] at hf
      refine lv_iload_n hx hb dX8_hasGreatValue_2 rfl (lv_at hl 1 rfl) ?_
      refine lv_bipush (v := 6) hx hb dX8_hasGreatValue_3 (by decide) ?_
      refine lv_icmp_ge (tgt := 25) hx hb dX8_hasGreatValue_5 (by decide) (fun c13 => ?_) (fun c13 => ?_)
      · have hf := it_t c13 hf
        refine lv_iconst (v := 0) hx hb dX8_hasGreatValue_25 (by decide) ?_
        cases hf
        exact Ct_rz hx hb hr hlk nz0 hX hS dX8_hasGreatValue_26
      · have hf := it_f c13 hf
        refine lv_iload_n hx hb dX8_hasGreatValue_8 rfl (lv_at hl 0 rfl) ?_
        refine lv_iload_n hx hb dX8_hasGreatValue_9 rfl (lv_at hl 1 rfl) ?_
        obtain ⟨z14, hz14, hf⟩ := cb_e hf
        refine dSx (As := [.int x1, .int x11]) (rest := []) hC (c_d1_digit hG hz14) q_d1_digit a_453 (Nat.le_of_ble_eq_true rfl) hX hKX rfl hl.1 (Nat.le_of_ble_eq_true rfl) dX8_hasGreatValue_10 hS (fun H locs hX hS => ?_)
        refine lv_iconst (v := 2) hx hb dX8_hasGreatValue_13 (by decide) ?_
        refine lv_icmp_le (tgt := 19) hx hb dX8_hasGreatValue_14 (by decide) (fun c16 => ?_) (fun c16 => ?_)
        · have hf := it_t c16 hf
          refine lv_iinc (v := (x11 + 1)) (lv' := [(1, .int (x11 + 1)), (0, .int x1)]) hx hb dX8_hasGreatValue_19 hl (k := 1) rfl rfl (by decide) rfl (fun ls hl => ?_)
          refine lv_goto (tgt := 2) hx hb dX8_hasGreatValue_22 (by decide) ?_
          exact ihg12 _ _ _ _ hX hS (lv_sub hl [1, 0] rfl) hf
        · have hf := it_f c16 hf
          refine lv_iconst (v := 1) hx hb dX8_hasGreatValue_17 (by decide) ?_
          cases hf
          exact Ct_rz hx hb hr hlk nz1 hX hS dX8_hasGreatValue_18
  exact Lg12 FU _ _ _ _ hX hS (lv_sub hl [1, 0] rfl) hf

theorem q_d8_canTry : VWs yX8_canTry cX8_canTry 2 (some .boolean) 1 := ⟨a_441, a_19, a_440, by decide +kernel, Nat.le_of_ble_eq_true rfl⟩
set_option maxRecDepth 100000 in
set_option maxHeartbeats 4000000 in
theorem c_d8_canTry {l : Launch} {D : va_G} {cA : Nat → ClassId} {A : Nat → Prop} {ad : Cd → Nat} {L : List Cd} {G : Gt} {nt nv : Nat} (hG : WF L G nt nv) {t1 : Nat} (ht1 : t1 < nt) {S : St} {r : Int32} (hf : d8_canTry G nt nv t1 S = some r) : Ct l D cA A yX8_canTry cX8_canTry 2 (some .boolean) 2 0 0 [.ref (ad (2, t1))] (DX D cA A ad L G S) (some (.int r)) (DX D cA A ad L G S) := by
  refine Ct_of (by decide +kernel) (Nat.le_of_ble_eq_true rfl) ?_
  intro p e s m args below meth c ls hC hr hlk hnm hX hKX hl
  have hx := hC.1
  have hb := hC.2.1
  have hS : va_S A s.heap s.heap [] := va_S.rf
  have hl : lv_has ls 2 [(0, .ref (ad (2, t1)))] := hl
  unfold d8_canTry at hf
  refine lv_aload_n hx hb dX8_canTry_0 rfl (lv_at hl 0 rfl) ?_
  refine dget (cd := (2, t1)) (ci := 5) (C := RX6) (T := TX6) (N := 5) (v := .int (G (20 + t1) 0)) hx hb hC hKX.1 hX (hG.T ht1) rfl rfl inX6 0 (by decide) a_910 (Or.inl rfl) rfl dX8_canTry_1 ?_
  obtain ⟨z11, hz11, hf⟩ := cb_e hf
  refine dSx (As := [.int (G (20 + t1) 0)]) (rest := []) hC (c_dJ_bitCount hG hz11) q_dJ_bitCount a_442 (Nat.le_of_ble_eq_true rfl) hX hKX rfl hl.1 (Nat.le_of_ble_eq_true rfl) dX8_canTry_4 hS (fun H locs hX hS => ?_)
  refine lv_iconst (v := 2) hx hb dX8_canTry_7 (by decide) ?_
  refine lv_icmp_le (tgt := 13) hx hb dX8_canTry_8 (by decide) (fun c13 => ?_) (fun c13 => ?_)
  · have hf := it_t c13 hf
    refine lv_iconst (v := 0) hx hb dX8_canTry_13 (by decide) ?_
    refine lv_istore_n (lv' := [(1, .int 0), (0, .ref (ad (2, t1)))]) hx hb dX8_canTry_14 rfl hl (by decide) rfl (fun ls hl => ?_)
    obtain ⟨g15, g150, g15s, hf⟩ := lp1_e hf
    have Lg15 : ∀ (n : Nat) (x14 : Int32) (H : Heap) (locs : List Loc) (ls : Array Slot), DX D cA A ad L G S H → va_S A s.heap H locs → lv_has ls 2 [(0, .ref (ad (2, t1))), (1, .int x14)] → g15 n x14 = some r → W p l e (RM 2 0 0) s m args below meth c H locs 0 0 (MQ below (CtQ A (some (.int r)) (DX D cA A ad L G S)) args s 0 0 A) (F0 m 15 ls []) := by
      intro n
      induction n with
      | zero => intro x14 H locs ls hX hS hl hf; rw [g150] at hf; cases hf
      | succ n ihg15 =>
        intro x14 H locs ls hX hS hl hf
        rw [g15s] at hf
        refine lv_iload_n hx hb dX8_canTry_15 rfl (lv_at hl 1 rfl) ?_
        refine lv_aload_n hx hb dX8_canTry_16 rfl (lv_at hl 0 rfl) ?_
        refine dget (cd := (2, t1)) (ci := 5) (C := RX6) (T := TX6) (N := 5) (v := .ref (ad (0, (1 + 7 * t1)))) hx hb hC hKX.1 hX (hG.T ht1) rfl rfl inX6 2 (by decide) a_918 (Or.inl rfl) rfl dX8_canTry_17 ?_
        obtain ⟨z16, hz16, hf⟩ := cb_e hf
        refine dVx (cd := (0, (1 + 7 * t1))) (As := []) (rest := [.int x14]) hC (c_d4_size hG (hG.r1 ht1) hz16) q_d4_size a_448 (Nat.le_of_ble_eq_true rfl) hX hKX (hG.r1 ht1).1 rfl rfl rfl hl.1 (Nat.le_of_ble_eq_true rfl) dX8_canTry_20 hS (fun H locs hX hS => ?_)
        refine lv_icmp_ge (tgt := 48) hx hb dX8_canTry_23 (by decide) (fun c18 => ?_) (fun c18 => ?_)
        · have hf := it_t c18 hf
          refine lv_iconst (v := 1) hx hb dX8_canTry_48 (by decide) ?_
          cases hf
          exact Ct_rz hx hb hr hlk nz1 hX hS dX8_canTry_49
        · have hf := it_f c18 hf
          refine lv_aload_n hx hb dX8_canTry_26 rfl (lv_at hl 0 rfl) ?_
          refine dget (cd := (2, t1)) (ci := 5) (C := RX6) (T := TX6) (N := 5) (v := .ref (ad (0, (1 + 7 * t1)))) hx hb hC hKX.1 hX (hG.T ht1) rfl rfl inX6 2 (by decide) a_918 (Or.inl rfl) rfl dX8_canTry_27 ?_
          refine lv_iload_n hx hb dX8_canTry_30 rfl (lv_at hl 1 rfl) ?_
          obtain ⟨z19, hz19, hf⟩ := cb_e hf
          refine dVx (cd := (0, (1 + 7 * t1))) (As := [.int x14]) (rest := []) hC (c_d4_at hG (hG.r1 ht1) hz19) q_d4_at a_449 (Nat.le_of_ble_eq_true rfl) hX hKX (hG.r1 ht1).1 rfl rfl rfl hl.1 (Nat.le_of_ble_eq_true rfl) dX8_canTry_31 hS (fun H locs hX hS => ?_)
          obtain ⟨z21, hz21, hf⟩ := cb_e hf
          refine dSx (As := [.int z19]) (rest := []) hC (c_d8_hasGreatValue hG hz21) q_d8_hasGreatValue a_450 (Nat.le_of_ble_eq_true rfl) hX hKX rfl hl.1 (Nat.le_of_ble_eq_true rfl) dX8_canTry_34 hS (fun H locs hX hS => ?_)
          refine lv_if_eq (tgt := 42) hx hb dX8_canTry_37 (by decide) (fun c23 => ?_) (fun c23 => ?_)
          · have hf := it_t c23 hf
            refine lv_iinc (v := (x14 + 1)) (lv' := [(1, .int (x14 + 1)), (0, .ref (ad (2, t1)))]) hx hb dX8_canTry_42 hl (k := 1) rfl rfl (by decide) rfl (fun ls hl => ?_)
            refine lv_goto (tgt := 15) hx hb dX8_canTry_45 (by decide) ?_
            exact ihg15 _ _ _ _ hX hS (lv_sub hl [1, 0] rfl) hf
          · have hf := it_f c23 hf
            refine lv_iconst (v := 0) hx hb dX8_canTry_40 (by decide) ?_
            cases hf
            exact Ct_rz hx hb hr hlk nz0 hX hS dX8_canTry_41
    exact Lg15 FU _ _ _ _ hX hS (lv_sub hl [1, 0] rfl) hf
  · have hf := it_f c13 hf
    refine lv_iconst (v := 0) hx hb dX8_canTry_11 (by decide) ?_
    cases hf
    exact Ct_rz hx hb hr hlk nz0 hX hS dX8_canTry_12

theorem q_d8_listRows : VWv RX8 yX8_listRows cX8_listRows 5 none 1 := ⟨a_462, a_19, a_461, a_6, by decide +kernel, Nat.le_of_ble_eq_true rfl⟩
set_option maxRecDepth 100000 in
set_option maxHeartbeats 4000000 in
theorem c_d8_listRows {l : Launch} {D : va_G} {cA : Nat → ClassId} {A : Nat → Prop} {ad : Cd → Nat} {L : List Cd} {G : Gt} {nt nv : Nat} (hG : WF L G nt nv) {x1 : Int32} {S : St} {S' : St} (hf : d8_listRows x1 S = some S') : Ct l D cA A yX8_listRows cX8_listRows 5 none 1 0 0 [.ref (ad (5, 4)), .int x1] (DX D cA A ad L G S) none (DX D cA A ad L G S') := by
  refine Ct_of (by decide +kernel) (Nat.le_of_ble_eq_true rfl) ?_
  intro p e s m args below meth c ls hC hr hlk hnm hX hKX hl
  have hx := hC.1
  have hb := hC.2.1
  have hS : va_S A s.heap s.heap [] := va_S.rf
  have hl : lv_has ls 5 [(0, .ref (ad (5, 4))), (1, .int x1)] := hl
  unfold d8_listRows at hf
  refine lv_aload_n hx hb dX8_listRows_0 rfl (lv_at hl 0 rfl) ?_
  refine dget (cd := (5, 4)) (ci := 7) (C := RX8) (T := TX8) (N := 6) (v := .ref (ad (5, 5))) hx hb hC hKX.1 hX (hG.F 4 (by decide)) rfl rfl inX8 0 (by decide) a_87 (Or.inl rfl) rfl dX8_listRows_1 ?_
  refine lv_iconst (v := 0) hx hb dX8_listRows_4 (by decide) ?_
  refine lv_iconst (v := 0) hx hb dX8_listRows_5 (by decide) ?_
  obtain ⟨h12, j11, ej11, hf⟩ := rd_e hf
  refine dast (cd := (5, 5)) hx hb hKX.1 hX hS (hG.F 5 (by decide)) rfl (dsetB42 hG) h12 ej11 dX8_listRows_6 (fun H locs hX hS => ?_)
  obtain ⟨S13, eS13, hf⟩ := lt_e hf
  rw [← eS13] at hX
  refine lv_aload_n hx hb dX8_listRows_7 rfl (lv_at hl 0 rfl) ?_
  refine lv_iconst (v := 1) hx hb dX8_listRows_8 (by decide) ?_
  refine dput (cd := (5, 4)) (ci := 7) (C := RX8) (T := TX8) (N := 6) (ty := .int) hx hb hC hKX.1 hX hS (hG.F 4 (by decide)) rfl rfl inX8 tyX8 tyX8_ok nmX8 2 (by decide) a_89 rfl rfl (by decide +kernel) rfl rfl (Nat.le_of_ble_eq_true rfl) (dset49 hG) dX8_listRows_9 (fun H locs hX hS => ?_)
  obtain ⟨S14, eS14, hf⟩ := lt_e hf
  rw [← eS14] at hX
  refine lv_iconst (v := 0) hx hb dX8_listRows_12 (by decide) ?_
  refine lv_istore_n (lv' := [(2, .int 0), (0, .ref (ad (5, 4))), (1, .int x1)]) hx hb dX8_listRows_13 rfl hl (by decide) rfl (fun ls hl => ?_)
  obtain ⟨g17, g170, g17s, hf⟩ := lp2_e hf
  have Lg17 : ∀ (n : Nat) (x15 : Int32) (S16 : St) (H : Heap) (locs : List Loc) (ls : Array Slot), DX D cA A ad L G S16 H → va_S A s.heap H locs → lv_has ls 5 [(0, .ref (ad (5, 4))), (1, .int x1), (2, .int x15)] → g17 n x15 S16 = some S' → W p l e (RM 1 0 0) s m args below meth c H locs 0 0 (MQ below (CtQ A none (DX D cA A ad L G S')) args s 0 0 A) (F0 m 14 ls []) := by
    intro n
    induction n with
    | zero => intro x15 S16 H locs ls hX hS hl hf; rw [g170] at hf; cases hf
    | succ n ihg17 =>
      intro x15 S16 H locs ls hX hS hl hf
      rw [g17s] at hf
      refine lv_iload_n hx hb dX8_listRows_14 rfl (lv_at hl 2 rfl) ?_
      refine lv_bipush (v := 6) hx hb dX8_listRows_15 (by decide) ?_
      refine lv_icmp_ge (tgt := 104) hx hb dX8_listRows_17 (by decide) (fun c18 => ?_) (fun c18 => ?_)
      · have hf := it_t c18 hf
        cases hf
        exact Ct_rv hx hb hr hlk hX hS dX8_listRows_104
      · have hf := it_f c18 hf
        refine lv_iload_n hx hb dX8_listRows_20 rfl (lv_at hl 2 rfl) ?_
        refine lv_iload_n hx hb dX8_listRows_21 rfl (lv_at hl 1 rfl) ?_
        obtain ⟨z19, hz19, hf⟩ := cb_e hf
        refine dSx (As := [.int x15, .int x1]) (rest := []) hC (c_d1_isIn hG hz19) q_d1_isIn a_463 (Nat.le_of_ble_eq_true rfl) hX hKX rfl hl.1 (Nat.le_of_ble_eq_true rfl) dX8_listRows_22 hS (fun H locs hX hS => ?_)
        refine lv_if_eq (tgt := 35) hx hb dX8_listRows_25 (by decide) (fun c21 => ?_) (fun c21 => ?_)
        · have hf := it_t c21 hf
          refine lv_iconst (v := 0) hx hb dX8_listRows_35 (by decide) ?_
          refine lv_istore_n (lv' := [(3, .int 0), (0, .ref (ad (5, 4))), (1, .int x1), (2, .int x15)]) hx hb dX8_listRows_36 rfl hl (by decide) rfl (fun ls hl => ?_)
          refine lv_iconst (v := 0) hx hb dX8_listRows_37 (by decide) ?_
          refine lv_istore (lv' := [(4, .int 0), (3, .int 0), (0, .ref (ad (5, 4))), (1, .int x1), (2, .int x15)]) hx hb dX8_listRows_38 hl (by decide) rfl (fun ls hl => ?_)
          obtain ⟨g24, g240, g24s, hf⟩ := lp2_e hf
          have Lg24 : ∀ (n : Nat) (x22 : Int32) (S23 : St) (H : Heap) (locs : List Loc) (ls : Array Slot), DX D cA A ad L G S23 H → va_S A s.heap H locs → lv_has ls 5 [(0, .ref (ad (5, 4))), (1, .int x1), (2, .int x15), (3, .int 0), (4, .int x22)] → g24 n x22 S23 = some S' → W p l e (RM 1 0 0) s m args below meth c H locs 0 0 (MQ below (CtQ A none (DX D cA A ad L G S')) args s 0 0 A) (F0 m 40 ls []) := by
            intro n
            induction n with
            | zero => intro x22 S23 H locs ls hX hS hl hf; rw [g240] at hf; cases hf
            | succ n ihg24 =>
              intro x22 S23 H locs ls hX hS hl hf
              rw [g24s] at hf
              refine lv_iload hx hb dX8_listRows_40 (lv_at hl 4 rfl) ?_
              refine lv_iconst (v := 2) hx hb dX8_listRows_42 (by decide) ?_
              refine lv_iload_n hx hb dX8_listRows_43 rfl (lv_at hl 3 rfl) ?_
              refine lv_imul hx hb dX8_listRows_44 ?_
              refine lv_icmp_ge (tgt := 98) hx hb dX8_listRows_45 (by decide) (fun c25 => ?_) (fun c25 => ?_)
              · have hf := it_t c25 hf
                refine lv_iinc (v := (x15 + 1)) (lv' := [(2, .int (x15 + 1)), (0, .ref (ad (5, 4))), (1, .int x1), (3, .int 0), (4, .int x22)]) hx hb dX8_listRows_98 hl (k := 2) rfl rfl (by decide) rfl (fun ls hl => ?_)
                refine lv_goto (tgt := 14) hx hb dX8_listRows_101 (by decide) ?_
                exact ihg17 _ _ _ _ _ hX hS (lv_sub hl [1, 2, 0] rfl) hf
              · have hf := it_f c25 hf
                refine lv_aload_n hx hb dX8_listRows_48 rfl (lv_at hl 0 rfl) ?_
                refine dget (cd := (5, 4)) (ci := 7) (C := RX8) (T := TX8) (N := 6) (v := .int (S23.1 49)) hx hb hC hKX.1 hX (hG.F 4 (by decide)) rfl rfl inX8 2 (by decide) a_89 (Or.inl rfl) rfl dX8_listRows_49 ?_
                refine lv_aload_n hx hb dX8_listRows_52 rfl (lv_at hl 0 rfl) ?_
                refine dget (cd := (5, 4)) (ci := 7) (C := RX8) (T := TX8) (N := 6) (v := .ref (ad (5, 5))) hx hb hC hKX.1 hX (hG.F 4 (by decide)) rfl rfl inX8 0 (by decide) a_87 (Or.inl rfl) rfl dX8_listRows_53 ?_
                refine dlen (cd := (5, 5)) hx hb hKX.1 hX (hG.F 5 (by decide)) rfl 0 rfl (v := 9) rfl dX8_listRows_56 ?_
                refine lv_icmp_ge (tgt := 98) hx hb dX8_listRows_57 (by decide) (fun c26 => ?_) (fun c26 => ?_)
                · have hf := it_t c26 hf
                  refine lv_iinc (v := (x15 + 1)) (lv' := [(2, .int (x15 + 1)), (0, .ref (ad (5, 4))), (1, .int x1), (3, .int 0), (4, .int x22)]) hx hb dX8_listRows_98 hl (k := 2) rfl rfl (by decide) rfl (fun ls hl => ?_)
                  refine lv_goto (tgt := 14) hx hb dX8_listRows_101 (by decide) ?_
                  exact ihg17 _ _ _ _ _ hX hS (lv_sub hl [1, 2, 0] rfl) hf
                · have hf := it_f c26 hf
                  refine lv_aload_n hx hb dX8_listRows_60 rfl (lv_at hl 0 rfl) ?_
                  refine dget (cd := (5, 4)) (ci := 7) (C := RX8) (T := TX8) (N := 6) (v := .ref (ad (5, 5))) hx hb hC hKX.1 hX (hG.F 4 (by decide)) rfl rfl inX8 0 (by decide) a_87 (Or.inl rfl) rfl dX8_listRows_61 ?_
                  refine lv_aload_n hx hb dX8_listRows_64 rfl (lv_at hl 0 rfl) ?_
                  refine dget (cd := (5, 4)) (ci := 7) (C := RX8) (T := TX8) (N := 6) (v := .int (S23.1 49)) hx hb hC hKX.1 hX (hG.F 4 (by decide)) rfl rfl inX8 2 (by decide) a_89 (Or.inl rfl) rfl dX8_listRows_65 ?_
                  refine lv_aload_n hx hb dX8_listRows_68 rfl (lv_at hl 0 rfl) ?_
                  refine dget (cd := (5, 4)) (ci := 7) (C := RX8) (T := TX8) (N := 6) (v := .ref (ad (5, 5))) hx hb hC hKX.1 hX (hG.F 4 (by decide)) rfl rfl inX8 0 (by decide) a_87 (Or.inl rfl) rfl dX8_listRows_69 ?_
                  refine lv_iload hx hb dX8_listRows_72 (lv_at hl 4 rfl) ?_
                  obtain ⟨h28, j27, ej27, hf⟩ := rd_e hf
                  refine dald (cd := (5, 5)) hx hb hKX.1 hX (hG.F 5 (by decide)) rfl h28 ej27 dX8_listRows_74 ?_
                  refine lv_iload_n hx hb dX8_listRows_75 rfl (lv_at hl 2 rfl) ?_
                  refine lv_iconst (v := 1) hx hb dX8_listRows_76 (by decide) ?_
                  obtain ⟨z29, hz29, hf⟩ := cb_e hf
                  refine dSx (As := [.int x15, .int 1]) (rest := [.int (S23.2 42 j27), .int (S23.1 49), .ref (ad (5, 5))]) hC (c_d1_told hG hz29) q_d1_told a_464 (Nat.le_of_ble_eq_true rfl) hX hKX rfl hl.1 (Nat.le_of_ble_eq_true rfl) dX8_listRows_77 hS (fun H locs hX hS => ?_)
                  refine lv_iadd hx hb dX8_listRows_80 ?_
                  obtain ⟨h32, j31, ej31, hf⟩ := rd_e hf
                  refine dast (cd := (5, 5)) hx hb hKX.1 hX hS (hG.F 5 (by decide)) rfl (dsetB42 hG) h32 ej31 dX8_listRows_81 (fun H locs hX hS => ?_)
                  obtain ⟨S33, eS33, hf⟩ := lt_e hf
                  rw [← eS33] at hX
                  refine lv_aload_n hx hb dX8_listRows_82 rfl (lv_at hl 0 rfl) ?_
                  refine lv_dup hx hb dX8_listRows_83 rfl ?_
                  refine dget (cd := (5, 4)) (ci := 7) (C := RX8) (T := TX8) (N := 6) (v := .int (S33.1 49)) hx hb hC hKX.1 hX (hG.F 4 (by decide)) rfl rfl inX8 2 (by decide) a_89 (Or.inl rfl) rfl dX8_listRows_84 ?_
                  refine lv_iconst (v := 1) hx hb dX8_listRows_87 (by decide) ?_
                  refine lv_iadd hx hb dX8_listRows_88 ?_
                  refine dput (cd := (5, 4)) (ci := 7) (C := RX8) (T := TX8) (N := 6) (ty := .int) hx hb hC hKX.1 hX hS (hG.F 4 (by decide)) rfl rfl inX8 tyX8 tyX8_ok nmX8 2 (by decide) a_89 rfl rfl (by decide +kernel) rfl rfl (Nat.le_of_ble_eq_true rfl) (dset49 hG) dX8_listRows_89 (fun H locs hX hS => ?_)
                  obtain ⟨S34, eS34, hf⟩ := lt_e hf
                  rw [← eS34] at hX
                  refine lv_iinc (v := (x22 + 1)) (lv' := [(4, .int (x22 + 1)), (0, .ref (ad (5, 4))), (1, .int x1), (2, .int x15), (3, .int 0)]) hx hb dX8_listRows_92 hl (k := 4) rfl rfl (by decide) rfl (fun ls hl => ?_)
                  refine lv_goto (tgt := 40) hx hb dX8_listRows_95 (by decide) ?_
                  exact ihg24 _ _ _ _ _ hX hS (lv_sub hl [1, 2, 3, 4, 0] rfl) hf
          exact Lg24 FU _ _ _ _ _ hX hS (lv_sub hl [2, 3, 4, 1, 0] rfl) hf
        · have hf := it_f c21 hf
          refine lv_aload_n hx hb dX8_listRows_28 rfl (lv_at hl 0 rfl) ?_
          refine dget (cd := (5, 4)) (ci := 7) (C := RX8) (T := TX8) (N := 6) (v := .int (S16.1 49)) hx hb hC hKX.1 hX (hG.F 4 (by decide)) rfl rfl inX8 2 (by decide) a_89 (Or.inl rfl) rfl dX8_listRows_29 ?_
          refine lv_goto (tgt := 36) hx hb dX8_listRows_32 (by decide) ?_
          refine lv_istore_n (lv' := [(3, .int (S16.1 49)), (0, .ref (ad (5, 4))), (1, .int x1), (2, .int x15)]) hx hb dX8_listRows_36 rfl hl (by decide) rfl (fun ls hl => ?_)
          refine lv_iconst (v := 0) hx hb dX8_listRows_37 (by decide) ?_
          refine lv_istore (lv' := [(4, .int 0), (3, .int (S16.1 49)), (0, .ref (ad (5, 4))), (1, .int x1), (2, .int x15)]) hx hb dX8_listRows_38 hl (by decide) rfl (fun ls hl => ?_)
          obtain ⟨g37, g370, g37s, hf⟩ := lp2_e hf
          have Lg37 : ∀ (n : Nat) (x35 : Int32) (S36 : St) (H : Heap) (locs : List Loc) (ls : Array Slot), DX D cA A ad L G S36 H → va_S A s.heap H locs → lv_has ls 5 [(0, .ref (ad (5, 4))), (1, .int x1), (2, .int x15), (3, .int (S16.1 49)), (4, .int x35)] → g37 n x35 S36 = some S' → W p l e (RM 1 0 0) s m args below meth c H locs 0 0 (MQ below (CtQ A none (DX D cA A ad L G S')) args s 0 0 A) (F0 m 40 ls []) := by
            intro n
            induction n with
            | zero => intro x35 S36 H locs ls hX hS hl hf; rw [g370] at hf; cases hf
            | succ n ihg37 =>
              intro x35 S36 H locs ls hX hS hl hf
              rw [g37s] at hf
              refine lv_iload hx hb dX8_listRows_40 (lv_at hl 4 rfl) ?_
              refine lv_iconst (v := 2) hx hb dX8_listRows_42 (by decide) ?_
              refine lv_iload_n hx hb dX8_listRows_43 rfl (lv_at hl 3 rfl) ?_
              refine lv_imul hx hb dX8_listRows_44 ?_
              refine lv_icmp_ge (tgt := 98) hx hb dX8_listRows_45 (by decide) (fun c38 => ?_) (fun c38 => ?_)
              · have hf := it_t c38 hf
                refine lv_iinc (v := (x15 + 1)) (lv' := [(2, .int (x15 + 1)), (0, .ref (ad (5, 4))), (1, .int x1), (3, .int (S16.1 49)), (4, .int x35)]) hx hb dX8_listRows_98 hl (k := 2) rfl rfl (by decide) rfl (fun ls hl => ?_)
                refine lv_goto (tgt := 14) hx hb dX8_listRows_101 (by decide) ?_
                exact ihg17 _ _ _ _ _ hX hS (lv_sub hl [1, 2, 0] rfl) hf
              · have hf := it_f c38 hf
                refine lv_aload_n hx hb dX8_listRows_48 rfl (lv_at hl 0 rfl) ?_
                refine dget (cd := (5, 4)) (ci := 7) (C := RX8) (T := TX8) (N := 6) (v := .int (S36.1 49)) hx hb hC hKX.1 hX (hG.F 4 (by decide)) rfl rfl inX8 2 (by decide) a_89 (Or.inl rfl) rfl dX8_listRows_49 ?_
                refine lv_aload_n hx hb dX8_listRows_52 rfl (lv_at hl 0 rfl) ?_
                refine dget (cd := (5, 4)) (ci := 7) (C := RX8) (T := TX8) (N := 6) (v := .ref (ad (5, 5))) hx hb hC hKX.1 hX (hG.F 4 (by decide)) rfl rfl inX8 0 (by decide) a_87 (Or.inl rfl) rfl dX8_listRows_53 ?_
                refine dlen (cd := (5, 5)) hx hb hKX.1 hX (hG.F 5 (by decide)) rfl 0 rfl (v := 9) rfl dX8_listRows_56 ?_
                refine lv_icmp_ge (tgt := 98) hx hb dX8_listRows_57 (by decide) (fun c39 => ?_) (fun c39 => ?_)
                · have hf := it_t c39 hf
                  refine lv_iinc (v := (x15 + 1)) (lv' := [(2, .int (x15 + 1)), (0, .ref (ad (5, 4))), (1, .int x1), (3, .int (S16.1 49)), (4, .int x35)]) hx hb dX8_listRows_98 hl (k := 2) rfl rfl (by decide) rfl (fun ls hl => ?_)
                  refine lv_goto (tgt := 14) hx hb dX8_listRows_101 (by decide) ?_
                  exact ihg17 _ _ _ _ _ hX hS (lv_sub hl [1, 2, 0] rfl) hf
                · have hf := it_f c39 hf
                  refine lv_aload_n hx hb dX8_listRows_60 rfl (lv_at hl 0 rfl) ?_
                  refine dget (cd := (5, 4)) (ci := 7) (C := RX8) (T := TX8) (N := 6) (v := .ref (ad (5, 5))) hx hb hC hKX.1 hX (hG.F 4 (by decide)) rfl rfl inX8 0 (by decide) a_87 (Or.inl rfl) rfl dX8_listRows_61 ?_
                  refine lv_aload_n hx hb dX8_listRows_64 rfl (lv_at hl 0 rfl) ?_
                  refine dget (cd := (5, 4)) (ci := 7) (C := RX8) (T := TX8) (N := 6) (v := .int (S36.1 49)) hx hb hC hKX.1 hX (hG.F 4 (by decide)) rfl rfl inX8 2 (by decide) a_89 (Or.inl rfl) rfl dX8_listRows_65 ?_
                  refine lv_aload_n hx hb dX8_listRows_68 rfl (lv_at hl 0 rfl) ?_
                  refine dget (cd := (5, 4)) (ci := 7) (C := RX8) (T := TX8) (N := 6) (v := .ref (ad (5, 5))) hx hb hC hKX.1 hX (hG.F 4 (by decide)) rfl rfl inX8 0 (by decide) a_87 (Or.inl rfl) rfl dX8_listRows_69 ?_
                  refine lv_iload hx hb dX8_listRows_72 (lv_at hl 4 rfl) ?_
                  obtain ⟨h41, j40, ej40, hf⟩ := rd_e hf
                  refine dald (cd := (5, 5)) hx hb hKX.1 hX (hG.F 5 (by decide)) rfl h41 ej40 dX8_listRows_74 ?_
                  refine lv_iload_n hx hb dX8_listRows_75 rfl (lv_at hl 2 rfl) ?_
                  refine lv_iconst (v := 1) hx hb dX8_listRows_76 (by decide) ?_
                  obtain ⟨z42, hz42, hf⟩ := cb_e hf
                  refine dSx (As := [.int x15, .int 1]) (rest := [.int (S36.2 42 j40), .int (S36.1 49), .ref (ad (5, 5))]) hC (c_d1_told hG hz42) q_d1_told a_464 (Nat.le_of_ble_eq_true rfl) hX hKX rfl hl.1 (Nat.le_of_ble_eq_true rfl) dX8_listRows_77 hS (fun H locs hX hS => ?_)
                  refine lv_iadd hx hb dX8_listRows_80 ?_
                  obtain ⟨h45, j44, ej44, hf⟩ := rd_e hf
                  refine dast (cd := (5, 5)) hx hb hKX.1 hX hS (hG.F 5 (by decide)) rfl (dsetB42 hG) h45 ej44 dX8_listRows_81 (fun H locs hX hS => ?_)
                  obtain ⟨S46, eS46, hf⟩ := lt_e hf
                  rw [← eS46] at hX
                  refine lv_aload_n hx hb dX8_listRows_82 rfl (lv_at hl 0 rfl) ?_
                  refine lv_dup hx hb dX8_listRows_83 rfl ?_
                  refine dget (cd := (5, 4)) (ci := 7) (C := RX8) (T := TX8) (N := 6) (v := .int (S46.1 49)) hx hb hC hKX.1 hX (hG.F 4 (by decide)) rfl rfl inX8 2 (by decide) a_89 (Or.inl rfl) rfl dX8_listRows_84 ?_
                  refine lv_iconst (v := 1) hx hb dX8_listRows_87 (by decide) ?_
                  refine lv_iadd hx hb dX8_listRows_88 ?_
                  refine dput (cd := (5, 4)) (ci := 7) (C := RX8) (T := TX8) (N := 6) (ty := .int) hx hb hC hKX.1 hX hS (hG.F 4 (by decide)) rfl rfl inX8 tyX8 tyX8_ok nmX8 2 (by decide) a_89 rfl rfl (by decide +kernel) rfl rfl (Nat.le_of_ble_eq_true rfl) (dset49 hG) dX8_listRows_89 (fun H locs hX hS => ?_)
                  obtain ⟨S47, eS47, hf⟩ := lt_e hf
                  rw [← eS47] at hX
                  refine lv_iinc (v := (x35 + 1)) (lv' := [(4, .int (x35 + 1)), (0, .ref (ad (5, 4))), (1, .int x1), (2, .int x15), (3, .int (S16.1 49))]) hx hb dX8_listRows_92 hl (k := 4) rfl rfl (by decide) rfl (fun ls hl => ?_)
                  refine lv_goto (tgt := 40) hx hb dX8_listRows_95 (by decide) ?_
                  exact ihg37 _ _ _ _ _ hX hS (lv_sub hl [1, 2, 3, 4, 0] rfl) hf
          exact Lg37 FU _ _ _ _ _ hX hS (lv_sub hl [2, 3, 4, 1, 0] rfl) hf
  exact Lg17 FU _ _ _ _ _ hX hS (lv_sub hl [1, 2, 0] rfl) hf

set_option maxRecDepth 100000 in
set_option maxHeartbeats 4000000 in
theorem c_d9_selects {l : Launch} {D : va_G} {cA : Nat → ClassId} {A : Nat → Prop} {ad : Cd → Nat} {L : List Cd} {G : Gt} {nt nv : Nat} (hG : WF L G nt nv) {v : Nat} (hv : v < nv) {x1 : Int32} {S : St} {r : Int32} (hf : d9_selects v x1 = some r) : Ct l D cA A yX9_selects cX9_selects 2 (some .boolean) 0 0 0 [.ref (ad (4, v)), .int x1] (DX D cA A ad L G S) (some (.int r)) (DX D cA A ad L G S) := by
  refine Ct_of (by decide +kernel) (Nat.le_of_ble_eq_true rfl) ?_
  intro p e s m args below meth c ls hC hr hlk hnm hX hKX hl
  have hx := hC.1
  have hb := hC.2.1
  have hS : va_S A s.heap s.heap [] := va_S.rf
  have hl : lv_has ls 2 [(0, .ref (ad (4, v))), (1, .int x1)] := hl
  unfold d9_selects at hf
  refine lv_iconst (v := 1) hx hb dX9_selects_0 (by decide) ?_
  cases hf
  exact Ct_rz hx hb hr hlk nz1 hX hS dX9_selects_1

theorem q_u_X2_X9_selects : VWu RX2 "Lensbench$View" yX9_selects yX9_selects cX9_selects 2 (some .boolean) 1 := ⟨a_480, a_30, a_474, a_476, a_475, by decide +kernel, Nat.le_of_ble_eq_true rfl⟩

theorem q_u_X3_X9_selects : VWu RX3 "Lensbench$View" yX9_selects yX9_selects cX9_selects 2 (some .boolean) 1 := ⟨a_480, a_30, a_474, a_477, a_475, by decide +kernel, Nat.le_of_ble_eq_true rfl⟩

theorem q_u_X5_X9_selects : VWu RX5 "Lensbench$View" yX9_selects yX5_selects cX5_selects 2 (some .boolean) 1 := ⟨a_294, a_31, a_292, a_478, a_475, by decide +kernel, Nat.le_of_ble_eq_true rfl⟩

theorem q_u_X7_X9_selects : VWu RX7 "Lensbench$View" yX9_selects yX9_selects cX9_selects 2 (some .boolean) 1 := ⟨a_480, a_30, a_474, a_479, a_475, by decide +kernel, Nat.le_of_ble_eq_true rfl⟩

theorem q_d8_isSeen : VWs yX8_isSeen cX8_isSeen 3 (some .boolean) 2 := ⟨a_472, a_19, a_471, by decide +kernel, Nat.le_of_ble_eq_true rfl⟩
set_option maxRecDepth 100000 in
set_option maxHeartbeats 4000000 in
theorem c_d8_isSeen {l : Launch} {D : va_G} {cA : Nat → ClassId} {A : Nat → Prop} {ad : Cd → Nat} {L : List Cd} {G : Gt} {nt nv : Nat} (hG : WF L G nt nv) {o1 : Option Nat} {x2 : Int32} {S : St} {r : Int32} (hf : d8_isSeen G nt nv o1 x2 S = some r) : Ct l D cA A yX8_isSeen cX8_isSeen 3 (some .boolean) 2 0 0 [rO ad 4 o1, .int x2] (DX D cA A ad L G S) (some (.int r)) (DX D cA A ad L G S) := by
  refine Ct_of (by decide +kernel) (by cases o1 <;> exact Nat.le_of_ble_eq_true rfl) ?_
  intro p e s m args below meth c ls hC hr hlk hnm hX hKX hl
  have hx := hC.1
  have hb := hC.2.1
  have hS : va_S A s.heap s.heap [] := va_S.rf
  have hl : lv_has ls 3 [(0, rO ad 4 o1), (1, .int x2)] := by cases o1 <;> exact hl
  unfold d8_isSeen at hf
  refine lv_aloadO_n hx hb dX8_isSeen_0 rfl (lv_at hl 0 rfl) ?_
  refine lv_astoreO_n (lv' := [(2, rO ad 4 o1), (0, rO ad 4 o1), (1, .int x2)]) hx hb dX8_isSeen_1 rfl hl (by decide) rfl (fun ls hl => ?_)
  obtain ⟨g12, g120, g12s, hf⟩ := lp1_e hf
  have Lg12 : ∀ (n : Nat) (o11 : Option Nat) (H : Heap) (locs : List Loc) (ls : Array Slot), DX D cA A ad L G S H → va_S A s.heap H locs → lv_has ls 3 [(1, .int x2), (2, rO ad 4 o11)] → g12 n o11 = some r → W p l e (RM 2 0 0) s m args below meth c H locs 0 0 (MQ below (CtQ A (some (.int r)) (DX D cA A ad L G S)) args s 0 0 A) (F0 m 2 ls []) := by
    intro n
    induction n with
    | zero => intro o11 H locs ls hX hS hl hf; rw [g120] at hf; cases hf
    | succ n ihg12 =>
      intro o11 H locs ls hX hS hl hf
      rw [g12s] at hf
      refine lv_aloadO_n hx hb dX8_isSeen_2 rfl (lv_at hl 1 rfl) ?_
      rcases oc_e hf with ⟨ho, hf⟩ | ⟨u13, ho, hf⟩
      · subst ho
        have hl : lv_has ls 3 [(1, .int x2), (2, .null)] := hl
        refine lv_ifnullN (tgt := 24) hx hb dX8_isSeen_3 (by decide) ?_
        refine lv_iconst (v := 1) hx hb dX8_isSeen_24 (by decide) ?_
        cases hf
        exact Ct_rz hx hb hr hlk nz1 hX hS dX8_isSeen_25
      · subst ho
        obtain ⟨h14, hf⟩ := gd_e hf
        have hl : lv_has ls 3 [(1, .int x2), (2, .ref (ad (4, u13)))] := hl
        refine lv_ifnull (x := ad (4, u13)) hx hb dX8_isSeen_3 ?_
        refine lv_aload_n hx hb dX8_isSeen_6 rfl (lv_at hl 1 rfl) ?_
        refine lv_iload_n hx hb dX8_isSeen_7 rfl (lv_at hl 0 rfl) ?_
        obtain ⟨z15, hz15, hf⟩ := cb_e hf
        have KK : ∀ (H : Heap) (locs : List Loc), DX D cA A ad L G S H → va_S A s.heap H locs → W p l e (RM 2 0 0) s m args below meth c H locs 0 0 (MQ below (CtQ A (some (.int r)) (DX D cA A ad L G S)) args s 0 0 A) (F0 m 11 ls [.int z15]) := by
          intro H locs hX hS
          refine lv_if_ne (tgt := 16) hx hb dX8_isSeen_11 (by decide) (fun c17 => ?_) (fun c17 => ?_)
          · have hf := it_f c17 hf
            refine lv_aload_n hx hb dX8_isSeen_16 rfl (lv_at hl 1 rfl) ?_
            obtain ⟨o18, eo18, hf⟩ := lt_e hf
            refine dgetV (v := u13) (k := 4) (x := rO ad 4 o18) hx hb hC hKX.1 hX hG h14 (by decide) a_721 (Or.inl rfl) (by rw [eo18]; rfl) dX8_isSeen_17 ?_
            refine lv_astoreO_n (lv' := [(2, rO ad 4 o18), (1, .int x2)]) hx hb dX8_isSeen_20 rfl hl (by decide) rfl (fun ls hl => ?_)
            refine lv_goto (tgt := 2) hx hb dX8_isSeen_21 (by decide) ?_
            exact ihg12 _ _ _ _ hX hS (lv_sub hl [1, 0] rfl) hf
          · have hf := it_t c17 hf
            refine lv_iconst (v := 0) hx hb dX8_isSeen_14 (by decide) ?_
            cases hf
            exact Ct_rz hx hb hr hlk nz0 hX hS dX8_isSeen_15
        rcases hG.K h14 with hq16 | hq16 | hq16 | hq16
        · have hz15 := vd_1 hq16 hz15
          refine dUx (cd := (4, u13)) (As := [.int x2]) (rest := []) hC (c_d9_selects hG h14 hz15) q_u_X2_X9_selects (va_Decl.of (tA hC.2.2.2.2 a_474) (tA hC.2.2.2.2 a_480)) a_473 (Nat.le_of_ble_eq_true rfl) hX hKX (hG.V h14) (dce_V1 hq16) rfl rfl hl.1 (Nat.le_of_ble_eq_true rfl) dX8_isSeen_8 hS (fun H locs hX hS => ?_)
          exact KK H locs hX hS
        · have hz15 := vd_2 hq16 hz15
          refine dUx (cd := (4, u13)) (As := [.int x2]) (rest := []) hC (c_d9_selects hG h14 hz15) q_u_X3_X9_selects (va_Decl.of (tA hC.2.2.2.2 a_474) (tA hC.2.2.2.2 a_480)) a_473 (Nat.le_of_ble_eq_true rfl) hX hKX (hG.V h14) (dce_V2 hq16) rfl rfl hl.1 (Nat.le_of_ble_eq_true rfl) dX8_isSeen_8 hS (fun H locs hX hS => ?_)
          exact KK H locs hX hS
        · have hz15 := vd_4 hq16 hz15
          refine dUx (cd := (4, u13)) (As := [.int x2]) (rest := []) hC (c_d5_selects hG h14 hq16 hz15) q_u_X5_X9_selects (va_Decl.of (tA hC.2.2.2.2 a_474) (tA hC.2.2.2.2 a_480)) a_473 (Nat.le_of_ble_eq_true rfl) hX hKX (hG.V h14) (dce_V4 hq16) rfl rfl hl.1 (Nat.le_of_ble_eq_true rfl) dX8_isSeen_8 hS (fun H locs hX hS => ?_)
          exact KK H locs hX hS
        · have hz15 := vd_6 hq16 hz15
          refine dUx (cd := (4, u13)) (As := [.int x2]) (rest := []) hC (c_d9_selects hG h14 hz15) q_u_X7_X9_selects (va_Decl.of (tA hC.2.2.2.2 a_474) (tA hC.2.2.2.2 a_480)) a_473 (Nat.le_of_ble_eq_true rfl) hX hKX (hG.V h14) (dce_V6 hq16) rfl rfl hl.1 (Nat.le_of_ble_eq_true rfl) dX8_isSeen_8 hS (fun H locs hX hS => ?_)
          exact KK H locs hX hS
  exact Lg12 FU _ _ _ _ hX hS (lv_sub hl [2, 0] rfl) hf

theorem q_d8_rivalsOf : VWv RX8 yX8_rivalsOf cX8_rivalsOf 5 (some .int) 2 := ⟨a_485, a_19, a_484, a_8, by decide +kernel, Nat.le_of_ble_eq_true rfl⟩
set_option maxRecDepth 100000 in
set_option maxHeartbeats 4000000 in
theorem c_d8_rivalsOf {l : Launch} {D : va_G} {cA : Nat → ClassId} {A : Nat → Prop} {ad : Cd → Nat} {L : List Cd} {G : Gt} {nt nv : Nat} (hG : WF L G nt nv) {x1 : Int32} {x2 : Int32} {S : St} {r : Int32} (hf : d8_rivalsOf x1 x2 S = some r) : Ct l D cA A yX8_rivalsOf cX8_rivalsOf 5 (some .int) 1 0 0 [.ref (ad (5, 4)), .int x1, .int x2] (DX D cA A ad L G S) (some (.int r)) (DX D cA A ad L G S) := by
  refine Ct_of (by decide +kernel) (Nat.le_of_ble_eq_true rfl) ?_
  intro p e s m args below meth c ls hC hr hlk hnm hX hKX hl
  have hx := hC.1
  have hb := hC.2.1
  have hS : va_S A s.heap s.heap [] := va_S.rf
  have hl : lv_has ls 5 [(0, .ref (ad (5, 4))), (1, .int x1), (2, .int x2)] := hl
  unfold d8_rivalsOf at hf
  refine lv_iconst (v := 0) hx hb dX8_rivalsOf_0 (by decide) ?_
  refine lv_istore_n (lv' := [(3, .int 0), (0, .ref (ad (5, 4))), (1, .int x1), (2, .int x2)]) hx hb dX8_rivalsOf_1 rfl hl (by decide) rfl (fun ls hl => ?_)
  refine lv_iconst (v := 0) hx hb dX8_rivalsOf_2 (by decide) ?_
  refine lv_istore (lv' := [(4, .int 0), (3, .int 0), (0, .ref (ad (5, 4))), (1, .int x1), (2, .int x2)]) hx hb dX8_rivalsOf_3 hl (by decide) rfl (fun ls hl => ?_)
  obtain ⟨g13, g130, g13s, hf⟩ := lp2_e hf
  have Lg13 : ∀ (n : Nat) (x11 : Int32) (x12 : Int32) (H : Heap) (locs : List Loc) (ls : Array Slot), DX D cA A ad L G S H → va_S A s.heap H locs → lv_has ls 5 [(0, .ref (ad (5, 4))), (1, .int x1), (2, .int x2), (3, .int x11), (4, .int x12)] → g13 n x11 x12 = some r → W p l e (RM 1 0 0) s m args below meth c H locs 0 0 (MQ below (CtQ A (some (.int r)) (DX D cA A ad L G S)) args s 0 0 A) (F0 m 5 ls []) := by
    intro n
    induction n with
    | zero => intro x11 x12 H locs ls hX hS hl hf; rw [g130] at hf; cases hf
    | succ n ihg13 =>
      intro x11 x12 H locs ls hX hS hl hf
      rw [g13s] at hf
      refine lv_iload hx hb dX8_rivalsOf_5 (lv_at hl 4 rfl) ?_
      refine lv_aload_n hx hb dX8_rivalsOf_7 rfl (lv_at hl 0 rfl) ?_
      refine dget (cd := (5, 4)) (ci := 7) (C := RX8) (T := TX8) (N := 6) (v := .int (S.1 49)) hx hb hC hKX.1 hX (hG.F 4 (by decide)) rfl rfl inX8 2 (by decide) a_89 (Or.inl rfl) rfl dX8_rivalsOf_8 ?_
      refine lv_icmp_ge (tgt := 72) hx hb dX8_rivalsOf_11 (by decide) (fun c14 => ?_) (fun c14 => ?_)
      · have hf := it_t c14 hf
        refine lv_iload_n hx hb dX8_rivalsOf_72 rfl (lv_at hl 3 rfl) ?_
        cases hf
        exact Ct_ri hx hb hr hlk hX hS dX8_rivalsOf_73
      · have hf := it_f c14 hf
        refine lv_iload hx hb dX8_rivalsOf_14 (lv_at hl 4 rfl) ?_
        refine lv_aload_n hx hb dX8_rivalsOf_16 rfl (lv_at hl 0 rfl) ?_
        refine dget (cd := (5, 4)) (ci := 7) (C := RX8) (T := TX8) (N := 6) (v := .ref (ad (5, 5))) hx hb hC hKX.1 hX (hG.F 4 (by decide)) rfl rfl inX8 0 (by decide) a_87 (Or.inl rfl) rfl dX8_rivalsOf_17 ?_
        refine dlen (cd := (5, 5)) hx hb hKX.1 hX (hG.F 5 (by decide)) rfl 0 rfl (v := 9) rfl dX8_rivalsOf_20 ?_
        refine lv_icmp_ge (tgt := 72) hx hb dX8_rivalsOf_21 (by decide) (fun c15 => ?_) (fun c15 => ?_)
        · have hf := it_t c15 hf
          refine lv_iload_n hx hb dX8_rivalsOf_72 rfl (lv_at hl 3 rfl) ?_
          cases hf
          exact Ct_ri hx hb hr hlk hX hS dX8_rivalsOf_73
        · have hf := it_f c15 hf
          refine lv_iload_n hx hb dX8_rivalsOf_24 rfl (lv_at hl 1 rfl) ?_
          refine lv_aload_n hx hb dX8_rivalsOf_25 rfl (lv_at hl 0 rfl) ?_
          refine dget (cd := (5, 4)) (ci := 7) (C := RX8) (T := TX8) (N := 6) (v := .ref (ad (5, 5))) hx hb hC hKX.1 hX (hG.F 4 (by decide)) rfl rfl inX8 0 (by decide) a_87 (Or.inl rfl) rfl dX8_rivalsOf_26 ?_
          refine dlen (cd := (5, 5)) hx hb hKX.1 hX (hG.F 5 (by decide)) rfl 0 rfl (v := 9) rfl dX8_rivalsOf_29 ?_
          refine lv_icmp_ge (tgt := 72) hx hb dX8_rivalsOf_30 (by decide) (fun c16 => ?_) (fun c16 => ?_)
          · have hf := it_t c16 hf
            refine lv_iload_n hx hb dX8_rivalsOf_72 rfl (lv_at hl 3 rfl) ?_
            cases hf
            exact Ct_ri hx hb hr hlk hX hS dX8_rivalsOf_73
          · have hf := it_f c16 hf
            refine lv_iload hx hb dX8_rivalsOf_33 (lv_at hl 4 rfl) ?_
            refine lv_iload_n hx hb dX8_rivalsOf_35 rfl (lv_at hl 1 rfl) ?_
            refine lv_icmp_eq (tgt := 66) hx hb dX8_rivalsOf_36 (by decide) (fun c17 => ?_) (fun c17 => ?_)
            · have hf := it_t c17 hf
              refine lv_iinc (v := (x12 + 1)) (lv' := [(4, .int (x12 + 1)), (0, .ref (ad (5, 4))), (1, .int x1), (2, .int x2), (3, .int x11)]) hx hb dX8_rivalsOf_66 hl (k := 4) rfl rfl (by decide) rfl (fun ls hl => ?_)
              refine lv_goto (tgt := 5) hx hb dX8_rivalsOf_69 (by decide) ?_
              exact ihg13 _ _ _ _ _ hX hS (lv_sub hl [1, 2, 3, 4, 0] rfl) hf
            · have hf := it_f c17 hf
              refine lv_aload_n hx hb dX8_rivalsOf_39 rfl (lv_at hl 0 rfl) ?_
              refine dget (cd := (5, 4)) (ci := 7) (C := RX8) (T := TX8) (N := 6) (v := .ref (ad (5, 5))) hx hb hC hKX.1 hX (hG.F 4 (by decide)) rfl rfl inX8 0 (by decide) a_87 (Or.inl rfl) rfl dX8_rivalsOf_40 ?_
              refine lv_iload hx hb dX8_rivalsOf_43 (lv_at hl 4 rfl) ?_
              obtain ⟨h19, j18, ej18, hf⟩ := rd_e hf
              refine dald (cd := (5, 5)) hx hb hKX.1 hX (hG.F 5 (by decide)) rfl h19 ej18 dX8_rivalsOf_45 ?_
              refine lv_aload_n hx hb dX8_rivalsOf_46 rfl (lv_at hl 0 rfl) ?_
              refine dget (cd := (5, 4)) (ci := 7) (C := RX8) (T := TX8) (N := 6) (v := .ref (ad (5, 5))) hx hb hC hKX.1 hX (hG.F 4 (by decide)) rfl rfl inX8 0 (by decide) a_87 (Or.inl rfl) rfl dX8_rivalsOf_47 ?_
              refine lv_iload_n hx hb dX8_rivalsOf_50 rfl (lv_at hl 1 rfl) ?_
              obtain ⟨h21, j20, ej20, hf⟩ := rd_e hf
              refine dald (cd := (5, 5)) hx hb hKX.1 hX (hG.F 5 (by decide)) rfl h21 ej20 dX8_rivalsOf_51 ?_
              refine lv_iload_n hx hb dX8_rivalsOf_52 rfl (lv_at hl 2 rfl) ?_
              obtain ⟨z22, hz22, hf⟩ := cb_e hf
              refine dSx (As := [.int (S.2 42 j18), .int (S.2 42 j20), .int x2]) (rest := []) hC (c_d1_alike hG hz22) q_d1_alike a_486 (Nat.le_of_ble_eq_true rfl) hX hKX rfl hl.1 (Nat.le_of_ble_eq_true rfl) dX8_rivalsOf_53 hS (fun H locs hX hS => ?_)
              refine lv_if_eq (tgt := 66) hx hb dX8_rivalsOf_56 (by decide) (fun c24 => ?_) (fun c24 => ?_)
              · have hf := it_t c24 hf
                refine lv_iinc (v := (x12 + 1)) (lv' := [(4, .int (x12 + 1)), (0, .ref (ad (5, 4))), (1, .int x1), (2, .int x2), (3, .int x11)]) hx hb dX8_rivalsOf_66 hl (k := 4) rfl rfl (by decide) rfl (fun ls hl => ?_)
                refine lv_goto (tgt := 5) hx hb dX8_rivalsOf_69 (by decide) ?_
                exact ihg13 _ _ _ _ _ hX hS (lv_sub hl [1, 2, 3, 4, 0] rfl) hf
              · have hf := it_f c24 hf
                refine lv_iload_n hx hb dX8_rivalsOf_59 rfl (lv_at hl 3 rfl) ?_
                refine lv_iconst (v := 1) hx hb dX8_rivalsOf_60 (by decide) ?_
                refine lv_iload hx hb dX8_rivalsOf_61 (lv_at hl 4 rfl) ?_
                refine lv_ishl hx hb dX8_rivalsOf_63 ?_
                refine lv_ior hx hb dX8_rivalsOf_64 ?_
                refine lv_istore_n (lv' := [(3, .int (x11 ||| (1 <<< (x12 &&& 31)))), (0, .ref (ad (5, 4))), (1, .int x1), (2, .int x2), (4, .int x12)]) hx hb dX8_rivalsOf_65 rfl hl (by decide) rfl (fun ls hl => ?_)
                refine lv_iinc (v := (x12 + 1)) (lv' := [(4, .int (x12 + 1)), (3, .int (x11 ||| (1 <<< (x12 &&& 31)))), (0, .ref (ad (5, 4))), (1, .int x1), (2, .int x2)]) hx hb dX8_rivalsOf_66 hl (k := 4) rfl rfl (by decide) rfl (fun ls hl => ?_)
                refine lv_goto (tgt := 5) hx hb dX8_rivalsOf_69 (by decide) ?_
                exact ihg13 _ _ _ _ _ hX hS (lv_sub hl [2, 3, 4, 1, 0] rfl) hf
  exact Lg13 FU _ _ _ _ _ hX hS (lv_sub hl [2, 3, 4, 1, 0] rfl) hf

theorem q_d8_sortRows : VWv RX8 yX8_sortRows cX8_sortRows 6 none 3 := ⟨a_468, a_19, a_467, a_7, by decide +kernel, Nat.le_of_ble_eq_true rfl⟩
set_option maxRecDepth 100000 in
set_option maxHeartbeats 4000000 in
theorem c_d8_sortRows {l : Launch} {D : va_G} {cA : Nat → ClassId} {A : Nat → Prop} {ad : Cd → Nat} {L : List Cd} {G : Gt} {nt nv : Nat} (hG : WF L G nt nv) {v1 : Nat} (hv1 : v1 < nv) {t2 : Nat} (ht2 : t2 < nt) {i3 : Nat} (hi3 : okR L i3) {S : St} {S' : St} (hf : d8_sortRows G nt nv v1 t2 i3 S = some S') : Ct l D cA A yX8_sortRows cX8_sortRows 6 none 3 0 0 [.ref (ad (5, 4)), .ref (ad (4, v1)), .ref (ad (2, t2)), .ref (ad (0, i3))] (DX D cA A ad L G S) none (DX D cA A ad L G S') := by
  refine Ct_of (by decide +kernel) (Nat.le_of_ble_eq_true rfl) ?_
  intro p e s m args below meth c ls hC hr hlk hnm hX hKX hl
  have hx := hC.1
  have hb := hC.2.1
  have hS : va_S A s.heap s.heap [] := va_S.rf
  have hl : lv_has ls 6 [(0, .ref (ad (5, 4))), (1, .ref (ad (4, v1))), (2, .ref (ad (2, t2))), (3, .ref (ad (0, i3)))] := hl
  unfold d8_sortRows at hf
  refine lv_aload_n hx hb dX8_sortRows_0 rfl (lv_at hl 0 rfl) ?_
  refine lv_iconst (v := 0) hx hb dX8_sortRows_1 (by decide) ?_
  refine dput (cd := (5, 4)) (ci := 7) (C := RX8) (T := TX8) (N := 6) (ty := .int) hx hb hC hKX.1 hX hS (hG.F 4 (by decide)) rfl rfl inX8 tyX8 tyX8_ok nmX8 3 (by decide) a_90 rfl rfl (by decide +kernel) rfl rfl (Nat.le_of_ble_eq_true rfl) (dset50 hG) dX8_sortRows_2 (fun H locs hX hS => ?_)
  obtain ⟨S11, eS11, hf⟩ := lt_e hf
  rw [← eS11] at hX
  refine lv_aload_n hx hb dX8_sortRows_5 rfl (lv_at hl 0 rfl) ?_
  refine lv_iconst (v := 0) hx hb dX8_sortRows_6 (by decide) ?_
  refine dput (cd := (5, 4)) (ci := 7) (C := RX8) (T := TX8) (N := 6) (ty := .int) hx hb hC hKX.1 hX hS (hG.F 4 (by decide)) rfl rfl inX8 tyX8 tyX8_ok nmX8 4 (by decide) a_91 rfl rfl (by decide +kernel) rfl rfl (Nat.le_of_ble_eq_true rfl) (dset51 hG) dX8_sortRows_7 (fun H locs hX hS => ?_)
  obtain ⟨S12, eS12, hf⟩ := lt_e hf
  rw [← eS12] at hX
  refine lv_aload_n hx hb dX8_sortRows_10 rfl (lv_at hl 0 rfl) ?_
  refine lv_iconst (v := 0) hx hb dX8_sortRows_11 (by decide) ?_
  refine dput (cd := (5, 4)) (ci := 7) (C := RX8) (T := TX8) (N := 6) (ty := .int) hx hb hC hKX.1 hX hS (hG.F 4 (by decide)) rfl rfl inX8 tyX8 tyX8_ok nmX8 5 (by decide) a_92 rfl rfl (by decide +kernel) rfl rfl (Nat.le_of_ble_eq_true rfl) (dset52 hG) dX8_sortRows_12 (fun H locs hX hS => ?_)
  obtain ⟨S13, eS13, hf⟩ := lt_e hf
  rw [← eS13] at hX
  refine lv_iconst (v := 0) hx hb dX8_sortRows_15 (by decide) ?_
  refine lv_istore (lv' := [(4, .int 0), (0, .ref (ad (5, 4))), (1, .ref (ad (4, v1))), (2, .ref (ad (2, t2))), (3, .ref (ad (0, i3)))]) hx hb dX8_sortRows_16 hl (by decide) rfl (fun ls hl => ?_)
  obtain ⟨g16, g160, g16s, hf⟩ := lp2_e hf
  have Lg16 : ∀ (n : Nat) (x14 : Int32) (S15 : St) (H : Heap) (locs : List Loc) (ls : Array Slot), DX D cA A ad L G S15 H → va_S A s.heap H locs → lv_has ls 6 [(0, .ref (ad (5, 4))), (1, .ref (ad (4, v1))), (2, .ref (ad (2, t2))), (3, .ref (ad (0, i3))), (4, .int x14)] → g16 n x14 S15 = some S' → W p l e (RM 3 0 0) s m args below meth c H locs 0 0 (MQ below (CtQ A none (DX D cA A ad L G S')) args s 0 0 A) (F0 m 18 ls []) := by
    intro n
    induction n with
    | zero => intro x14 S15 H locs ls hX hS hl hf; rw [g160] at hf; cases hf
    | succ n ihg16 =>
      intro x14 S15 H locs ls hX hS hl hf
      rw [g16s] at hf
      refine lv_iload hx hb dX8_sortRows_18 (lv_at hl 4 rfl) ?_
      refine lv_aload_n hx hb dX8_sortRows_20 rfl (lv_at hl 0 rfl) ?_
      refine dget (cd := (5, 4)) (ci := 7) (C := RX8) (T := TX8) (N := 6) (v := .int (S15.1 49)) hx hb hC hKX.1 hX (hG.F 4 (by decide)) rfl rfl inX8 2 (by decide) a_89 (Or.inl rfl) rfl dX8_sortRows_21 ?_
      refine lv_icmp_ge (tgt := 151) hx hb dX8_sortRows_24 (by decide) (fun c17 => ?_) (fun c17 => ?_)
      · have hf := it_t c17 hf
        cases hf
        exact Ct_rv hx hb hr hlk hX hS dX8_sortRows_151
      · have hf := it_f c17 hf
        refine lv_iload hx hb dX8_sortRows_27 (lv_at hl 4 rfl) ?_
        refine lv_aload_n hx hb dX8_sortRows_29 rfl (lv_at hl 0 rfl) ?_
        refine dget (cd := (5, 4)) (ci := 7) (C := RX8) (T := TX8) (N := 6) (v := .ref (ad (5, 5))) hx hb hC hKX.1 hX (hG.F 4 (by decide)) rfl rfl inX8 0 (by decide) a_87 (Or.inl rfl) rfl dX8_sortRows_30 ?_
        refine dlen (cd := (5, 5)) hx hb hKX.1 hX (hG.F 5 (by decide)) rfl 0 rfl (v := 9) rfl dX8_sortRows_33 ?_
        refine lv_icmp_ge (tgt := 151) hx hb dX8_sortRows_34 (by decide) (fun c18 => ?_) (fun c18 => ?_)
        · have hf := it_t c18 hf
          cases hf
          exact Ct_rv hx hb hr hlk hX hS dX8_sortRows_151
        · have hf := it_f c18 hf
          refine lv_iconst (v := 1) hx hb dX8_sortRows_37 (by decide) ?_
          refine lv_iload hx hb dX8_sortRows_38 (lv_at hl 4 rfl) ?_
          refine lv_ishl hx hb dX8_sortRows_40 ?_
          refine lv_istore (lv' := [(5, .int (1 <<< (x14 &&& 31))), (0, .ref (ad (5, 4))), (1, .ref (ad (4, v1))), (2, .ref (ad (2, t2))), (3, .ref (ad (0, i3))), (4, .int x14)]) hx hb dX8_sortRows_41 hl (by decide) rfl (fun ls hl => ?_)
          refine lv_aload_n hx hb dX8_sortRows_43 rfl (lv_at hl 3 rfl) ?_
          refine dget (cd := (2, t2)) (ci := 5) (C := RX6) (T := TX6) (N := 5) (v := .ref (ad (0, (1 + 7 * t2)))) hx hb hC hKX.1 hX (hG.T ht2) rfl rfl inX6 2 (by decide) a_918 (Or.inl rfl) rfl dX8_sortRows_44 ?_
          refine lv_aload_n hx hb dX8_sortRows_47 rfl (lv_at hl 1 rfl) ?_
          refine dget (cd := (5, 4)) (ci := 7) (C := RX8) (T := TX8) (N := 6) (v := .ref (ad (5, 5))) hx hb hC hKX.1 hX (hG.F 4 (by decide)) rfl rfl inX8 0 (by decide) a_87 (Or.inl rfl) rfl dX8_sortRows_48 ?_
          refine lv_iload hx hb dX8_sortRows_51 (lv_at hl 5 rfl) ?_
          obtain ⟨h20, j19, ej19, hf⟩ := rd_e hf
          refine dald (cd := (5, 5)) hx hb hKX.1 hX (hG.F 5 (by decide)) rfl h20 ej19 dX8_sortRows_53 ?_
          obtain ⟨z21, hz21, hf⟩ := cb_e hf
          refine dVx (cd := (0, (1 + 7 * t2))) (As := [.int (S15.2 42 j19)]) (rest := []) hC (c_d4_has hG (hG.r1 ht2) hz21) q_d4_has a_469 (Nat.le_of_ble_eq_true rfl) hX hKX (hG.r1 ht2).1 rfl rfl rfl hl.1 (Nat.le_of_ble_eq_true rfl) dX8_sortRows_54 hS (fun H locs hX hS => ?_)
          obtain ⟨k24, hk24, hf⟩ := jn1_e hf
          have Jk24 : ∀ (S23 : St) (H : Heap) (locs : List Loc) (ls : Array Slot), DX D cA A ad L G S23 H → va_S A s.heap H locs → lv_has ls 6 [(0, .ref (ad (5, 4))), (1, .ref (ad (4, v1))), (2, .ref (ad (2, t2))), (3, .ref (ad (0, i3))), (4, .int x14), (5, .int (1 <<< (x14 &&& 31)))] → k24 S23 = some S' → W p l e (RM 3 0 0) s m args below meth c H locs 0 0 (MQ below (CtQ A none (DX D cA A ad L G S')) args s 0 0 A) (F0 m 71 ls []) := by
            intro S23 H locs ls hX hS hl hf
            rw [hk24] at hf
            refine lv_aload_n hx hb dX8_sortRows_71 rfl (lv_at hl 1 rfl) ?_
            refine lv_aload_n hx hb dX8_sortRows_72 rfl (lv_at hl 0 rfl) ?_
            refine dget (cd := (5, 4)) (ci := 7) (C := RX8) (T := TX8) (N := 6) (v := .ref (ad (5, 5))) hx hb hC hKX.1 hX (hG.F 4 (by decide)) rfl rfl inX8 0 (by decide) a_87 (Or.inl rfl) rfl dX8_sortRows_73 ?_
            refine lv_iload hx hb dX8_sortRows_76 (lv_at hl 4 rfl) ?_
            obtain ⟨h26, j25, ej25, hf⟩ := rd_e hf
            refine dald (cd := (5, 5)) hx hb hKX.1 hX (hG.F 5 (by decide)) rfl h26 ej25 dX8_sortRows_78 ?_
            obtain ⟨z27, hz27, hf⟩ := cb_e hf
            refine dSx (As := [.ref (ad (4, v1)), .int (S23.2 42 j25)]) (rest := []) hC (c_d8_isSeen hG hz27) q_d8_isSeen a_470 (Nat.le_of_ble_eq_true rfl) hX hKX rfl hl.1 (Nat.le_of_ble_eq_true rfl) dX8_sortRows_79 hS (fun H locs hX hS => ?_)
            obtain ⟨k30, hk30, hf⟩ := jn1_e hf
            have Jk30 : ∀ (S29 : St) (H : Heap) (locs : List Loc) (ls : Array Slot), DX D cA A ad L G S29 H → va_S A s.heap H locs → lv_has ls 6 [(0, .ref (ad (5, 4))), (1, .ref (ad (4, v1))), (2, .ref (ad (2, t2))), (3, .ref (ad (0, i3))), (4, .int x14)] → k30 S29 = some S' → W p l e (RM 3 0 0) s m args below meth c H locs 0 0 (MQ below (CtQ A none (DX D cA A ad L G S')) args s 0 0 A) (F0 m 128 ls []) := by
              intro S29 H locs ls hX hS hl hf
              rw [hk30] at hf
              refine lv_aload_n hx hb dX8_sortRows_128 rfl (lv_at hl 0 rfl) ?_
              refine dget (cd := (5, 4)) (ci := 7) (C := RX8) (T := TX8) (N := 6) (v := .ref (ad (5, 6))) hx hb hC hKX.1 hX (hG.F 4 (by decide)) rfl rfl inX8 1 (by decide) a_88 (Or.inl rfl) rfl dX8_sortRows_129 ?_
              refine lv_iload hx hb dX8_sortRows_132 (lv_at hl 4 rfl) ?_
              refine lv_aload_n hx hb dX8_sortRows_134 rfl (lv_at hl 0 rfl) ?_
              refine lv_iload hx hb dX8_sortRows_135 (lv_at hl 4 rfl) ?_
              refine lv_aload_n hx hb dX8_sortRows_137 rfl (lv_at hl 2 rfl) ?_
              refine dget (cd := (2, t2)) (ci := 5) (C := RX6) (T := TX6) (N := 5) (v := .int (G (20 + t2) 1)) hx hb hC hKX.1 hX (hG.T ht2) rfl rfl inX6 1 (by decide) a_915 (Or.inl rfl) rfl dX8_sortRows_138 ?_
              obtain ⟨z31, hz31, hf⟩ := cb_e hf
              refine dVx (cd := (5, 4)) (As := [.int x14, .int (G (20 + t2) 1)]) (rest := [.int x14, .ref (ad (5, 6))]) hC (c_d8_rivalsOf hG hz31) q_d8_rivalsOf a_482 (Nat.le_of_ble_eq_true rfl) hX hKX (hG.F 4 (by decide)) rfl rfl rfl hl.1 (Nat.le_of_ble_eq_true rfl) dX8_sortRows_141 hS (fun H locs hX hS => ?_)
              obtain ⟨h34, j33, ej33, hf⟩ := rd_e hf
              refine dast (cd := (5, 6)) hx hb hKX.1 hX hS (hG.F 6 (by decide)) rfl (dsetB43 hG) h34 ej33 dX8_sortRows_144 (fun H locs hX hS => ?_)
              obtain ⟨S35, eS35, hf⟩ := lt_e hf
              rw [← eS35] at hX
              refine lv_iinc (v := (x14 + 1)) (lv' := [(4, .int (x14 + 1)), (0, .ref (ad (5, 4))), (1, .ref (ad (4, v1))), (2, .ref (ad (2, t2))), (3, .ref (ad (0, i3)))]) hx hb dX8_sortRows_145 hl (k := 4) rfl rfl (by decide) rfl (fun ls hl => ?_)
              refine lv_goto (tgt := 18) hx hb dX8_sortRows_148 (by decide) ?_
              exact ihg16 _ _ _ _ _ hX hS (lv_sub hl [1, 2, 3, 4, 0] rfl) hf
            refine lv_if_eq (tgt := 128) hx hb dX8_sortRows_82 (by decide) (fun c36 => ?_) (fun c36 => ?_)
            · have hf := it_t c36 hf
              exact Jk30 _ _ _ _ hX hS (lv_sub hl [0, 1, 2, 3, 4] rfl) hf
            · have hf := it_f c36 hf
              refine lv_aload_n hx hb dX8_sortRows_85 rfl (lv_at hl 0 rfl) ?_
              refine lv_dup hx hb dX8_sortRows_86 rfl ?_
              refine dget (cd := (5, 4)) (ci := 7) (C := RX8) (T := TX8) (N := 6) (v := .int (S23.1 51)) hx hb hC hKX.1 hX (hG.F 4 (by decide)) rfl rfl inX8 4 (by decide) a_91 (Or.inl rfl) rfl dX8_sortRows_87 ?_
              refine lv_iload hx hb dX8_sortRows_90 (lv_at hl 5 rfl) ?_
              refine lv_ior hx hb dX8_sortRows_92 ?_
              refine dput (cd := (5, 4)) (ci := 7) (C := RX8) (T := TX8) (N := 6) (ty := .int) hx hb hC hKX.1 hX hS (hG.F 4 (by decide)) rfl rfl inX8 tyX8 tyX8_ok nmX8 4 (by decide) a_91 rfl rfl (by decide +kernel) rfl rfl (Nat.le_of_ble_eq_true rfl) (dset51 hG) dX8_sortRows_93 (fun H locs hX hS => ?_)
              obtain ⟨S37, eS37, hf⟩ := lt_e hf
              rw [← eS37] at hX
              refine lv_aload_n hx hb dX8_sortRows_96 rfl (lv_at hl 3 rfl) ?_
              refine lv_aload_n hx hb dX8_sortRows_97 rfl (lv_at hl 0 rfl) ?_
              refine dget (cd := (5, 4)) (ci := 7) (C := RX8) (T := TX8) (N := 6) (v := .ref (ad (5, 5))) hx hb hC hKX.1 hX (hG.F 4 (by decide)) rfl rfl inX8 0 (by decide) a_87 (Or.inl rfl) rfl dX8_sortRows_98 ?_
              refine lv_iload hx hb dX8_sortRows_101 (lv_at hl 4 rfl) ?_
              obtain ⟨h39, j38, ej38, hf⟩ := rd_e hf
              refine dald (cd := (5, 5)) hx hb hKX.1 hX (hG.F 5 (by decide)) rfl h39 ej38 dX8_sortRows_103 ?_
              refine lv_aload_n hx hb dX8_sortRows_104 rfl (lv_at hl 1 rfl) ?_
              refine dgetV (v := v1) (k := 1) (x := .int (G v1 1)) hx hb hC hKX.1 hX hG hv1 (by decide) a_707 (Or.inl rfl) rfl dX8_sortRows_105 ?_
              obtain ⟨z40, hz40, hf⟩ := cb_e hf
              refine dSx (As := [.int (S37.2 42 j38), .int (G v1 1)]) (rest := [.ref (ad (0, i3))]) hC (c_d1_part hG hz40) q_d1_part a_481 (Nat.le_of_ble_eq_true rfl) hX hKX rfl hl.1 (Nat.le_of_ble_eq_true rfl) dX8_sortRows_108 hS (fun H locs hX hS => ?_)
              obtain ⟨z42, hz42, hf⟩ := cb_e hf
              refine dVx (cd := (0, i3)) (As := [.int z40]) (rest := []) hC (c_d4_has hG hi3 hz42) q_d4_has a_469 (Nat.le_of_ble_eq_true rfl) hX hKX hi3.1 rfl rfl rfl hl.1 (Nat.le_of_ble_eq_true rfl) dX8_sortRows_111 hS (fun H locs hX hS => ?_)
              refine lv_if_ne (tgt := 128) hx hb dX8_sortRows_114 (by decide) (fun c44 => ?_) (fun c44 => ?_)
              · have hf := it_f c44 hf
                exact Jk30 _ _ _ _ hX hS (lv_sub hl [0, 1, 2, 3, 4] rfl) hf
              · have hf := it_t c44 hf
                refine lv_aload_n hx hb dX8_sortRows_117 rfl (lv_at hl 0 rfl) ?_
                refine lv_dup hx hb dX8_sortRows_118 rfl ?_
                refine dget (cd := (5, 4)) (ci := 7) (C := RX8) (T := TX8) (N := 6) (v := .int (S37.1 52)) hx hb hC hKX.1 hX (hG.F 4 (by decide)) rfl rfl inX8 5 (by decide) a_92 (Or.inl rfl) rfl dX8_sortRows_119 ?_
                refine lv_iload hx hb dX8_sortRows_122 (lv_at hl 5 rfl) ?_
                refine lv_ior hx hb dX8_sortRows_124 ?_
                refine dput (cd := (5, 4)) (ci := 7) (C := RX8) (T := TX8) (N := 6) (ty := .int) hx hb hC hKX.1 hX hS (hG.F 4 (by decide)) rfl rfl inX8 tyX8 tyX8_ok nmX8 5 (by decide) a_92 rfl rfl (by decide +kernel) rfl rfl (Nat.le_of_ble_eq_true rfl) (dset52 hG) dX8_sortRows_125 (fun H locs hX hS => ?_)
                obtain ⟨S45, eS45, hf⟩ := lt_e hf
                rw [← eS45] at hX
                exact Jk30 _ _ _ _ hX hS (lv_sub hl [0, 1, 2, 3, 4] rfl) hf
          refine lv_if_eq (tgt := 71) hx hb dX8_sortRows_57 (by decide) (fun c46 => ?_) (fun c46 => ?_)
          · have hf := it_t c46 hf
            exact Jk24 _ _ _ _ hX hS (lv_sub hl [1, 2, 3, 4, 5, 0] rfl) hf
          · have hf := it_f c46 hf
            refine lv_aload_n hx hb dX8_sortRows_60 rfl (lv_at hl 1 rfl) ?_
            refine lv_dup hx hb dX8_sortRows_61 rfl ?_
            refine dget (cd := (5, 4)) (ci := 7) (C := RX8) (T := TX8) (N := 6) (v := .int (S15.1 50)) hx hb hC hKX.1 hX (hG.F 4 (by decide)) rfl rfl inX8 3 (by decide) a_90 (Or.inl rfl) rfl dX8_sortRows_62 ?_
            refine lv_iload hx hb dX8_sortRows_65 (lv_at hl 0 rfl) ?_
            refine lv_ior hx hb dX8_sortRows_67 ?_
            refine dput (cd := (5, 4)) (ci := 7) (C := RX8) (T := TX8) (N := 6) (ty := .int) hx hb hC hKX.1 hX hS (hG.F 4 (by decide)) rfl rfl inX8 tyX8 tyX8_ok nmX8 3 (by decide) a_90 rfl rfl (by decide +kernel) rfl rfl (Nat.le_of_ble_eq_true rfl) (dset50 hG) dX8_sortRows_68 (fun H locs hX hS => ?_)
            obtain ⟨S47, eS47, hf⟩ := lt_e hf
            rw [← eS47] at hX
            exact Jk24 _ _ _ _ hX hS (lv_sub hl [1, 2, 3, 4, 5, 0] rfl) hf
  exact Lg16 FU _ _ _ _ _ hX hS (lv_sub hl [1, 2, 3, 4, 0] rfl) hf

theorem q_d8_hasUnlikeKeys : VWv RX8 yX8_hasUnlikeKeys cX8_hasUnlikeKeys 3 (some .boolean) 1 := ⟨a_490, a_19, a_489, a_9, by decide +kernel, Nat.le_of_ble_eq_true rfl⟩
set_option maxRecDepth 100000 in
set_option maxHeartbeats 4000000 in
theorem c_d8_hasUnlikeKeys {l : Launch} {D : va_G} {cA : Nat → ClassId} {A : Nat → Prop} {ad : Cd → Nat} {L : List Cd} {G : Gt} {nt nv : Nat} (hG : WF L G nt nv) {x1 : Int32} {S : St} {r : Int32} (hf : d8_hasUnlikeKeys x1 S = some r) : Ct l D cA A yX8_hasUnlikeKeys cX8_hasUnlikeKeys 3 (some .boolean) 0 0 0 [.ref (ad (5, 4)), .int x1] (DX D cA A ad L G S) (some (.int r)) (DX D cA A ad L G S) := by
  refine Ct_of (by decide +kernel) (Nat.le_of_ble_eq_true rfl) ?_
  intro p e s m args below meth c ls hC hr hlk hnm hX hKX hl
  have hx := hC.1
  have hb := hC.2.1
  have hS : va_S A s.heap s.heap [] := va_S.rf
  have hl : lv_has ls 3 [(0, .ref (ad (5, 4))), (1, .int x1)] := hl
  unfold d8_hasUnlikeKeys at hf
  refine lv_iconst (v := 0) hx hb dX8_hasUnlikeKeys_0 (by decide) ?_
  refine lv_istore_n (lv' := [(2, .int 0), (0, .ref (ad (5, 4))), (1, .int x1)]) hx hb dX8_hasUnlikeKeys_1 rfl hl (by decide) rfl (fun ls hl => ?_)
  obtain ⟨g12, g120, g12s, hf⟩ := lp1_e hf
  have Lg12 : ∀ (n : Nat) (x11 : Int32) (H : Heap) (locs : List Loc) (ls : Array Slot), DX D cA A ad L G S H → va_S A s.heap H locs → lv_has ls 3 [(0, .ref (ad (5, 4))), (1, .int x1), (2, .int x11)] → g12 n x11 = some r → W p l e (RM 0 0 0) s m args below meth c H locs 0 0 (MQ below (CtQ A (some (.int r)) (DX D cA A ad L G S)) args s 0 0 A) (F0 m 2 ls []) := by
    intro n
    induction n with
    | zero => intro x11 H locs ls hX hS hl hf; rw [g120] at hf; cases hf
    | succ n ihg12 =>
      intro x11 H locs ls hX hS hl hf
      rw [g12s] at hf
      refine lv_iload_n hx hb dX8_hasUnlikeKeys_2 rfl (lv_at hl 2 rfl) ?_
      refine lv_aload_n hx hb dX8_hasUnlikeKeys_3 rfl (lv_at hl 0 rfl) ?_
      refine dget (cd := (5, 4)) (ci := 7) (C := RX8) (T := TX8) (N := 6) (v := .int (S.1 49)) hx hb hC hKX.1 hX (hG.F 4 (by decide)) rfl rfl inX8 2 (by decide) a_89 (Or.inl rfl) rfl dX8_hasUnlikeKeys_4 ?_
      refine lv_icmp_ge (tgt := 47) hx hb dX8_hasUnlikeKeys_7 (by decide) (fun c13 => ?_) (fun c13 => ?_)
      · have hf := it_t c13 hf
        refine lv_iconst (v := 1) hx hb dX8_hasUnlikeKeys_47 (by decide) ?_
        cases hf
        exact Ct_rz hx hb hr hlk nz1 hX hS dX8_hasUnlikeKeys_48
      · have hf := it_f c13 hf
        refine lv_iload_n hx hb dX8_hasUnlikeKeys_10 rfl (lv_at hl 2 rfl) ?_
        refine lv_aload_n hx hb dX8_hasUnlikeKeys_11 rfl (lv_at hl 0 rfl) ?_
        refine dget (cd := (5, 4)) (ci := 7) (C := RX8) (T := TX8) (N := 6) (v := .ref (ad (5, 6))) hx hb hC hKX.1 hX (hG.F 4 (by decide)) rfl rfl inX8 1 (by decide) a_88 (Or.inl rfl) rfl dX8_hasUnlikeKeys_12 ?_
        refine dlen (cd := (5, 6)) hx hb hKX.1 hX (hG.F 6 (by decide)) rfl 0 rfl (v := 9) rfl dX8_hasUnlikeKeys_15 ?_
        refine lv_icmp_ge (tgt := 47) hx hb dX8_hasUnlikeKeys_16 (by decide) (fun c14 => ?_) (fun c14 => ?_)
        · have hf := it_t c14 hf
          refine lv_iconst (v := 1) hx hb dX8_hasUnlikeKeys_47 (by decide) ?_
          cases hf
          exact Ct_rz hx hb hr hlk nz1 hX hS dX8_hasUnlikeKeys_48
        · have hf := it_f c14 hf
          refine lv_iload_n hx hb dX8_hasUnlikeKeys_19 rfl (lv_at hl 1 rfl) ?_
          refine lv_iload_n hx hb dX8_hasUnlikeKeys_20 rfl (lv_at hl 2 rfl) ?_
          refine lv_ishr hx hb dX8_hasUnlikeKeys_21 ?_
          refine lv_iconst (v := 1) hx hb dX8_hasUnlikeKeys_22 (by decide) ?_
          refine lv_iand hx hb dX8_hasUnlikeKeys_23 ?_
          refine lv_iconst (v := 1) hx hb dX8_hasUnlikeKeys_24 (by decide) ?_
          refine lv_icmp_ne (tgt := 41) hx hb dX8_hasUnlikeKeys_25 (by decide) (fun c15 => ?_) (fun c15 => ?_)
          · have hf := it_f c15 hf
            refine lv_iinc (v := (x11 + 1)) (lv' := [(2, .int (x11 + 1)), (0, .ref (ad (5, 4))), (1, .int x1)]) hx hb dX8_hasUnlikeKeys_41 hl (k := 2) rfl rfl (by decide) rfl (fun ls hl => ?_)
            refine lv_goto (tgt := 2) hx hb dX8_hasUnlikeKeys_44 (by decide) ?_
            exact ihg12 _ _ _ _ hX hS (lv_sub hl [1, 2, 0] rfl) hf
          · have hf := it_t c15 hf
            refine lv_iload_n hx hb dX8_hasUnlikeKeys_28 rfl (lv_at hl 1 rfl) ?_
            refine lv_aload_n hx hb dX8_hasUnlikeKeys_29 rfl (lv_at hl 0 rfl) ?_
            refine dget (cd := (5, 4)) (ci := 7) (C := RX8) (T := TX8) (N := 6) (v := .ref (ad (5, 6))) hx hb hC hKX.1 hX (hG.F 4 (by decide)) rfl rfl inX8 1 (by decide) a_88 (Or.inl rfl) rfl dX8_hasUnlikeKeys_30 ?_
            refine lv_iload_n hx hb dX8_hasUnlikeKeys_33 rfl (lv_at hl 2 rfl) ?_
            obtain ⟨h17, j16, ej16, hf⟩ := rd_e hf
            refine dald (cd := (5, 6)) hx hb hKX.1 hX (hG.F 6 (by decide)) rfl h17 ej16 dX8_hasUnlikeKeys_34 ?_
            refine lv_iand hx hb dX8_hasUnlikeKeys_35 ?_
            refine lv_if_eq (tgt := 41) hx hb dX8_hasUnlikeKeys_36 (by decide) (fun c18 => ?_) (fun c18 => ?_)
            · have hf := it_t c18 hf
              refine lv_iinc (v := (x11 + 1)) (lv' := [(2, .int (x11 + 1)), (0, .ref (ad (5, 4))), (1, .int x1)]) hx hb dX8_hasUnlikeKeys_41 hl (k := 2) rfl rfl (by decide) rfl (fun ls hl => ?_)
              refine lv_goto (tgt := 2) hx hb dX8_hasUnlikeKeys_44 (by decide) ?_
              exact ihg12 _ _ _ _ hX hS (lv_sub hl [1, 2, 0] rfl) hf
            · have hf := it_f c18 hf
              refine lv_iconst (v := 0) hx hb dX8_hasUnlikeKeys_39 (by decide) ?_
              cases hf
              exact Ct_rz hx hb hr hlk nz0 hX hS dX8_hasUnlikeKeys_40
  exact Lg12 FU _ _ _ _ hX hS (lv_sub hl [1, 2, 0] rfl) hf

theorem q_d8_fewestChanges : VWv RX8 yX8_fewestChanges cX8_fewestChanges 7 (some .int) 3 := ⟨a_458, a_19, a_456, a_457, by decide +kernel, Nat.le_of_ble_eq_true rfl⟩
set_option maxRecDepth 100000 in
set_option maxHeartbeats 4000000 in
theorem c_d8_fewestChanges {l : Launch} {D : va_G} {cA : Nat → ClassId} {A : Nat → Prop} {ad : Cd → Nat} {L : List Cd} {G : Gt} {nt nv : Nat} (hG : WF L G nt nv) {v1 : Nat} (hv1 : v1 < nv) {t2 : Nat} (ht2 : t2 < nt) {i3 : Nat} (hi3 : okR L i3) {S : St} {r : Int32} {S' : St} (hf : d8_fewestChanges G nt nv v1 t2 i3 S = some (r, S')) : Ct l D cA A yX8_fewestChanges cX8_fewestChanges 7 (some .int) 4 0 0 [.ref (ad (5, 4)), .ref (ad (4, v1)), .ref (ad (2, t2)), .ref (ad (0, i3))] (DX D cA A ad L G S) (some (.int r)) (DX D cA A ad L G S') := by
  refine Ct_of (by decide +kernel) (Nat.le_of_ble_eq_true rfl) ?_
  intro p e s m args below meth c ls hC hr hlk hnm hX hKX hl
  have hx := hC.1
  have hb := hC.2.1
  have hS : va_S A s.heap s.heap [] := va_S.rf
  have hl : lv_has ls 7 [(0, .ref (ad (5, 4))), (1, .ref (ad (4, v1))), (2, .ref (ad (2, t2))), (3, .ref (ad (0, i3)))] := hl
  unfold d8_fewestChanges at hf
  refine lv_aload_n hx hb dX8_fewestChanges_0 rfl (lv_at hl 0 rfl) ?_
  refine lv_aload_n hx hb dX8_fewestChanges_1 rfl (lv_at hl 2 rfl) ?_
  refine dget (cd := (2, t2)) (ci := 5) (C := RX6) (T := TX6) (N := 5) (v := .int (G (20 + t2) 0)) hx hb hC hKX.1 hX (hG.T ht2) rfl rfl inX6 0 (by decide) a_910 (Or.inl rfl) rfl dX8_fewestChanges_2 ?_
  obtain ⟨S13, hz11, hf⟩ := cb_e hf
  refine dVv (cd := (5, 4)) (As := [.int (G (20 + t2) 0)]) (rest := []) hC (c_d8_listRows hG hz11) q_d8_listRows a_459 (Nat.le_of_ble_eq_true rfl) hX hKX (hG.F 4 (by decide)) rfl rfl rfl hl.1 (Nat.le_of_ble_eq_true rfl) dX8_fewestChanges_5 hS (fun H locs hX hS => ?_)
  refine lv_aload_n hx hb dX8_fewestChanges_8 rfl (lv_at hl 0 rfl) ?_
  refine lv_aload_n hx hb dX8_fewestChanges_9 rfl (lv_at hl 1 rfl) ?_
  refine lv_aload_n hx hb dX8_fewestChanges_10 rfl (lv_at hl 2 rfl) ?_
  refine lv_aload_n hx hb dX8_fewestChanges_11 rfl (lv_at hl 3 rfl) ?_
  obtain ⟨S16, hz14, hf⟩ := cb_e hf
  refine dVv (cd := (5, 4)) (As := [.ref (ad (4, v1)), .ref (ad (2, t2)), .ref (ad (0, i3))]) (rest := []) hC (c_d8_sortRows hG hv1 ht2 hi3 hz14) q_d8_sortRows a_465 (Nat.le_of_ble_eq_true rfl) hX hKX (hG.F 4 (by decide)) rfl rfl rfl hl.1 (Nat.le_of_ble_eq_true rfl) dX8_fewestChanges_12 hS (fun H locs hX hS => ?_)
  refine lv_iconst (v := (-1)) hx hb dX8_fewestChanges_15 (by decide) ?_
  refine lv_istore (lv' := [(4, .int (-1)), (0, .ref (ad (5, 4))), (1, .ref (ad (4, v1))), (2, .ref (ad (2, t2))), (3, .ref (ad (0, i3)))]) hx hb dX8_fewestChanges_16 hl (by decide) rfl (fun ls hl => ?_)
  refine lv_iconst (v := 0) hx hb dX8_fewestChanges_18 (by decide) ?_
  refine lv_istore (lv' := [(5, .int 0), (4, .int (-1)), (0, .ref (ad (5, 4))), (1, .ref (ad (4, v1))), (2, .ref (ad (2, t2))), (3, .ref (ad (0, i3)))]) hx hb dX8_fewestChanges_19 hl (by decide) rfl (fun ls hl => ?_)
  obtain ⟨g19, g190, g19s, hf⟩ := lp2_e hf
  have Lg19 : ∀ (n : Nat) (x17 : Int32) (x18 : Int32) (H : Heap) (locs : List Loc) (ls : Array Slot), DX D cA A ad L G S16 H → va_S A s.heap H locs → lv_has ls 7 [(0, .ref (ad (5, 4))), (3, .ref (ad (0, i3))), (4, .int x17), (5, .int x18)] → g19 n x17 x18 = some (r, S') → W p l e (RM 4 0 0) s m args below meth c H locs 0 0 (MQ below (CtQ A (some (.int r)) (DX D cA A ad L G S')) args s 0 0 A) (F0 m 21 ls []) := by
    intro n
    induction n with
    | zero => intro x17 x18 H locs ls hX hS hl hf; rw [g190] at hf; cases hf
    | succ n ihg19 =>
      intro x17 x18 H locs ls hX hS hl hf
      rw [g19s] at hf
      refine lv_iload hx hb dX8_fewestChanges_21 (lv_at hl 3 rfl) ?_
      refine lv_iconst (v := 1) hx hb dX8_fewestChanges_23 (by decide) ?_
      refine lv_aload_n hx hb dX8_fewestChanges_24 rfl (lv_at hl 0 rfl) ?_
      refine dget (cd := (5, 4)) (ci := 7) (C := RX8) (T := TX8) (N := 6) (v := .int (S16.1 49)) hx hb hC hKX.1 hX (hG.F 4 (by decide)) rfl rfl inX8 2 (by decide) a_89 (Or.inl rfl) rfl dX8_fewestChanges_25 ?_
      refine lv_ishl hx hb dX8_fewestChanges_28 ?_
      refine lv_icmp_ge (tgt := 106) hx hb dX8_fewestChanges_29 (by decide) (fun c20 => ?_) (fun c20 => ?_)
      · have hf := it_t c20 hf
        refine lv_iload hx hb dX8_fewestChanges_106 (lv_at hl 2 rfl) ?_
        cases hf
        exact Ct_ri hx hb hr hlk hX hS dX8_fewestChanges_108
      · have hf := it_f c20 hf
        refine lv_iload hx hb dX8_fewestChanges_32 (lv_at hl 3 rfl) ?_
        refine lv_aload_n hx hb dX8_fewestChanges_34 rfl (lv_at hl 0 rfl) ?_
        refine dget (cd := (5, 4)) (ci := 7) (C := RX8) (T := TX8) (N := 6) (v := .int (S16.1 52)) hx hb hC hKX.1 hX (hG.F 4 (by decide)) rfl rfl inX8 5 (by decide) a_92 (Or.inl rfl) rfl dX8_fewestChanges_35 ?_
        refine lv_iand hx hb dX8_fewestChanges_38 ?_
        refine lv_if_ne (tgt := 100) hx hb dX8_fewestChanges_39 (by decide) (fun c21 => ?_) (fun c21 => ?_)
        · have hf := it_f c21 hf
          refine lv_iinc (v := (x18 + 1)) (lv' := [(5, .int (x18 + 1)), (0, .ref (ad (5, 4))), (3, .ref (ad (0, i3))), (4, .int x17)]) hx hb dX8_fewestChanges_100 hl (k := 3) rfl rfl (by decide) rfl (fun ls hl => ?_)
          refine lv_goto (tgt := 21) hx hb dX8_fewestChanges_103 (by decide) ?_
          exact ihg19 _ _ _ _ _ hX hS (lv_sub hl [1, 2, 3, 0] rfl) hf
        · have hf := it_t c21 hf
          refine lv_iload hx hb dX8_fewestChanges_42 (lv_at hl 3 rfl) ?_
          refine lv_aload_n hx hb dX8_fewestChanges_44 rfl (lv_at hl 0 rfl) ?_
          refine dget (cd := (5, 4)) (ci := 7) (C := RX8) (T := TX8) (N := 6) (v := .int (S16.1 51)) hx hb hC hKX.1 hX (hG.F 4 (by decide)) rfl rfl inX8 4 (by decide) a_91 (Or.inl rfl) rfl dX8_fewestChanges_45 ?_
          refine lv_iand hx hb dX8_fewestChanges_48 ?_
          obtain ⟨z22, hz22, hf⟩ := cb_e hf
          refine dSx (As := [.int (x18 &&& (S16.1 51))]) (rest := []) hC (c_dJ_bitCount hG hz22) q_dJ_bitCount a_442 (Nat.le_of_ble_eq_true rfl) hX hKX rfl hl.1 (Nat.le_of_ble_eq_true rfl) dX8_fewestChanges_49 hS (fun H locs hX hS => ?_)
          refine lv_aload_n hx hb dX8_fewestChanges_52 rfl (lv_at hl 1 rfl) ?_
          obtain ⟨z24, hz24, hf⟩ := cb_e hf
          refine dVx (cd := (0, i3)) (As := []) (rest := [.int z22]) hC (c_d4_size hG hi3 hz24) q_d4_size a_448 (Nat.le_of_ble_eq_true rfl) hX hKX hi3.1 rfl rfl rfl hl.1 (Nat.le_of_ble_eq_true rfl) dX8_fewestChanges_53 hS (fun H locs hX hS => ?_)
          refine lv_icmp_ne (tgt := 100) hx hb dX8_fewestChanges_56 (by decide) (fun c26 => ?_) (fun c26 => ?_)
          · have hf := it_f c26 hf
            refine lv_iinc (v := (x18 + 1)) (lv' := [(5, .int (x18 + 1)), (0, .ref (ad (5, 4))), (3, .ref (ad (0, i3))), (4, .int x17)]) hx hb dX8_fewestChanges_100 hl (k := 3) rfl rfl (by decide) rfl (fun ls hl => ?_)
            refine lv_goto (tgt := 21) hx hb dX8_fewestChanges_103 (by decide) ?_
            exact ihg19 _ _ _ _ _ hX hS (lv_sub hl [1, 2, 3, 0] rfl) hf
          · have hf := it_t c26 hf
            refine lv_aload_n hx hb dX8_fewestChanges_59 rfl (lv_at hl 0 rfl) ?_
            refine lv_iload hx hb dX8_fewestChanges_60 (lv_at hl 3 rfl) ?_
            obtain ⟨z27, hz27, hf⟩ := cb_e hf
            refine dVx (cd := (5, 4)) (As := [.int x18]) (rest := []) hC (c_d8_hasUnlikeKeys hG hz27) q_d8_hasUnlikeKeys a_487 (Nat.le_of_ble_eq_true rfl) hX hKX (hG.F 4 (by decide)) rfl rfl rfl hl.1 (Nat.le_of_ble_eq_true rfl) dX8_fewestChanges_62 hS (fun H locs hX hS => ?_)
            refine lv_if_eq (tgt := 100) hx hb dX8_fewestChanges_65 (by decide) (fun c29 => ?_) (fun c29 => ?_)
            · have hf := it_t c29 hf
              refine lv_iinc (v := (x18 + 1)) (lv' := [(5, .int (x18 + 1)), (0, .ref (ad (5, 4))), (3, .ref (ad (0, i3))), (4, .int x17)]) hx hb dX8_fewestChanges_100 hl (k := 3) rfl rfl (by decide) rfl (fun ls hl => ?_)
              refine lv_goto (tgt := 21) hx hb dX8_fewestChanges_103 (by decide) ?_
              exact ihg19 _ _ _ _ _ hX hS (lv_sub hl [1, 2, 3, 0] rfl) hf
            · have hf := it_f c29 hf
              refine lv_iload hx hb dX8_fewestChanges_68 (lv_at hl 3 rfl) ?_
              refine lv_aload_n hx hb dX8_fewestChanges_70 rfl (lv_at hl 0 rfl) ?_
              refine dget (cd := (5, 4)) (ci := 7) (C := RX8) (T := TX8) (N := 6) (v := .int (S16.1 50)) hx hb hC hKX.1 hX (hG.F 4 (by decide)) rfl rfl inX8 3 (by decide) a_90 (Or.inl rfl) rfl dX8_fewestChanges_71 ?_
              refine lv_ixor hx hb dX8_fewestChanges_74 ?_
              obtain ⟨z30, hz30, hf⟩ := cb_e hf
              refine dSx (As := [.int (x18 ^^^ (S16.1 50))]) (rest := []) hC (c_dJ_bitCount hG hz30) q_dJ_bitCount a_442 (Nat.le_of_ble_eq_true rfl) hX hKX rfl hl.1 (Nat.le_of_ble_eq_true rfl) dX8_fewestChanges_75 hS (fun H locs hX hS => ?_)
              refine lv_istore (lv' := [(6, .int z30), (0, .ref (ad (5, 4))), (3, .ref (ad (0, i3))), (4, .int x17), (5, .int x18)]) hx hb dX8_fewestChanges_78 hl (by decide) rfl (fun ls hl => ?_)
              refine lv_iload hx hb dX8_fewestChanges_80 (lv_at hl 3 rfl) ?_
              refine lv_iconst (v := (-1)) hx hb dX8_fewestChanges_82 (by decide) ?_
              refine lv_icmp_ne (tgt := 91) hx hb dX8_fewestChanges_83 (by decide) (fun c32 => ?_) (fun c32 => ?_)
              · have hf := it_f c32 hf
                refine lv_iload hx hb dX8_fewestChanges_91 (lv_at hl 3 rfl) ?_
                refine lv_iload hx hb dX8_fewestChanges_93 (lv_at hl 0 rfl) ?_
                obtain ⟨z33, ez33, hf⟩ := lt_e hf
                refine va_mmin hx hb (hC.2.2.1.trans hl.1.symm) hC.2.2.2.1 (tA hC.2.2.2.2 amin_X8) (tA hC.2.2.2.2 amin_static) (tA hC.2.2.2.2 amin_init) (tA hC.2.2.2.2 amin_code) (Nat.le_of_ble_eq_true rfl) (Nat.le_of_ble_eq_true rfl) (Nat.zero_le _) (Nat.zero_le _) dX8_fewestChanges_95 ?_
                rw [← ez33]
                refine lv_istore (lv' := [(4, .int z33), (6, .int z30), (0, .ref (ad (5, 4))), (3, .ref (ad (0, i3))), (5, .int x18)]) hx hb dX8_fewestChanges_98 hl (by decide) rfl (fun ls hl => ?_)
                refine lv_iinc (v := (x18 + 1)) (lv' := [(5, .int (x18 + 1)), (4, .int z33), (6, .int z30), (0, .ref (ad (5, 4))), (3, .ref (ad (0, i3)))]) hx hb dX8_fewestChanges_100 hl (k := 4) rfl rfl (by decide) rfl (fun ls hl => ?_)
                refine lv_goto (tgt := 21) hx hb dX8_fewestChanges_103 (by decide) ?_
                exact ihg19 _ _ _ _ _ hX hS (lv_sub hl [3, 4, 1, 0] rfl) hf
              · have hf := it_t c32 hf
                refine lv_iload hx hb dX8_fewestChanges_86 (lv_at hl 0 rfl) ?_
                refine lv_goto (tgt := 98) hx hb dX8_fewestChanges_88 (by decide) ?_
                refine lv_istore (lv' := [(4, .int z30), (6, .int z30), (0, .ref (ad (5, 4))), (3, .ref (ad (0, i3))), (5, .int x18)]) hx hb dX8_fewestChanges_98 hl (by decide) rfl (fun ls hl => ?_)
                refine lv_iinc (v := (x18 + 1)) (lv' := [(5, .int (x18 + 1)), (4, .int z30), (6, .int z30), (0, .ref (ad (5, 4))), (3, .ref (ad (0, i3)))]) hx hb dX8_fewestChanges_100 hl (k := 4) rfl rfl (by decide) rfl (fun ls hl => ?_)
                refine lv_goto (tgt := 21) hx hb dX8_fewestChanges_103 (by decide) ?_
                exact ihg19 _ _ _ _ _ hX hS (lv_sub hl [3, 4, 1, 0] rfl) hf
  exact Lg19 FU _ _ _ _ _ hX hS (lv_sub hl [2, 5, 1, 0] rfl) hf
