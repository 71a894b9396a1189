theorem q_p_drafts : VWs yL_drafts cL_drafts 16 (some .boolean) 11 := ⟨a_958, a_15, a_957, by decide +kernel⟩
set_option maxRecDepth 100000 in
set_option maxHeartbeats 8000000 in
theorem c_p_drafts {l : Launch} {D : va_G} {cA : Nat → ClassId} {A B : Nat → Prop} {x0 : Nat} {ad : Nat → Nat} (hAB : ∀ q, A q → ¬ B q) (hfl : l.stackTraces = false) {x2 : Int32} {x3 : Int32} {x4 : Int32} {T T' : Tt} {r : Int32} (hf : p_drafts x2 x3 x4 T = some (r, T')) (h0 : T.2.2 = 0 := by rfl) : CtT l D cA A B yL_drafts cL_drafts 16 (some .boolean) 21 16 [.ref x0, .int x2, .int x3, .int x4, .ref (ad 0), .ref (ad 1), .ref (ad 2), .ref (ad 3), .ref (ad 4), .ref (ad 5), .ref (ad 6)] x0 ad T r T' := by
  refine CtT_of (by decide +kernel) (Nat.le_of_ble_eq_true rfl) ?_
  intro p e s m args below meth c ls hC hr hlk hX hAs hKX hTX hNX hl
  have hx := hC.1
  have hb := hC.2.1
  have hS : va_S (AB A B) s.heap s.heap [] := va_S.rf
  refine W.eqc (c2 := 20 * T.2.2) (s2 := 200 * T.2.2) (by omega) (by omega) ?_
  have hl : lv_has ls 16 [(0, .ref x0), (1, .int x2), (2, .int x3), (3, .int x4), (4, .ref (ad 0)), (5, .ref (ad 1)), (6, .ref (ad 2)), (7, .ref (ad 3)), (8, .ref (ad 4)), (9, .ref (ad 5)), (10, .ref (ad 6))] := hl
  unfold p_drafts at hf
  refine lv_iload_n hx hb dL_drafts_0 rfl (lv_at hl 1 rfl) ?_
  obtain ⟨k13, hk13, hf⟩ := jn0_e hf
  have Jk13 : ∀  (H : Heap) (locs : List Loc) (ls : Array Slot), ZX D cA A B x0 ad T H → va_S (AB A B) s.heap H locs → lv_has ls 16 [(0, .ref x0), (1, .int x2), (2, .int x3), (3, .int x4), (4, .ref (ad 0)), (5, .ref (ad 1)), (6, .ref (ad 2)), (7, .ref (ad 3)), (8, .ref (ad 4)), (9, .ref (ad 5)), (10, .ref (ad 6))] → k13 = some (r, T') → W p l e (RM 21 (20 * 16) (200 * 16)) s m args below meth c H locs (20 * T.2.2) (200 * T.2.2) (MQ below (CtQ (AB A B) (some (.int r)) (ZX D cA A B x0 ad T')) args s (20 * 16) (200 * 16) (AB A B)) (F0 m 71 ls []) := by
    intro  H locs ls hX hS hl hf
    rw [hk13] at hf
    refine lv_iload_n hx hb dL_drafts_71 rfl (lv_at hl 1 rfl) ?_
    refine lv_iconst (v := 5) hx hb dL_drafts_72 (by decide) ?_
    refine lv_icmp_ne (tgt := 309) hx hb dL_drafts_73 (by decide) (fun c14 => ?_) (fun c14 => ?_)
    · have hf := it_f c14 hf
      refine lv_iload_n hx hb dL_drafts_309 rfl (lv_at hl 1 rfl) ?_
      refine lv_bipush (v := 6) hx hb dL_drafts_310 (by decide) ?_
      refine lv_icmp_ne (tgt := 401) hx hb dL_drafts_312 (by decide) (fun c15 => ?_) (fun c15 => ?_)
      · have hf := it_f c15 hf
        refine lv_aload hx hb dL_drafts_401 (lv_at hl 10 rfl) ?_
        refine lv_iconst (v := 2) hx hb dL_drafts_403 (by decide) ?_
        obtain ⟨h17, j16, ej16, hf⟩ := rd_e hf
        refine tald hx hb hKX.1 hX (by decide) h17 ej16 dL_drafts_404 ?_
        refine lv_if_ne (tgt := 459) hx hb dL_drafts_405 (by decide) (fun c18 => ?_) (fun c18 => ?_)
        · have hf := it_f c18 hf
          refine lv_aload hx hb dL_drafts_459 (lv_at hl 5 rfl) ?_
          refine lv_aload hx hb dL_drafts_461 (lv_at hl 10 rfl) ?_
          refine lv_iconst (v := 2) hx hb dL_drafts_463 (by decide) ?_
          obtain ⟨h20, j19, ej19, hf⟩ := rd_e hf
          refine tald hx hb hKX.1 hX (by decide) h20 ej19 dL_drafts_464 ?_
          refine lv_iconst (v := 1) hx hb dL_drafts_465 (by decide) ?_
          refine lv_isub hx hb dL_drafts_466 ?_
          obtain ⟨h22, hf⟩ := gd_e hf
          obtain ⟨z21, hz21, hf⟩ := cb_e hf
          refine tSi (As := [.ref (ad 1), .int ((T.2.1 6 j19) - 1)]) (rest := []) hAB hC (c_l_columnsOf La_a hz21) q_l_columnsOf a_593 ⟨Nat.le_of_ble_eq_true rfl, Nat.le_of_ble_eq_true rfl⟩ hX hKX rfl hl.1 (Nat.le_of_ble_eq_true rfl) dL_drafts_467 ⟨Nat.mul_le_mul_left 20 h22, Nat.mul_le_mul_left 200 h22⟩ hS (fun _ z => z) (fun H locs hX hS => ?_)
          change ZX D cA A B x0 ad T H at hX
          change W p l e (RM 21 (20 * 16) (200 * 16)) s m args below meth c H locs (20 * T.2.2) (200 * T.2.2) (MQ below (CtQ (AB A B) (some (.int r)) (ZX D cA A B x0 ad T')) args s (20 * 16) (200 * 16) (AB A B)) (F0 m 470 ls [.int z21])
          refine lv_istore (lv' := [(11, .int z21), (0, .ref x0), (1, .int x2), (2, .int x3), (3, .int x4), (4, .ref (ad 0)), (5, .ref (ad 1)), (6, .ref (ad 2)), (7, .ref (ad 3)), (8, .ref (ad 4)), (9, .ref (ad 5)), (10, .ref (ad 6))]) hx hb dL_drafts_470 hl (by decide) rfl (fun ls hl => ?_)
          refine lv_iload_n hx hb dL_drafts_472 rfl (lv_at hl 4 rfl) ?_
          refine lv_bipush (v := 27) hx hb dL_drafts_473 (by decide) ?_
          obtain ⟨h24, hf⟩ := gd_e hf
          obtain ⟨z23, hz23, hf⟩ := cb_e hf
          refine tSi (As := [.int x4, .int 27]) (rest := []) hAB hC (c_l_low La_a hz23) q_l_low a_138 ⟨Nat.le_of_ble_eq_true rfl, Nat.le_of_ble_eq_true rfl⟩ hX hKX rfl hl.1 (Nat.le_of_ble_eq_true rfl) dL_drafts_475 ⟨Nat.mul_le_mul_left 20 h24, Nat.mul_le_mul_left 200 h24⟩ hS (fun _ z => z) (fun H locs hX hS => ?_)
          change ZX D cA A B x0 ad T H at hX
          change W p l e (RM 21 (20 * 16) (200 * 16)) s m args below meth c H locs (20 * T.2.2) (200 * T.2.2) (MQ below (CtQ (AB A B) (some (.int r)) (ZX D cA A B x0 ad T')) args s (20 * 16) (200 * 16) (AB A B)) (F0 m 478 ls [.int z23])
          refine lv_iload hx hb dL_drafts_478 (lv_at hl 0 rfl) ?_
          obtain ⟨h26, hf⟩ := gd_e hf
          obtain ⟨z25, hz25, hf⟩ := cb_e hf
          refine tSi (As := [.int z23, .int z21]) (rest := []) hAB hC (c_l_part La_a hz25) q_l_part a_599 ⟨Nat.le_of_ble_eq_true rfl, Nat.le_of_ble_eq_true rfl⟩ hX hKX rfl hl.1 (Nat.le_of_ble_eq_true rfl) dL_drafts_480 ⟨Nat.mul_le_mul_left 20 h26, Nat.mul_le_mul_left 200 h26⟩ hS (fun _ z => z) (fun H locs hX hS => ?_)
          change ZX D cA A B x0 ad T H at hX
          change W p l e (RM 21 (20 * 16) (200 * 16)) s m args below meth c H locs (20 * T.2.2) (200 * T.2.2) (MQ below (CtQ (AB A B) (some (.int r)) (ZX D cA A B x0 ad T')) args s (20 * 16) (200 * 16) (AB A B)) (F0 m 483 ls [.int z25])
          refine lv_istore (lv' := [(12, .int z25), (11, .int z21), (0, .ref x0), (1, .int x2), (2, .int x3), (3, .int x4), (4, .ref (ad 0)), (5, .ref (ad 1)), (6, .ref (ad 2)), (7, .ref (ad 3)), (8, .ref (ad 4)), (9, .ref (ad 5)), (10, .ref (ad 6))]) hx hb dL_drafts_483 hl (by decide) rfl (fun ls hl => ?_)
          refine lv_iconst (v := 0) hx hb dL_drafts_485 (by decide) ?_
          refine lv_istore (lv' := [(13, .int 0), (12, .int z25), (11, .int z21), (0, .ref x0), (1, .int x2), (2, .int x3), (3, .int x4), (4, .ref (ad 0)), (5, .ref (ad 1)), (6, .ref (ad 2)), (7, .ref (ad 3)), (8, .ref (ad 4)), (9, .ref (ad 5)), (10, .ref (ad 6))]) hx hb dL_drafts_486 hl (by decide) rfl (fun ls hl => ?_)
          obtain ⟨g29, g290, g29s, hf⟩ := lp2_e hf
          have Lg29 : ∀ (n : Nat) (x27 : Int32) (x28 : Int32) (H : Heap) (locs : List Loc) (ls : Array Slot), ZX D cA A B x0 ad T H → va_S (AB A B) s.heap H locs → lv_has ls 16 [(0, .ref x0), (1, .int x2), (2, .int x3), (10, .ref (ad 6)), (11, .int z21), (12, .int x27), (13, .int x28)] → g29 n x27 x28 = some (r, T') → W p l e (RM 21 (20 * 16) (200 * 16)) s m args below meth c H locs (20 * T.2.2) (200 * T.2.2) (MQ below (CtQ (AB A B) (some (.int r)) (ZX D cA A B x0 ad T')) args s (20 * 16) (200 * 16) (AB A B)) (F0 m 488 ls []) := by
            intro n
            induction n with
            | zero => intro x27 x28 H locs ls hX hS hl hf; rw [g290] at hf; cases hf
            | succ n ihg29 =>
              intro x27 x28 H locs ls hX hS hl hf
              rw [g29s] at hf
              refine lv_iload hx hb dL_drafts_488 (lv_at hl 6 rfl) ?_
              refine lv_bipush (v := 27) hx hb dL_drafts_490 (by decide) ?_
              obtain ⟨k30, hk30, hf⟩ := jn0_e hf
              have Jk30 : ∀  (H : Heap) (locs : List Loc) (ls : Array Slot), ZX D cA A B x0 ad T H → va_S (AB A B) s.heap H locs → lv_has ls 16 [(0, .ref x0), (1, .int x2), (2, .int x3), (10, .ref (ad 6)), (11, .int z21), (12, .int x27)] → k30 = some (r, T') → W p l e (RM 21 (20 * 16) (200 * 16)) s m args below meth c H locs (20 * T.2.2) (200 * T.2.2) (MQ below (CtQ (AB A B) (some (.int r)) (ZX D cA A B x0 ad T')) args s (20 * 16) (200 * 16) (AB A B)) (F0 m 534 ls []) := by
                intro  H locs ls hX hS hl hf
                rw [hk30] at hf
                refine lv_iload_n hx hb dL_drafts_534 rfl (lv_at hl 1 rfl) ?_
                refine lv_iconst (v := 1) hx hb dL_drafts_535 (by decide) ?_
                refine lv_icmp_ne (tgt := 657) hx hb dL_drafts_536 (by decide) (fun c31 => ?_) (fun c31 => ?_)
                · have hf := it_f c31 hf
                  refine lv_iload_n hx hb dL_drafts_657 rfl (lv_at hl 1 rfl) ?_
                  refine lv_iconst (v := 2) hx hb dL_drafts_658 (by decide) ?_
                  refine lv_icmp_ne (tgt := 733) hx hb dL_drafts_659 (by decide) (fun c32 => ?_) (fun c32 => ?_)
                  · have hf := it_f c32 hf
                    refine lv_iload_n hx hb dL_drafts_733 rfl (lv_at hl 2 rfl) ?_
                    refine lv_iconst (v := 5) hx hb dL_drafts_734 (by decide) ?_
                    refine lv_ishr hx hb dL_drafts_735 ?_
                    refine lv_iconst (v := 3) hx hb dL_drafts_736 (by decide) ?_
                    obtain ⟨h34, hf⟩ := gd_e hf
                    obtain ⟨z33, hz33, hf⟩ := cb_e hf
                    refine tSi (As := [.int (x3 >>> ((5 : Int32) &&& 31)), .int 3]) (rest := []) hAB hC (c_l_low La_a hz33) q_l_low a_138 ⟨Nat.le_of_ble_eq_true rfl, Nat.le_of_ble_eq_true rfl⟩ hX hKX rfl hl.1 (Nat.le_of_ble_eq_true rfl) dL_drafts_737 ⟨Nat.mul_le_mul_left 20 h34, Nat.mul_le_mul_left 200 h34⟩ hS (fun _ z => z) (fun H locs hX hS => ?_)
                    change ZX D cA A B x0 ad T H at hX
                    change W p l e (RM 21 (20 * 16) (200 * 16)) s m args below meth c H locs (20 * T.2.2) (200 * T.2.2) (MQ below (CtQ (AB A B) (some (.int r)) (ZX D cA A B x0 ad T')) args s (20 * 16) (200 * 16) (AB A B)) (F0 m 740 ls [.int z33])
                    refine lv_istore (lv' := [(13, .int z33), (0, .ref x0), (1, .int x2), (2, .int x3), (10, .ref (ad 6)), (11, .int z21), (12, .int x27)]) hx hb dL_drafts_740 hl (by decide) rfl (fun ls hl => ?_)
                    refine lv_iload_n hx hb dL_drafts_742 rfl (lv_at hl 3 rfl) ?_
                    refine lv_bipush (v := 8) hx hb dL_drafts_743 (by decide) ?_
                    refine lv_ishr hx hb dL_drafts_745 ?_
                    refine lv_iconst (v := 3) hx hb dL_drafts_746 (by decide) ?_
                    obtain ⟨h36, hf⟩ := gd_e hf
                    obtain ⟨z35, hz35, hf⟩ := cb_e hf
                    refine tSi (As := [.int (x3 >>> ((8 : Int32) &&& 31)), .int 3]) (rest := []) hAB hC (c_l_low La_a hz35) q_l_low a_138 ⟨Nat.le_of_ble_eq_true rfl, Nat.le_of_ble_eq_true rfl⟩ hX hKX rfl hl.1 (Nat.le_of_ble_eq_true rfl) dL_drafts_747 ⟨Nat.mul_le_mul_left 20 h36, Nat.mul_le_mul_left 200 h36⟩ hS (fun _ z => z) (fun H locs hX hS => ?_)
                    change ZX D cA A B x0 ad T H at hX
                    change W p l e (RM 21 (20 * 16) (200 * 16)) s m args below meth c H locs (20 * T.2.2) (200 * T.2.2) (MQ below (CtQ (AB A B) (some (.int r)) (ZX D cA A B x0 ad T')) args s (20 * 16) (200 * 16) (AB A B)) (F0 m 750 ls [.int z35])
                    refine lv_istore (lv' := [(14, .int z35), (13, .int z33), (0, .ref x0), (1, .int x2), (2, .int x3), (10, .ref (ad 6)), (11, .int z21), (12, .int x27)]) hx hb dL_drafts_750 hl (by decide) rfl (fun ls hl => ?_)
                    refine lv_aload_n hx hb dL_drafts_752 rfl (lv_at hl 2 rfl) ?_
                    refine lv_iload hx hb dL_drafts_753 (lv_at hl 7 rfl) ?_
                    obtain ⟨h38, hf⟩ := gd_e hf
                    obtain ⟨z37, hz37, hf⟩ := cb_e hf
                    refine tSi (As := [.int x27]) (rest := [.ref x0]) hAB hC (c_l_number La_a hz37) q_l_number a_578 ⟨Nat.le_of_ble_eq_true rfl, Nat.le_of_ble_eq_true rfl⟩ hX hKX rfl hl.1 (Nat.le_of_ble_eq_true rfl) dL_drafts_755 ⟨Nat.mul_le_mul_left 20 h38, Nat.mul_le_mul_left 200 h38⟩ hS (fun _ z => z) (fun H locs hX hS => ?_)
                    change ZX D cA A B x0 ad T H at hX
                    change W p l e (RM 21 (20 * 16) (200 * 16)) s m args below meth c H locs (20 * T.2.2) (200 * T.2.2) (MQ below (CtQ (AB A B) (some (.int r)) (ZX D cA A B x0 ad T')) args s (20 * 16) (200 * 16) (AB A B)) (F0 m 758 ls [.int z37, .ref x0])
                    refine lv_iconst (v := 3) hx hb dL_drafts_758 (by decide) ?_
                    refine lv_iload hx hb dL_drafts_759 (lv_at hl 0 rfl) ?_
                    obtain ⟨h40, hf⟩ := gd_e hf
                    obtain ⟨z39, C41, hz39, hf⟩ := cb2_e hf
                    refine tW (As := [.ref x0, .int z37, .int 3, .int z35]) (rest := []) hAB hC (v_change hfl hz39) qw_change a_562 ⟨Nat.le_of_ble_eq_true rfl, Nat.le_of_ble_eq_true rfl⟩ hX (fun q hq => hAs q (Nat.le_trans hS.1 hq)) hKX hTX hNX rfl hl.1 (Nat.le_of_ble_eq_true rfl) dL_drafts_761 ⟨Nat.mul_le_mul_left 20 h40, Nat.mul_le_mul_left 200 h40⟩ hS (fun _ z => z) (fun H locs hX hS => ?_)
                    obtain ⟨S42, eS42, hf⟩ := lt_e hf
                    rw [← eS42] at hX ⊢
                    refine lv_sipush (v := (-7200)) hx hb dL_drafts_764 (by decide) ?_
                    refine lv_icmp_ne (tgt := 807) hx hb dL_drafts_767 (by decide) (fun c43 => ?_) (fun c43 => ?_)
                    · have hf := it_f c43 hf
                      refine lv_iconst (v := 0) hx hb dL_drafts_807 (by decide) ?_
                      obtain ⟨h44, hf⟩ := gd_e hf
                      cases hf
                      exact CtT_rz hx hb hr hlk nz0 hX hS (Nat.mul_le_mul_left 20 h44) (Nat.mul_le_mul_left 200 h44) dL_drafts_808
                    · have hf := it_t c43 hf
                      refine lv_aload_n hx hb dL_drafts_770 rfl (lv_at hl 2 rfl) ?_
                      refine lv_iload hx hb dL_drafts_771 (lv_at hl 7 rfl) ?_
                      obtain ⟨h46, hf⟩ := gd_e hf
                      obtain ⟨z45, hz45, hf⟩ := cb_e hf
                      refine tSi (As := [.int x27]) (rest := [.ref x0]) hAB hC (c_l_number La_a hz45) q_l_number a_578 ⟨Nat.le_of_ble_eq_true rfl, Nat.le_of_ble_eq_true rfl⟩ hX hKX rfl hl.1 (Nat.le_of_ble_eq_true rfl) dL_drafts_773 ⟨Nat.mul_le_mul_left 20 h46, Nat.mul_le_mul_left 200 h46⟩ hS (fun _ z => z) (fun H locs hX hS => ?_)
                      change ZX D cA A B x0 ad S42 H at hX
                      change W p l e (RM 21 (20 * 16) (200 * 16)) s m args below meth c H locs (20 * S42.2.2) (200 * S42.2.2) (MQ below (CtQ (AB A B) (some (.int r)) (ZX D cA A B x0 ad T')) args s (20 * 16) (200 * 16) (AB A B)) (F0 m 776 ls [.int z45, .ref x0])
                      refine lv_iload hx hb dL_drafts_776 (lv_at hl 1 rfl) ?_
                      refine lv_bipush (v := 10) hx hb dL_drafts_778 (by decide) ?_
                      obtain ⟨h48, hf⟩ := gd_e hf
                      obtain ⟨z47, C49, hz47, hf⟩ := cb2_e hf
                      refine tW (As := [.ref x0, .int z45, .int z33, .int 10]) (rest := []) hAB hC (v_change hfl hz47) qw_change a_562 ⟨Nat.le_of_ble_eq_true rfl, Nat.le_of_ble_eq_true rfl⟩ hX (fun q hq => hAs q (Nat.le_trans hS.1 hq)) hKX hTX hNX rfl hl.1 (Nat.le_of_ble_eq_true rfl) dL_drafts_780 ⟨Nat.mul_le_mul_left 20 h48, Nat.mul_le_mul_left 200 h48⟩ hS (fun _ z => z) (fun H locs hX hS => ?_)
                      obtain ⟨S50, eS50, hf⟩ := lt_e hf
                      rw [← eS50] at hX ⊢
                      refine lv_sipush (v := (-7200)) hx hb dL_drafts_783 (by decide) ?_
                      refine lv_icmp_ne (tgt := 807) hx hb dL_drafts_786 (by decide) (fun c51 => ?_) (fun c51 => ?_)
                      · have hf := it_f c51 hf
                        refine lv_iconst (v := 0) hx hb dL_drafts_807 (by decide) ?_
                        obtain ⟨h52, hf⟩ := gd_e hf
                        cases hf
                        exact CtT_rz hx hb hr hlk nz0 hX hS (Nat.mul_le_mul_left 20 h52) (Nat.mul_le_mul_left 200 h52) dL_drafts_808
                      · have hf := it_t c51 hf
                        refine lv_aload_n hx hb dL_drafts_789 rfl (lv_at hl 2 rfl) ?_
                        refine lv_iload hx hb dL_drafts_790 (lv_at hl 7 rfl) ?_
                        obtain ⟨h54, hf⟩ := gd_e hf
                        obtain ⟨z53, hz53, hf⟩ := cb_e hf
                        refine tSi (As := [.int x27]) (rest := [.ref x0]) hAB hC (c_l_number La_a hz53) q_l_number a_578 ⟨Nat.le_of_ble_eq_true rfl, Nat.le_of_ble_eq_true rfl⟩ hX hKX rfl hl.1 (Nat.le_of_ble_eq_true rfl) dL_drafts_792 ⟨Nat.mul_le_mul_left 20 h54, Nat.mul_le_mul_left 200 h54⟩ hS (fun _ z => z) (fun H locs hX hS => ?_)
                        change ZX D cA A B x0 ad S50 H at hX
                        change W p l e (RM 21 (20 * 16) (200 * 16)) s m args below meth c H locs (20 * S50.2.2) (200 * S50.2.2) (MQ below (CtQ (AB A B) (some (.int r)) (ZX D cA A B x0 ad T')) args s (20 * 16) (200 * 16) (AB A B)) (F0 m 795 ls [.int z53, .ref x0])
                        refine lv_iload hx hb dL_drafts_795 (lv_at hl 1 rfl) ?_
                        refine lv_iconst (v := (-1)) hx hb dL_drafts_797 (by decide) ?_
                        obtain ⟨h56, hf⟩ := gd_e hf
                        obtain ⟨z55, C57, hz55, hf⟩ := cb2_e hf
                        refine tW (As := [.ref x0, .int z53, .int z33, .int (-1)]) (rest := []) hAB hC (v_change hfl hz55) qw_change a_562 ⟨Nat.le_of_ble_eq_true rfl, Nat.le_of_ble_eq_true rfl⟩ hX (fun q hq => hAs q (Nat.le_trans hS.1 hq)) hKX hTX hNX rfl hl.1 (Nat.le_of_ble_eq_true rfl) dL_drafts_798 ⟨Nat.mul_le_mul_left 20 h56, Nat.mul_le_mul_left 200 h56⟩ hS (fun _ z => z) (fun H locs hX hS => ?_)
                        obtain ⟨S58, eS58, hf⟩ := lt_e hf
                        rw [← eS58] at hX ⊢
                        refine lv_sipush (v := (-7200)) hx hb dL_drafts_801 (by decide) ?_
                        refine lv_icmp_eq (tgt := 809) hx hb dL_drafts_804 (by decide) (fun c59 => ?_) (fun c59 => ?_)
                        · have hf := it_t c59 hf
                          refine lv_iload hx hb dL_drafts_809 (lv_at hl 6 rfl) ?_
                          refine lv_iload hx hb dL_drafts_811 (lv_at hl 1 rfl) ?_
                          refine lv_ishr hx hb dL_drafts_813 ?_
                          refine lv_iconst (v := 1) hx hb dL_drafts_814 (by decide) ?_
                          refine lv_iand hx hb dL_drafts_815 ?_
                          refine lv_if_ne (tgt := 844) hx hb dL_drafts_816 (by decide) (fun c60 => ?_) (fun c60 => ?_)
                          · have hf := it_f c60 hf
                            refine lv_iload hx hb dL_drafts_844 (lv_at hl 7 rfl) ?_
                            refine lv_iload hx hb dL_drafts_846 (lv_at hl 0 rfl) ?_
                            refine lv_iload hx hb dL_drafts_848 (lv_at hl 7 rfl) ?_
                            refine lv_iload hx hb dL_drafts_850 (lv_at hl 1 rfl) ?_
                            obtain ⟨h62, hf⟩ := gd_e hf
                            obtain ⟨z61, hz61, hf⟩ := cb_e hf
                            refine tSi (As := [.int x27, .int z33]) (rest := [.int z35, .int x27]) hAB hC (c_l_digit La_a hz61) q_l_digit a_590 ⟨Nat.le_of_ble_eq_true rfl, Nat.le_of_ble_eq_true rfl⟩ hX hKX rfl hl.1 (Nat.le_of_ble_eq_true rfl) dL_drafts_852 ⟨Nat.mul_le_mul_left 20 h62, Nat.mul_le_mul_left 200 h62⟩ hS (fun _ z => z) (fun H locs hX hS => ?_)
                            change ZX D cA A B x0 ad S58 H at hX
                            change W p l e (RM 21 (20 * 16) (200 * 16)) s m args below meth c H locs (20 * S58.2.2) (200 * S58.2.2) (MQ below (CtQ (AB A B) (some (.int r)) (ZX D cA A B x0 ad T')) args s (20 * 16) (200 * 16) (AB A B)) (F0 m 855 ls [.int z61, .int z35, .int x27])
                            refine lv_isub hx hb dL_drafts_855 ?_
                            refine lv_iload hx hb dL_drafts_856 (lv_at hl 1 rfl) ?_
                            obtain ⟨h64, hf⟩ := gd_e hf
                            obtain ⟨z63, hz63, hf⟩ := cb_e hf
                            refine tSi (As := [.int z33]) (rest := [.int (z35 - z61), .int x27]) hAB hC (c_l_unit La_a hz63) q_l_unit a_602 ⟨Nat.le_of_ble_eq_true rfl, Nat.le_of_ble_eq_true rfl⟩ hX hKX rfl hl.1 (Nat.le_of_ble_eq_true rfl) dL_drafts_858 ⟨Nat.mul_le_mul_left 20 h64, Nat.mul_le_mul_left 200 h64⟩ hS (fun _ z => z) (fun H locs hX hS => ?_)
                            change ZX D cA A B x0 ad S58 H at hX
                            change W p l e (RM 21 (20 * 16) (200 * 16)) s m args below meth c H locs (20 * S58.2.2) (200 * S58.2.2) (MQ below (CtQ (AB A B) (some (.int r)) (ZX D cA A B x0 ad T')) args s (20 * 16) (200 * 16) (AB A B)) (F0 m 861 ls [.int z63, .int (z35 - z61), .int x27])
                            refine lv_imul hx hb dL_drafts_861 ?_
                            refine lv_iadd hx hb dL_drafts_862 ?_
                            refine lv_istore (lv' := [(15, .int (x27 + ((z35 - z61) * z63))), (14, .int z35), (13, .int z33), (0, .ref x0), (1, .int x2), (2, .int x3), (10, .ref (ad 6)), (11, .int z21), (12, .int x27)]) hx hb dL_drafts_863 hl (by decide) rfl (fun ls hl => ?_)
                            refine lv_aload hx hb dL_drafts_865 (lv_at hl 6 rfl) ?_
                            refine lv_iconst (v := 3) hx hb dL_drafts_867 (by decide) ?_
                            obtain ⟨h66, j65, ej65, hf⟩ := rd_e hf
                            refine tald hx hb hKX.1 hX (by decide) h66 ej65 dL_drafts_868 ?_
                            refine lv_iload hx hb dL_drafts_869 (lv_at hl 8 rfl) ?_
                            refine lv_ishr hx hb dL_drafts_871 ?_
                            refine lv_iconst (v := 1) hx hb dL_drafts_872 (by decide) ?_
                            refine lv_iand hx hb dL_drafts_873 ?_
                            obtain ⟨k67, hk67, hf⟩ := jn0_e hf
                            have Jk67 : ∀  (H : Heap) (locs : List Loc) (ls : Array Slot), ZX D cA A B x0 ad S58 H → va_S (AB A B) s.heap H locs → lv_has ls 16 [(0, .ref x0), (12, .int x27), (13, .int z33), (14, .int z35)] → k67 = some (r, T') → W p l e (RM 21 (20 * 16) (200 * 16)) s m args below meth c H locs (20 * S58.2.2) (200 * S58.2.2) (MQ below (CtQ (AB A B) (some (.int r)) (ZX D cA A B x0 ad T')) args s (20 * 16) (200 * 16) (AB A B)) (F0 m 897 ls []) := by
                              intro  H locs ls hX hS hl hf
                              rw [hk67] at hf
                              refine lv_aload_n hx hb dL_drafts_897 rfl (lv_at hl 0 rfl) ?_
                              refine lv_iload hx hb dL_drafts_898 (lv_at hl 1 rfl) ?_
                              obtain ⟨h69, hf⟩ := gd_e hf
                              obtain ⟨z68, hz68, hf⟩ := cb_e hf
                              refine tSi (As := [.int x27]) (rest := [.ref x0]) hAB hC (c_l_number La_a hz68) q_l_number a_578 ⟨Nat.le_of_ble_eq_true rfl, Nat.le_of_ble_eq_true rfl⟩ hX hKX rfl hl.1 (Nat.le_of_ble_eq_true rfl) dL_drafts_900 ⟨Nat.mul_le_mul_left 20 h69, Nat.mul_le_mul_left 200 h69⟩ hS (fun _ z => z) (fun H locs hX hS => ?_)
                              change ZX D cA A B x0 ad S58 H at hX
                              change W p l e (RM 21 (20 * 16) (200 * 16)) s m args below meth c H locs (20 * S58.2.2) (200 * S58.2.2) (MQ below (CtQ (AB A B) (some (.int r)) (ZX D cA A B x0 ad T')) args s (20 * 16) (200 * 16) (AB A B)) (F0 m 903 ls [.int z68, .ref x0])
                              refine lv_iload hx hb dL_drafts_903 (lv_at hl 2 rfl) ?_
                              refine lv_iload hx hb dL_drafts_905 (lv_at hl 3 rfl) ?_
                              obtain ⟨h71, hf⟩ := gd_e hf
                              obtain ⟨z70, C72, hz70, hf⟩ := cb2_e hf
                              refine tW (As := [.ref x0, .int z68, .int z33, .int z35]) (rest := []) hAB hC (v_change hfl hz70) qw_change a_562 ⟨Nat.le_of_ble_eq_true rfl, Nat.le_of_ble_eq_true rfl⟩ hX (fun q hq => hAs q (Nat.le_trans hS.1 hq)) hKX hTX hNX rfl hl.1 (Nat.le_of_ble_eq_true rfl) dL_drafts_907 ⟨Nat.mul_le_mul_left 20 h71, Nat.mul_le_mul_left 200 h71⟩ hS (fun _ z => z) (fun H locs hX hS => ?_)
                              obtain ⟨S73, eS73, hf⟩ := lt_e hf
                              rw [← eS73] at hX ⊢
                              refine lv_sipush (v := (-7400)) hx hb dL_drafts_910 (by decide) ?_
                              refine lv_icmp_ne (tgt := 920) hx hb dL_drafts_913 (by decide) (fun c74 => ?_) (fun c74 => ?_)
                              · have hf := it_f c74 hf
                                refine lv_iconst (v := 0) hx hb dL_drafts_920 (by decide) ?_
                                obtain ⟨h75, hf⟩ := gd_e hf
                                cases hf
                                exact CtT_rz hx hb hr hlk nz0 hX hS (Nat.mul_le_mul_left 20 h75) (Nat.mul_le_mul_left 200 h75) dL_drafts_921
                              · have hf := it_t c74 hf
                                refine lv_iconst (v := 1) hx hb dL_drafts_916 (by decide) ?_
                                refine lv_goto (tgt := 921) hx hb dL_drafts_917 (by decide) ?_
                                obtain ⟨h76, hf⟩ := gd_e hf
                                cases hf
                                exact CtT_rz hx hb hr hlk nz1 hX hS (Nat.mul_le_mul_left 20 h76) (Nat.mul_le_mul_left 200 h76) dL_drafts_921
                            refine lv_if_eq (tgt := 897) hx hb dL_drafts_874 (by decide) (fun c77 => ?_) (fun c77 => ?_)
                            · have hf := it_t c77 hf
                              exact Jk67 _ _ _ hX hS (lv_sub hl [3, 8, 2, 1] rfl) hf
                            · have hf := it_f c77 hf
                              refine lv_iload hx hb dL_drafts_877 (lv_at hl 0 rfl) ?_
                              refine lv_iload hx hb dL_drafts_879 (lv_at hl 8 rfl) ?_
                              obtain ⟨k78, hk78, hf⟩ := jn0_e hf
                              have Jk78 : ∀  (H : Heap) (locs : List Loc) (ls : Array Slot), ZX D cA A B x0 ad S58 H → va_S (AB A B) s.heap H locs → lv_has ls 16 [(0, .ref x0), (10, .ref (ad 6)), (12, .int x27), (13, .int z33), (14, .int z35), (15, .int (x27 + ((z35 - z61) * z63)))] → k78 = some (r, T') → W p l e (RM 21 (20 * 16) (200 * 16)) s m args below meth c H locs (20 * S58.2.2) (200 * S58.2.2) (MQ below (CtQ (AB A B) (some (.int r)) (ZX D cA A B x0 ad T')) args s (20 * 16) (200 * 16) (AB A B)) (F0 m 922 ls []) := by
                                intro  H locs ls hX hS hl hf
                                rw [hk78] at hf
                                refine lv_aload hx hb dL_drafts_922 (lv_at hl 1 rfl) ?_
                                refine lv_iconst (v := 3) hx hb dL_drafts_924 (by decide) ?_
                                refine lv_aload hx hb dL_drafts_925 (lv_at hl 1 rfl) ?_
                                refine lv_iconst (v := 3) hx hb dL_drafts_927 (by decide) ?_
                                obtain ⟨h80, j79, ej79, hf⟩ := rd_e hf
                                refine tald hx hb hKX.1 hX (by decide) h80 ej79 dL_drafts_928 ?_
                                refine lv_iconst (v := 1) hx hb dL_drafts_929 (by decide) ?_
                                refine lv_iload hx hb dL_drafts_930 (lv_at hl 2 rfl) ?_
                                refine lv_ishl hx hb dL_drafts_932 ?_
                                refine lv_iconst (v := (-1)) hx hb dL_drafts_933 (by decide) ?_
                                refine lv_ixor hx hb dL_drafts_934 ?_
                                refine lv_iand hx hb dL_drafts_935 ?_
                                refine lv_iconst (v := 1) hx hb dL_drafts_936 (by decide) ?_
                                refine lv_iload hx hb dL_drafts_937 (lv_at hl 5 rfl) ?_
                                refine lv_ishl hx hb dL_drafts_939 ?_
                                refine lv_ior hx hb dL_drafts_940 ?_
                                obtain ⟨h82, j81, ej81, hf⟩ := rd_e hf
                                refine tasv hx hb hAB hKX.1 hX hS (by decide) h82 ej81 dL_drafts_941 (fun H locs hX hS => ?_)
                                obtain ⟨S83, eS83, hf⟩ := lt_e hf
                                rw [← eS83] at hX ⊢
                                refine lv_aload_n hx hb dL_drafts_942 rfl (lv_at hl 0 rfl) ?_
                                refine lv_iload hx hb dL_drafts_943 (lv_at hl 2 rfl) ?_
                                obtain ⟨h85, hf⟩ := gd_e hf
                                obtain ⟨z84, hz84, hf⟩ := cb_e hf
                                refine tSi (As := [.int x27]) (rest := [.ref x0]) hAB hC (c_l_number La_a hz84) q_l_number a_578 ⟨Nat.le_of_ble_eq_true rfl, Nat.le_of_ble_eq_true rfl⟩ hX hKX rfl hl.1 (Nat.le_of_ble_eq_true rfl) dL_drafts_945 ⟨Nat.mul_le_mul_left 20 h85, Nat.mul_le_mul_left 200 h85⟩ hS (fun _ z => z) (fun H locs hX hS => ?_)
                                change ZX D cA A B x0 ad S83 H at hX
                                change W p l e (RM 21 (20 * 16) (200 * 16)) s m args below meth c H locs (20 * S83.2.2) (200 * S83.2.2) (MQ below (CtQ (AB A B) (some (.int r)) (ZX D cA A B x0 ad T')) args s (20 * 16) (200 * 16) (AB A B)) (F0 m 948 ls [.int z84, .ref x0])
                                refine lv_iload hx hb dL_drafts_948 (lv_at hl 3 rfl) ?_
                                refine lv_iload hx hb dL_drafts_950 (lv_at hl 4 rfl) ?_
                                obtain ⟨h87, hf⟩ := gd_e hf
                                obtain ⟨z86, C88, hz86, hf⟩ := cb2_e hf
                                refine tW (As := [.ref x0, .int z84, .int z33, .int z35]) (rest := []) hAB hC (v_change hfl hz86) qw_change a_562 ⟨Nat.le_of_ble_eq_true rfl, Nat.le_of_ble_eq_true rfl⟩ hX (fun q hq => hAs q (Nat.le_trans hS.1 hq)) hKX hTX hNX rfl hl.1 (Nat.le_of_ble_eq_true rfl) dL_drafts_952 ⟨Nat.mul_le_mul_left 20 h87, Nat.mul_le_mul_left 200 h87⟩ hS (fun _ z => z) (fun H locs hX hS => ?_)
                                obtain ⟨S89, eS89, hf⟩ := lt_e hf
                                rw [← eS89] at hX ⊢
                                refine lv_iload hx hb dL_drafts_955 (lv_at hl 5 rfl) ?_
                                obtain ⟨h91, hf⟩ := gd_e hf
                                obtain ⟨z90, hz90, hf⟩ := cb_e hf
                                refine tSi (As := [.int (x27 + ((z35 - z61) * z63))]) (rest := [.int z86]) hAB hC (c_l_number La_a hz90) q_l_number a_578 ⟨Nat.le_of_ble_eq_true rfl, Nat.le_of_ble_eq_true rfl⟩ hX hKX rfl hl.1 (Nat.le_of_ble_eq_true rfl) dL_drafts_957 ⟨Nat.mul_le_mul_left 20 h91, Nat.mul_le_mul_left 200 h91⟩ hS (fun _ z => z) (fun H locs hX hS => ?_)
                                change ZX D cA A B x0 ad S89 H at hX
                                change W p l e (RM 21 (20 * 16) (200 * 16)) s m args below meth c H locs (20 * S89.2.2) (200 * S89.2.2) (MQ below (CtQ (AB A B) (some (.int r)) (ZX D cA A B x0 ad T')) args s (20 * 16) (200 * 16) (AB A B)) (F0 m 960 ls [.int z90, .int z86])
                                refine lv_icmp_ne (tgt := 967) hx hb dL_drafts_960 (by decide) (fun c92 => ?_) (fun c92 => ?_)
                                · have hf := it_f c92 hf
                                  refine lv_iconst (v := 0) hx hb dL_drafts_967 (by decide) ?_
                                  obtain ⟨h93, hf⟩ := gd_e hf
                                  cases hf
                                  exact CtT_rz hx hb hr hlk nz0 hX hS (Nat.mul_le_mul_left 20 h93) (Nat.mul_le_mul_left 200 h93) dL_drafts_968
                                · have hf := it_t c92 hf
                                  refine lv_iconst (v := 1) hx hb dL_drafts_963 (by decide) ?_
                                  refine lv_goto (tgt := 968) hx hb dL_drafts_964 (by decide) ?_
                                  obtain ⟨h94, hf⟩ := gd_e hf
                                  cases hf
                                  exact CtT_rz hx hb hr hlk nz1 hX hS (Nat.mul_le_mul_left 20 h94) (Nat.mul_le_mul_left 200 h94) dL_drafts_968
                              refine lv_icmp_eq (tgt := 922) hx hb dL_drafts_881 (by decide) (fun c95 => ?_) (fun c95 => ?_)
                              · have hf := it_t c95 hf
                                exact Jk78 _ _ _ hX hS (lv_sub hl [3, 6, 8, 2, 1, 0] rfl) hf
                              · have hf := it_f c95 hf
                                refine lv_aload hx hb dL_drafts_884 (lv_at hl 6 rfl) ?_
                                refine lv_iconst (v := 3) hx hb dL_drafts_886 (by decide) ?_
                                obtain ⟨h97, j96, ej96, hf⟩ := rd_e hf
                                refine tald hx hb hKX.1 hX (by decide) h97 ej96 dL_drafts_887 ?_
                                refine lv_iload hx hb dL_drafts_888 (lv_at hl 0 rfl) ?_
                                refine lv_ishr hx hb dL_drafts_890 ?_
                                refine lv_iconst (v := 1) hx hb dL_drafts_891 (by decide) ?_
                                refine lv_iand hx hb dL_drafts_892 ?_
                                refine lv_iconst (v := 1) hx hb dL_drafts_893 (by decide) ?_
                                refine lv_icmp_ne (tgt := 922) hx hb dL_drafts_894 (by decide) (fun c98 => ?_) (fun c98 => ?_)
                                · have hf := it_f c98 hf
                                  exact Jk78 _ _ _ hX hS (lv_sub hl [3, 6, 8, 2, 1, 0] rfl) hf
                                · have hf := it_t c98 hf
                                  exact Jk67 _ _ _ hX hS (lv_sub hl [3, 8, 2, 1] rfl) hf
                          · have hf := it_t c60 hf
                            refine lv_aload_n hx hb dL_drafts_819 rfl (lv_at hl 2 rfl) ?_
                            refine lv_iload hx hb dL_drafts_820 (lv_at hl 7 rfl) ?_
                            obtain ⟨h100, hf⟩ := gd_e hf
                            obtain ⟨z99, hz99, hf⟩ := cb_e hf
                            refine tSi (As := [.int x27]) (rest := [.ref x0]) hAB hC (c_l_number La_a hz99) q_l_number a_578 ⟨Nat.le_of_ble_eq_true rfl, Nat.le_of_ble_eq_true rfl⟩ hX hKX rfl hl.1 (Nat.le_of_ble_eq_true rfl) dL_drafts_822 ⟨Nat.mul_le_mul_left 20 h100, Nat.mul_le_mul_left 200 h100⟩ hS (fun _ z => z) (fun H locs hX hS => ?_)
                            change ZX D cA A B x0 ad S58 H at hX
                            change W p l e (RM 21 (20 * 16) (200 * 16)) s m args below meth c H locs (20 * S58.2.2) (200 * S58.2.2) (MQ below (CtQ (AB A B) (some (.int r)) (ZX D cA A B x0 ad T')) args s (20 * 16) (200 * 16) (AB A B)) (F0 m 825 ls [.int z99, .ref x0])
                            refine lv_iload hx hb dL_drafts_825 (lv_at hl 1 rfl) ?_
                            refine lv_iload hx hb dL_drafts_827 (lv_at hl 0 rfl) ?_
                            obtain ⟨h102, hf⟩ := gd_e hf
                            obtain ⟨z101, C103, hz101, hf⟩ := cb2_e hf
                            refine tW (As := [.ref x0, .int z99, .int z33, .int z35]) (rest := []) hAB hC (v_change hfl hz101) qw_change a_562 ⟨Nat.le_of_ble_eq_true rfl, Nat.le_of_ble_eq_true rfl⟩ hX (fun q hq => hAs q (Nat.le_trans hS.1 hq)) hKX hTX hNX rfl hl.1 (Nat.le_of_ble_eq_true rfl) dL_drafts_829 ⟨Nat.mul_le_mul_left 20 h102, Nat.mul_le_mul_left 200 h102⟩ hS (fun _ z => z) (fun H locs hX hS => ?_)
                            obtain ⟨S104, eS104, hf⟩ := lt_e hf
                            rw [← eS104] at hX ⊢
                            refine lv_sipush (v := (-7200)) hx hb dL_drafts_832 (by decide) ?_
                            refine lv_icmp_ne (tgt := 842) hx hb dL_drafts_835 (by decide) (fun c105 => ?_) (fun c105 => ?_)
                            · have hf := it_f c105 hf
                              refine lv_iconst (v := 0) hx hb dL_drafts_842 (by decide) ?_
                              obtain ⟨h106, hf⟩ := gd_e hf
                              cases hf
                              exact CtT_rz hx hb hr hlk nz0 hX hS (Nat.mul_le_mul_left 20 h106) (Nat.mul_le_mul_left 200 h106) dL_drafts_843
                            · have hf := it_t c105 hf
                              refine lv_iconst (v := 1) hx hb dL_drafts_838 (by decide) ?_
                              refine lv_goto (tgt := 843) hx hb dL_drafts_839 (by decide) ?_
                              obtain ⟨h107, hf⟩ := gd_e hf
                              cases hf
                              exact CtT_rz hx hb hr hlk nz1 hX hS (Nat.mul_le_mul_left 20 h107) (Nat.mul_le_mul_left 200 h107) dL_drafts_843
                        · have hf := it_f c59 hf
                          refine lv_iconst (v := 0) hx hb dL_drafts_807 (by decide) ?_
                          obtain ⟨h108, hf⟩ := gd_e hf
                          cases hf
                          exact CtT_rz hx hb hr hlk nz0 hX hS (Nat.mul_le_mul_left 20 h108) (Nat.mul_le_mul_left 200 h108) dL_drafts_808
                  · have hf := it_t c32 hf
                    refine lv_aload hx hb dL_drafts_662 (lv_at hl 3 rfl) ?_
                    refine lv_iconst (v := 3) hx hb dL_drafts_664 (by decide) ?_
                    obtain ⟨h110, j109, ej109, hf⟩ := rd_e hf
                    refine tald hx hb hKX.1 hX (by decide) h110 ej109 dL_drafts_665 ?_
                    refine lv_iload hx hb dL_drafts_666 (lv_at hl 5 rfl) ?_
                    refine lv_ishr hx hb dL_drafts_668 ?_
                    refine lv_iconst (v := 1) hx hb dL_drafts_669 (by decide) ?_
                    refine lv_iand hx hb dL_drafts_670 ?_
                    refine lv_if_ne (tgt := 695) hx hb dL_drafts_671 (by decide) (fun c111 => ?_) (fun c111 => ?_)
                    · have hf := it_f c111 hf
                      refine lv_aload hx hb dL_drafts_695 (lv_at hl 3 rfl) ?_
                      refine lv_iconst (v := 3) hx hb dL_drafts_697 (by decide) ?_
                      refine lv_dup2_11 hx hb dL_drafts_698 rfl rfl ?_
                      obtain ⟨h113, j112, ej112, hf⟩ := rd_e hf
                      refine tald hx hb hKX.1 hX (by decide) h113 ej112 dL_drafts_699 ?_
                      refine lv_iconst (v := 1) hx hb dL_drafts_700 (by decide) ?_
                      refine lv_iload hx hb dL_drafts_701 (lv_at hl 5 rfl) ?_
                      refine lv_ishl hx hb dL_drafts_703 ?_
                      refine lv_iconst (v := (-1)) hx hb dL_drafts_704 (by decide) ?_
                      refine lv_ixor hx hb dL_drafts_705 ?_
                      refine lv_iand hx hb dL_drafts_706 ?_
                      obtain ⟨h115, j114, ej114, hf⟩ := rd_e hf
                      refine tasv hx hb hAB hKX.1 hX hS (by decide) h115 ej114 dL_drafts_707 (fun H locs hX hS => ?_)
                      obtain ⟨S116, eS116, hf⟩ := lt_e hf
                      rw [← eS116] at hX ⊢
                      refine lv_aload_n hx hb dL_drafts_708 rfl (lv_at hl 0 rfl) ?_
                      refine lv_iload hx hb dL_drafts_709 (lv_at hl 5 rfl) ?_
                      obtain ⟨h118, hf⟩ := gd_e hf
                      obtain ⟨z117, hz117, hf⟩ := cb_e hf
                      refine tSi (As := [.int x27]) (rest := [.ref x0]) hAB hC (c_l_number La_a hz117) q_l_number a_578 ⟨Nat.le_of_ble_eq_true rfl, Nat.le_of_ble_eq_true rfl⟩ hX hKX rfl hl.1 (Nat.le_of_ble_eq_true rfl) dL_drafts_711 ⟨Nat.mul_le_mul_left 20 h118, Nat.mul_le_mul_left 200 h118⟩ hS (fun _ z => z) (fun H locs hX hS => ?_)
                      change ZX D cA A B x0 ad S116 H at hX
                      change W p l e (RM 21 (20 * 16) (200 * 16)) s m args below meth c H locs (20 * S116.2.2) (200 * S116.2.2) (MQ below (CtQ (AB A B) (some (.int r)) (ZX D cA A B x0 ad T')) args s (20 * 16) (200 * 16) (AB A B)) (F0 m 714 ls [.int z117, .ref x0])
                      obtain ⟨h120, hf⟩ := gd_e hf
                      obtain ⟨z119, C121, hz119, hf⟩ := cb2_e hf
                      refine tW (As := [.ref x0, .int z117]) (rest := []) hAB hC (v_takeOut hfl hz119) qw_takeOut a_534 ⟨Nat.le_of_ble_eq_true rfl, Nat.le_of_ble_eq_true rfl⟩ hX (fun q hq => hAs q (Nat.le_trans hS.1 hq)) hKX hTX hNX rfl hl.1 (Nat.le_of_ble_eq_true rfl) dL_drafts_714 ⟨Nat.mul_le_mul_left 20 h120, Nat.mul_le_mul_left 200 h120⟩ hS (fun _ z => z) (fun H locs hX hS => ?_)
                      obtain ⟨S122, eS122, hf⟩ := lt_e hf
                      rw [← eS122] at hX ⊢
                      refine lv_aload hx hb dL_drafts_717 (lv_at hl 3 rfl) ?_
                      refine lv_iconst (v := 3) hx hb dL_drafts_719 (by decide) ?_
                      obtain ⟨h124, j123, ej123, hf⟩ := rd_e hf
                      refine tald hx hb hKX.1 hX (by decide) h124 ej123 dL_drafts_720 ?_
                      obtain ⟨h126, hf⟩ := gd_e hf
                      obtain ⟨z125, hz125, hf⟩ := cb_e hf
                      refine tSi (As := [.int (S122.2.1 6 j123)]) (rest := [.int z119]) hAB hC (c_l_count La_a hz125) q_l_count a_617 ⟨Nat.le_of_ble_eq_true rfl, Nat.le_of_ble_eq_true rfl⟩ hX hKX rfl hl.1 (Nat.le_of_ble_eq_true rfl) dL_drafts_721 ⟨Nat.mul_le_mul_left 20 h126, Nat.mul_le_mul_left 200 h126⟩ hS (fun _ z => z) (fun H locs hX hS => ?_)
                      change ZX D cA A B x0 ad S122 H at hX
                      change W p l e (RM 21 (20 * 16) (200 * 16)) s m args below meth c H locs (20 * S122.2.2) (200 * S122.2.2) (MQ below (CtQ (AB A B) (some (.int r)) (ZX D cA A B x0 ad T')) args s (20 * 16) (200 * 16) (AB A B)) (F0 m 724 ls [.int z125, .int z119])
                      refine lv_icmp_ne (tgt := 731) hx hb dL_drafts_724 (by decide) (fun c127 => ?_) (fun c127 => ?_)
                      · have hf := it_f c127 hf
                        refine lv_iconst (v := 0) hx hb dL_drafts_731 (by decide) ?_
                        obtain ⟨h128, hf⟩ := gd_e hf
                        cases hf
                        exact CtT_rz hx hb hr hlk nz0 hX hS (Nat.mul_le_mul_left 20 h128) (Nat.mul_le_mul_left 200 h128) dL_drafts_732
                      · have hf := it_t c127 hf
                        refine lv_iconst (v := 1) hx hb dL_drafts_727 (by decide) ?_
                        refine lv_goto (tgt := 732) hx hb dL_drafts_728 (by decide) ?_
                        obtain ⟨h129, hf⟩ := gd_e hf
                        cases hf
                        exact CtT_rz hx hb hr hlk nz1 hX hS (Nat.mul_le_mul_left 20 h129) (Nat.mul_le_mul_left 200 h129) dL_drafts_732
                    · have hf := it_t c111 hf
                      refine lv_aload_n hx hb dL_drafts_674 rfl (lv_at hl 0 rfl) ?_
                      refine lv_iload hx hb dL_drafts_675 (lv_at hl 5 rfl) ?_
                      obtain ⟨h131, hf⟩ := gd_e hf
                      obtain ⟨z130, hz130, hf⟩ := cb_e hf
                      refine tSi (As := [.int x27]) (rest := [.ref x0]) hAB hC (c_l_number La_a hz130) q_l_number a_578 ⟨Nat.le_of_ble_eq_true rfl, Nat.le_of_ble_eq_true rfl⟩ hX hKX rfl hl.1 (Nat.le_of_ble_eq_true rfl) dL_drafts_677 ⟨Nat.mul_le_mul_left 20 h131, Nat.mul_le_mul_left 200 h131⟩ hS (fun _ z => z) (fun H locs hX hS => ?_)
                      change ZX D cA A B x0 ad T H at hX
                      change W p l e (RM 21 (20 * 16) (200 * 16)) s m args below meth c H locs (20 * T.2.2) (200 * T.2.2) (MQ below (CtQ (AB A B) (some (.int r)) (ZX D cA A B x0 ad T')) args s (20 * 16) (200 * 16) (AB A B)) (F0 m 680 ls [.int z130, .ref x0])
                      obtain ⟨h133, hf⟩ := gd_e hf
                      obtain ⟨z132, C134, hz132, hf⟩ := cb2_e hf
                      refine tW (As := [.ref x0, .int z130]) (rest := []) hAB hC (v_takeOut hfl hz132) qw_takeOut a_534 ⟨Nat.le_of_ble_eq_true rfl, Nat.le_of_ble_eq_true rfl⟩ hX (fun q hq => hAs q (Nat.le_trans hS.1 hq)) hKX hTX hNX rfl hl.1 (Nat.le_of_ble_eq_true rfl) dL_drafts_680 ⟨Nat.mul_le_mul_left 20 h133, Nat.mul_le_mul_left 200 h133⟩ hS (fun _ z => z) (fun H locs hX hS => ?_)
                      obtain ⟨S135, eS135, hf⟩ := lt_e hf
                      rw [← eS135] at hX ⊢
                      refine lv_sipush (v := (-7400)) hx hb dL_drafts_683 (by decide) ?_
                      refine lv_icmp_ne (tgt := 693) hx hb dL_drafts_686 (by decide) (fun c136 => ?_) (fun c136 => ?_)
                      · have hf := it_f c136 hf
                        refine lv_iconst (v := 0) hx hb dL_drafts_693 (by decide) ?_
                        obtain ⟨h137, hf⟩ := gd_e hf
                        cases hf
                        exact CtT_rz hx hb hr hlk nz0 hX hS (Nat.mul_le_mul_left 20 h137) (Nat.mul_le_mul_left 200 h137) dL_drafts_694
                      · have hf := it_t c136 hf
                        refine lv_iconst (v := 1) hx hb dL_drafts_689 (by decide) ?_
                        refine lv_goto (tgt := 694) hx hb dL_drafts_690 (by decide) ?_
                        obtain ⟨h138, hf⟩ := gd_e hf
                        cases hf
                        exact CtT_rz hx hb hr hlk nz1 hX hS (Nat.mul_le_mul_left 20 h138) (Nat.mul_le_mul_left 200 h138) dL_drafts_694
                · have hf := it_t c31 hf
                  refine lv_aload hx hb dL_drafts_539 (lv_at hl 3 rfl) ?_
                  refine lv_iconst (v := 3) hx hb dL_drafts_541 (by decide) ?_
                  obtain ⟨h140, j139, ej139, hf⟩ := rd_e hf
                  refine tald hx hb hKX.1 hX (by decide) h140 ej139 dL_drafts_542 ?_
                  refine lv_iload hx hb dL_drafts_543 (lv_at hl 5 rfl) ?_
                  refine lv_ishr hx hb dL_drafts_545 ?_
                  refine lv_iconst (v := 1) hx hb dL_drafts_546 (by decide) ?_
                  refine lv_iand hx hb dL_drafts_547 ?_
                  refine lv_iconst (v := 1) hx hb dL_drafts_548 (by decide) ?_
                  obtain ⟨k141, hk141, hf⟩ := jn0_e hf
                  have Jk141 : ∀  (H : Heap) (locs : List Loc) (ls : Array Slot), ZX D cA A B x0 ad T H → va_S (AB A B) s.heap H locs → lv_has ls 16 [(0, .ref x0), (12, .int x27)] → k141 = some (r, T') → W p l e (RM 21 (20 * 16) (200 * 16)) s m args below meth c H locs (20 * T.2.2) (200 * T.2.2) (MQ below (CtQ (AB A B) (some (.int r)) (ZX D cA A B x0 ad T')) args s (20 * 16) (200 * 16) (AB A B)) (F0 m 564 ls []) := by
                    intro  H locs ls hX hS hl hf
                    rw [hk141] at hf
                    refine lv_aload_n hx hb dL_drafts_564 rfl (lv_at hl 0 rfl) ?_
                    refine lv_iload hx hb dL_drafts_565 (lv_at hl 1 rfl) ?_
                    obtain ⟨h143, hf⟩ := gd_e hf
                    obtain ⟨z142, hz142, hf⟩ := cb_e hf
                    refine tSi (As := [.int x27]) (rest := [.ref x0]) hAB hC (c_l_number La_a hz142) q_l_number a_578 ⟨Nat.le_of_ble_eq_true rfl, Nat.le_of_ble_eq_true rfl⟩ hX hKX rfl hl.1 (Nat.le_of_ble_eq_true rfl) dL_drafts_567 ⟨Nat.mul_le_mul_left 20 h143, Nat.mul_le_mul_left 200 h143⟩ hS (fun _ z => z) (fun H locs hX hS => ?_)
                    change ZX D cA A B x0 ad T H at hX
                    change W p l e (RM 21 (20 * 16) (200 * 16)) s m args below meth c H locs (20 * T.2.2) (200 * T.2.2) (MQ below (CtQ (AB A B) (some (.int r)) (ZX D cA A B x0 ad T')) args s (20 * 16) (200 * 16) (AB A B)) (F0 m 570 ls [.int z142, .ref x0])
                    obtain ⟨h145, hf⟩ := gd_e hf
                    obtain ⟨z144, C146, hz144, hf⟩ := cb2_e hf
                    refine tW (As := [.ref x0, .int z142]) (rest := []) hAB hC (v_add hfl hz144) qw_add a_517 ⟨Nat.le_of_ble_eq_true rfl, Nat.le_of_ble_eq_true rfl⟩ hX (fun q hq => hAs q (Nat.le_trans hS.1 hq)) hKX hTX hNX rfl hl.1 (Nat.le_of_ble_eq_true rfl) dL_drafts_570 ⟨Nat.mul_le_mul_left 20 h145, Nat.mul_le_mul_left 200 h145⟩ hS (fun _ z => z) (fun H locs hX hS => ?_)
                    obtain ⟨S147, eS147, hf⟩ := lt_e hf
                    rw [← eS147] at hX ⊢
                    refine lv_sipush (v := (-7300)) hx hb dL_drafts_573 (by decide) ?_
                    refine lv_icmp_ne (tgt := 583) hx hb dL_drafts_576 (by decide) (fun c148 => ?_) (fun c148 => ?_)
                    · have hf := it_f c148 hf
                      refine lv_iconst (v := 0) hx hb dL_drafts_583 (by decide) ?_
                      obtain ⟨h149, hf⟩ := gd_e hf
                      cases hf
                      exact CtT_rz hx hb hr hlk nz0 hX hS (Nat.mul_le_mul_left 20 h149) (Nat.mul_le_mul_left 200 h149) dL_drafts_584
                    · have hf := it_t c148 hf
                      refine lv_iconst (v := 1) hx hb dL_drafts_579 (by decide) ?_
                      refine lv_goto (tgt := 584) hx hb dL_drafts_580 (by decide) ?_
                      obtain ⟨h150, hf⟩ := gd_e hf
                      cases hf
                      exact CtT_rz hx hb hr hlk nz1 hX hS (Nat.mul_le_mul_left 20 h150) (Nat.mul_le_mul_left 200 h150) dL_drafts_584
                  refine lv_icmp_eq (tgt := 564) hx hb dL_drafts_549 (by decide) (fun c151 => ?_) (fun c151 => ?_)
                  · have hf := it_t c151 hf
                    exact Jk141 _ _ _ hX hS (lv_sub hl [0, 5] rfl) hf
                  · have hf := it_f c151 hf
                    refine lv_aload hx hb dL_drafts_552 (lv_at hl 3 rfl) ?_
                    refine lv_iconst (v := 3) hx hb dL_drafts_554 (by decide) ?_
                    obtain ⟨h153, j152, ej152, hf⟩ := rd_e hf
                    refine tald hx hb hKX.1 hX (by decide) h153 ej152 dL_drafts_555 ?_
                    obtain ⟨h155, hf⟩ := gd_e hf
                    obtain ⟨z154, hz154, hf⟩ := cb_e hf
                    refine tSi (As := [.int (T.2.1 6 j152)]) (rest := []) hAB hC (c_l_count La_a hz154) q_l_count a_617 ⟨Nat.le_of_ble_eq_true rfl, Nat.le_of_ble_eq_true rfl⟩ hX hKX rfl hl.1 (Nat.le_of_ble_eq_true rfl) dL_drafts_556 ⟨Nat.mul_le_mul_left 20 h155, Nat.mul_le_mul_left 200 h155⟩ hS (fun _ z => z) (fun H locs hX hS => ?_)
                    change ZX D cA A B x0 ad T H at hX
                    change W p l e (RM 21 (20 * 16) (200 * 16)) s m args below meth c H locs (20 * T.2.2) (200 * T.2.2) (MQ below (CtQ (AB A B) (some (.int r)) (ZX D cA A B x0 ad T')) args s (20 * 16) (200 * 16) (AB A B)) (F0 m 559 ls [.int z154])
                    refine lv_bipush (v := 20) hx hb dL_drafts_559 (by decide) ?_
                    refine lv_icmp_ne (tgt := 585) hx hb dL_drafts_561 (by decide) (fun c156 => ?_) (fun c156 => ?_)
                    · have hf := it_f c156 hf
                      refine lv_aload hx hb dL_drafts_585 (lv_at hl 3 rfl) ?_
                      refine lv_iconst (v := 3) hx hb dL_drafts_587 (by decide) ?_
                      refine lv_dup2_11 hx hb dL_drafts_588 rfl rfl ?_
                      obtain ⟨h158, j157, ej157, hf⟩ := rd_e hf
                      refine tald hx hb hKX.1 hX (by decide) h158 ej157 dL_drafts_589 ?_
                      refine lv_iconst (v := 1) hx hb dL_drafts_590 (by decide) ?_
                      refine lv_iload hx hb dL_drafts_591 (lv_at hl 5 rfl) ?_
                      refine lv_ishl hx hb dL_drafts_593 ?_
                      refine lv_ior hx hb dL_drafts_594 ?_
                      obtain ⟨h160, j159, ej159, hf⟩ := rd_e hf
                      refine tasv hx hb hAB hKX.1 hX hS (by decide) h160 ej159 dL_drafts_595 (fun H locs hX hS => ?_)
                      obtain ⟨S161, eS161, hf⟩ := lt_e hf
                      rw [← eS161] at hX ⊢
                      refine lv_aload_n hx hb dL_drafts_596 rfl (lv_at hl 0 rfl) ?_
                      refine lv_ldc (v := 1000000) hx hb hC.2.2.2.1 (tA hC.2.2.2.2 a_955) dL_drafts_597 ?_
                      obtain ⟨h163, hf⟩ := gd_e hf
                      obtain ⟨z162, C164, hz162, hf⟩ := cb2_e hf
                      refine tW (As := [.ref x0, .int 1000000]) (rest := []) hAB hC (v_add hfl hz162) qw_add a_517 ⟨Nat.le_of_ble_eq_true rfl, Nat.le_of_ble_eq_true rfl⟩ hX (fun q hq => hAs q (Nat.le_trans hS.1 hq)) hKX hTX hNX rfl hl.1 (Nat.le_of_ble_eq_true rfl) dL_drafts_599 ⟨Nat.mul_le_mul_left 20 h163, Nat.mul_le_mul_left 200 h163⟩ hS (fun _ z => z) (fun H locs hX hS => ?_)
                      obtain ⟨S165, eS165, hf⟩ := lt_e hf
                      rw [← eS165] at hX ⊢
                      refine lv_sipush (v := (-7200)) hx hb dL_drafts_602 (by decide) ?_
                      refine lv_icmp_ne (tgt := 655) hx hb dL_drafts_605 (by decide) (fun c166 => ?_) (fun c166 => ?_)
                      · have hf := it_f c166 hf
                        refine lv_iconst (v := 0) hx hb dL_drafts_655 (by decide) ?_
                        obtain ⟨h167, hf⟩ := gd_e hf
                        cases hf
                        exact CtT_rz hx hb hr hlk nz0 hX hS (Nat.mul_le_mul_left 20 h167) (Nat.mul_le_mul_left 200 h167) dL_drafts_656
                      · have hf := it_t c166 hf
                        refine lv_aload_n hx hb dL_drafts_608 rfl (lv_at hl 0 rfl) ?_
                        refine lv_iconst (v := (-1)) hx hb dL_drafts_609 (by decide) ?_
                        obtain ⟨h169, hf⟩ := gd_e hf
                        obtain ⟨z168, C170, hz168, hf⟩ := cb2_e hf
                        refine tW (As := [.ref x0, .int (-1)]) (rest := []) hAB hC (v_add hfl hz168) qw_add a_517 ⟨Nat.le_of_ble_eq_true rfl, Nat.le_of_ble_eq_true rfl⟩ hX (fun q hq => hAs q (Nat.le_trans hS.1 hq)) hKX hTX hNX rfl hl.1 (Nat.le_of_ble_eq_true rfl) dL_drafts_610 ⟨Nat.mul_le_mul_left 20 h169, Nat.mul_le_mul_left 200 h169⟩ hS (fun _ z => z) (fun H locs hX hS => ?_)
                        obtain ⟨S171, eS171, hf⟩ := lt_e hf
                        rw [← eS171] at hX ⊢
                        refine lv_sipush (v := (-7200)) hx hb dL_drafts_613 (by decide) ?_
                        refine lv_icmp_ne (tgt := 655) hx hb dL_drafts_616 (by decide) (fun c172 => ?_) (fun c172 => ?_)
                        · have hf := it_f c172 hf
                          refine lv_iconst (v := 0) hx hb dL_drafts_655 (by decide) ?_
                          obtain ⟨h173, hf⟩ := gd_e hf
                          cases hf
                          exact CtT_rz hx hb hr hlk nz0 hX hS (Nat.mul_le_mul_left 20 h173) (Nat.mul_le_mul_left 200 h173) dL_drafts_656
                        · have hf := it_t c172 hf
                          refine lv_aload_n hx hb dL_drafts_619 rfl (lv_at hl 0 rfl) ?_
                          refine lv_sipush (v := 1000) hx hb dL_drafts_620 (by decide) ?_
                          obtain ⟨h175, hf⟩ := gd_e hf
                          obtain ⟨z174, C176, hz174, hf⟩ := cb2_e hf
                          refine tW (As := [.ref x0, .int 1000]) (rest := []) hAB hC (v_add hfl hz174) qw_add a_517 ⟨Nat.le_of_ble_eq_true rfl, Nat.le_of_ble_eq_true rfl⟩ hX (fun q hq => hAs q (Nat.le_trans hS.1 hq)) hKX hTX hNX rfl hl.1 (Nat.le_of_ble_eq_true rfl) dL_drafts_623 ⟨Nat.mul_le_mul_left 20 h175, Nat.mul_le_mul_left 200 h175⟩ hS (fun _ z => z) (fun H locs hX hS => ?_)
                          obtain ⟨S177, eS177, hf⟩ := lt_e hf
                          rw [← eS177] at hX ⊢
                          refine lv_sipush (v := (-7200)) hx hb dL_drafts_626 (by decide) ?_
                          refine lv_icmp_ne (tgt := 655) hx hb dL_drafts_629 (by decide) (fun c178 => ?_) (fun c178 => ?_)
                          · have hf := it_f c178 hf
                            refine lv_iconst (v := 0) hx hb dL_drafts_655 (by decide) ?_
                            obtain ⟨h179, hf⟩ := gd_e hf
                            cases hf
                            exact CtT_rz hx hb hr hlk nz0 hX hS (Nat.mul_le_mul_left 20 h179) (Nat.mul_le_mul_left 200 h179) dL_drafts_656
                          · have hf := it_t c178 hf
                            refine lv_aload_n hx hb dL_drafts_632 rfl (lv_at hl 0 rfl) ?_
                            refine lv_iload hx hb dL_drafts_633 (lv_at hl 5 rfl) ?_
                            obtain ⟨h181, hf⟩ := gd_e hf
                            obtain ⟨z180, hz180, hf⟩ := cb_e hf
                            refine tSi (As := [.int x27]) (rest := [.ref x0]) hAB hC (c_l_number La_a hz180) q_l_number a_578 ⟨Nat.le_of_ble_eq_true rfl, Nat.le_of_ble_eq_true rfl⟩ hX hKX rfl hl.1 (Nat.le_of_ble_eq_true rfl) dL_drafts_635 ⟨Nat.mul_le_mul_left 20 h181, Nat.mul_le_mul_left 200 h181⟩ hS (fun _ z => z) (fun H locs hX hS => ?_)
                            change ZX D cA A B x0 ad S177 H at hX
                            change W p l e (RM 21 (20 * 16) (200 * 16)) s m args below meth c H locs (20 * S177.2.2) (200 * S177.2.2) (MQ below (CtQ (AB A B) (some (.int r)) (ZX D cA A B x0 ad T')) args s (20 * 16) (200 * 16) (AB A B)) (F0 m 638 ls [.int z180, .ref x0])
                            obtain ⟨h183, hf⟩ := gd_e hf
                            obtain ⟨z182, C184, hz182, hf⟩ := cb2_e hf
                            refine tW (As := [.ref x0, .int z180]) (rest := []) hAB hC (v_add hfl hz182) qw_add a_517 ⟨Nat.le_of_ble_eq_true rfl, Nat.le_of_ble_eq_true rfl⟩ hX (fun q hq => hAs q (Nat.le_trans hS.1 hq)) hKX hTX hNX rfl hl.1 (Nat.le_of_ble_eq_true rfl) dL_drafts_638 ⟨Nat.mul_le_mul_left 20 h183, Nat.mul_le_mul_left 200 h183⟩ hS (fun _ z => z) (fun H locs hX hS => ?_)
                            obtain ⟨S185, eS185, hf⟩ := lt_e hf
                            rw [← eS185] at hX ⊢
                            refine lv_aload hx hb dL_drafts_641 (lv_at hl 3 rfl) ?_
                            refine lv_iconst (v := 3) hx hb dL_drafts_643 (by decide) ?_
                            obtain ⟨h187, j186, ej186, hf⟩ := rd_e hf
                            refine tald hx hb hKX.1 hX (by decide) h187 ej186 dL_drafts_644 ?_
                            obtain ⟨h189, hf⟩ := gd_e hf
                            obtain ⟨z188, hz188, hf⟩ := cb_e hf
                            refine tSi (As := [.int (S185.2.1 6 j186)]) (rest := [.int z182]) hAB hC (c_l_count La_a hz188) q_l_count a_617 ⟨Nat.le_of_ble_eq_true rfl, Nat.le_of_ble_eq_true rfl⟩ hX hKX rfl hl.1 (Nat.le_of_ble_eq_true rfl) dL_drafts_645 ⟨Nat.mul_le_mul_left 20 h189, Nat.mul_le_mul_left 200 h189⟩ hS (fun _ z => z) (fun H locs hX hS => ?_)
                            change ZX D cA A B x0 ad S185 H at hX
                            change W p l e (RM 21 (20 * 16) (200 * 16)) s m args below meth c H locs (20 * S185.2.2) (200 * S185.2.2) (MQ below (CtQ (AB A B) (some (.int r)) (ZX D cA A B x0 ad T')) args s (20 * 16) (200 * 16) (AB A B)) (F0 m 648 ls [.int z188, .int z182])
                            refine lv_icmp_ne (tgt := 655) hx hb dL_drafts_648 (by decide) (fun c190 => ?_) (fun c190 => ?_)
                            · have hf := it_f c190 hf
                              refine lv_iconst (v := 0) hx hb dL_drafts_655 (by decide) ?_
                              obtain ⟨h191, hf⟩ := gd_e hf
                              cases hf
                              exact CtT_rz hx hb hr hlk nz0 hX hS (Nat.mul_le_mul_left 20 h191) (Nat.mul_le_mul_left 200 h191) dL_drafts_656
                            · have hf := it_t c190 hf
                              refine lv_iconst (v := 1) hx hb dL_drafts_651 (by decide) ?_
                              refine lv_goto (tgt := 656) hx hb dL_drafts_652 (by decide) ?_
                              obtain ⟨h192, hf⟩ := gd_e hf
                              cases hf
                              exact CtT_rz hx hb hr hlk nz1 hX hS (Nat.mul_le_mul_left 20 h192) (Nat.mul_le_mul_left 200 h192) dL_drafts_656
                    · have hf := it_t c156 hf
                      exact Jk141 _ _ _ hX hS (lv_sub hl [0, 5] rfl) hf
              refine lv_icmp_ge (tgt := 534) hx hb dL_drafts_492 (by decide) (fun c193 => ?_) (fun c193 => ?_)
              · have hf := it_t c193 hf
                exact Jk30 _ _ _ hX hS (lv_sub hl [0, 1, 2, 3, 4, 5] rfl) hf
              · have hf := it_f c193 hf
                refine lv_iload_n hx hb dL_drafts_495 rfl (lv_at hl 1 rfl) ?_
                refine lv_iconst (v := 1) hx hb dL_drafts_496 (by decide) ?_
                refine lv_icmp_le (tgt := 534) hx hb dL_drafts_497 (by decide) (fun c194 => ?_) (fun c194 => ?_)
                · have hf := it_t c194 hf
                  exact Jk30 _ _ _ hX hS (lv_sub hl [0, 1, 2, 3, 4, 5] rfl) hf
                · have hf := it_f c194 hf
                  refine lv_iload_n hx hb dL_drafts_500 rfl (lv_at hl 2 rfl) ?_
                  refine lv_bipush (v := 24) hx hb dL_drafts_501 (by decide) ?_
                  refine lv_iand hx hb dL_drafts_503 ?_
                  refine lv_if_le (tgt := 534) hx hb dL_drafts_504 (by decide) (fun c195 => ?_) (fun c195 => ?_)
                  · have hf := it_t c195 hf
                    exact Jk30 _ _ _ hX hS (lv_sub hl [0, 1, 2, 3, 4, 5] rfl) hf
                  · have hf := it_f c195 hf
                    refine lv_aload hx hb dL_drafts_507 (lv_at hl 3 rfl) ?_
                    refine lv_iconst (v := 3) hx hb dL_drafts_509 (by decide) ?_
                    obtain ⟨h197, j196, ej196, hf⟩ := rd_e hf
                    refine tald hx hb hKX.1 hX (by decide) h197 ej196 dL_drafts_510 ?_
                    refine lv_iload hx hb dL_drafts_511 (lv_at hl 5 rfl) ?_
                    refine lv_ishr hx hb dL_drafts_513 ?_
                    refine lv_iconst (v := 1) hx hb dL_drafts_514 (by decide) ?_
                    refine lv_iand hx hb dL_drafts_515 ?_
                    refine lv_if_ne (tgt := 534) hx hb dL_drafts_516 (by decide) (fun c198 => ?_) (fun c198 => ?_)
                    · have hf := it_f c198 hf
                      exact Jk30 _ _ _ hX hS (lv_sub hl [0, 1, 2, 3, 4, 5] rfl) hf
                    · have hf := it_t c198 hf
                      refine lv_iload hx hb dL_drafts_519 (lv_at hl 5 rfl) ?_
                      refine lv_iconst (v := 1) hx hb dL_drafts_521 (by decide) ?_
                      refine lv_iadd hx hb dL_drafts_522 ?_
                      refine lv_bipush (v := 27) hx hb dL_drafts_523 (by decide) ?_
                      have h199 : ¬ (27 : Int32) = 0 := by decide
                      refine lv_irem hx hb dL_drafts_525 h199 ?_
                      refine lv_istore (lv' := [(12, .int ((x27 + 1) - (x27 + 1) / 27 * 27)), (0, .ref x0), (1, .int x2), (2, .int x3), (10, .ref (ad 6)), (11, .int z21), (13, .int x28)]) hx hb dL_drafts_526 hl (by decide) rfl (fun ls hl => ?_)
                      refine lv_iinc (v := (x28 + 1)) (lv' := [(13, .int (x28 + 1)), (12, .int ((x27 + 1) - (x27 + 1) / 27 * 27)), (0, .ref x0), (1, .int x2), (2, .int x3), (10, .ref (ad 6)), (11, .int z21)]) hx hb dL_drafts_528 hl (k := 6) rfl rfl (by decide) rfl (fun ls hl => ?_)
                      refine lv_goto (tgt := 488) hx hb dL_drafts_531 (by decide) ?_
                      exact ihg29 _ _ _ _ _ hX hS (lv_sub hl [2, 3, 4, 5, 6, 1, 0] rfl) hf
          exact Lg29 FU _ _ _ _ _ hX hS (lv_sub hl [3, 4, 5, 13, 2, 1, 0] rfl) hf
        · have hf := it_t c18 hf
          refine lv_aload_n hx hb dL_drafts_408 rfl (lv_at hl 0 rfl) ?_
          refine lv_iconst (v := 0) hx hb dL_drafts_409 (by decide) ?_
          obtain ⟨h201, hf⟩ := gd_e hf
          obtain ⟨z200, C202, hz200, hf⟩ := cb2_e hf
          refine tW (As := [.ref x0, .int 0]) (rest := []) hAB hC (v_add hfl hz200) qw_add a_517 ⟨Nat.le_of_ble_eq_true rfl, Nat.le_of_ble_eq_true rfl⟩ hX (fun q hq => hAs q (Nat.le_trans hS.1 hq)) hKX hTX hNX rfl hl.1 (Nat.le_of_ble_eq_true rfl) dL_drafts_410 ⟨Nat.mul_le_mul_left 20 h201, Nat.mul_le_mul_left 200 h201⟩ hS (fun _ z => z) (fun H locs hX hS => ?_)
          obtain ⟨S203, eS203, hf⟩ := lt_e hf
          rw [← eS203] at hX ⊢
          refine lv_sipush (v := (-7300)) hx hb dL_drafts_413 (by decide) ?_
          refine lv_icmp_ne (tgt := 457) hx hb dL_drafts_416 (by decide) (fun c204 => ?_) (fun c204 => ?_)
          · have hf := it_f c204 hf
            refine lv_iconst (v := 0) hx hb dL_drafts_457 (by decide) ?_
            obtain ⟨h205, hf⟩ := gd_e hf
            cases hf
            exact CtT_rz hx hb hr hlk nz0 hX hS (Nat.mul_le_mul_left 20 h205) (Nat.mul_le_mul_left 200 h205) dL_drafts_458
          · have hf := it_t c204 hf
            refine lv_aload_n hx hb dL_drafts_419 rfl (lv_at hl 0 rfl) ?_
            refine lv_iconst (v := 0) hx hb dL_drafts_420 (by decide) ?_
            obtain ⟨h207, hf⟩ := gd_e hf
            obtain ⟨z206, C208, hz206, hf⟩ := cb2_e hf
            refine tW (As := [.ref x0, .int 0]) (rest := []) hAB hC (v_takeOut hfl hz206) qw_takeOut a_534 ⟨Nat.le_of_ble_eq_true rfl, Nat.le_of_ble_eq_true rfl⟩ hX (fun q hq => hAs q (Nat.le_trans hS.1 hq)) hKX hTX hNX rfl hl.1 (Nat.le_of_ble_eq_true rfl) dL_drafts_421 ⟨Nat.mul_le_mul_left 20 h207, Nat.mul_le_mul_left 200 h207⟩ hS (fun _ z => z) (fun H locs hX hS => ?_)
            obtain ⟨S209, eS209, hf⟩ := lt_e hf
            rw [← eS209] at hX ⊢
            refine lv_sipush (v := (-7300)) hx hb dL_drafts_424 (by decide) ?_
            refine lv_icmp_ne (tgt := 457) hx hb dL_drafts_427 (by decide) (fun c210 => ?_) (fun c210 => ?_)
            · have hf := it_f c210 hf
              refine lv_iconst (v := 0) hx hb dL_drafts_457 (by decide) ?_
              obtain ⟨h211, hf⟩ := gd_e hf
              cases hf
              exact CtT_rz hx hb hr hlk nz0 hX hS (Nat.mul_le_mul_left 20 h211) (Nat.mul_le_mul_left 200 h211) dL_drafts_458
            · have hf := it_t c210 hf
              refine lv_aload_n hx hb dL_drafts_430 rfl (lv_at hl 0 rfl) ?_
              refine lv_iconst (v := 0) hx hb dL_drafts_431 (by decide) ?_
              refine lv_iconst (v := 0) hx hb dL_drafts_432 (by decide) ?_
              refine lv_iconst (v := 0) hx hb dL_drafts_433 (by decide) ?_
              obtain ⟨h213, hf⟩ := gd_e hf
              obtain ⟨z212, C214, hz212, hf⟩ := cb2_e hf
              refine tW (As := [.ref x0, .int 0, .int 0, .int 0]) (rest := []) hAB hC (v_change hfl hz212) qw_change a_562 ⟨Nat.le_of_ble_eq_true rfl, Nat.le_of_ble_eq_true rfl⟩ hX (fun q hq => hAs q (Nat.le_trans hS.1 hq)) hKX hTX hNX rfl hl.1 (Nat.le_of_ble_eq_true rfl) dL_drafts_434 ⟨Nat.mul_le_mul_left 20 h213, Nat.mul_le_mul_left 200 h213⟩ hS (fun _ z => z) (fun H locs hX hS => ?_)
              obtain ⟨S215, eS215, hf⟩ := lt_e hf
              rw [← eS215] at hX ⊢
              refine lv_sipush (v := (-7300)) hx hb dL_drafts_437 (by decide) ?_
              refine lv_icmp_ne (tgt := 457) hx hb dL_drafts_440 (by decide) (fun c216 => ?_) (fun c216 => ?_)
              · have hf := it_f c216 hf
                refine lv_iconst (v := 0) hx hb dL_drafts_457 (by decide) ?_
                obtain ⟨h217, hf⟩ := gd_e hf
                cases hf
                exact CtT_rz hx hb hr hlk nz0 hX hS (Nat.mul_le_mul_left 20 h217) (Nat.mul_le_mul_left 200 h217) dL_drafts_458
              · have hf := it_t c216 hf
                refine lv_aload_n hx hb dL_drafts_443 rfl (lv_at hl 0 rfl) ?_
                obtain ⟨h219, hf⟩ := gd_e hf
                obtain ⟨z218, C220, hz218, hf⟩ := cb2_e hf
                refine tW (As := [.ref x0]) (rest := []) hAB hC (v_putBack hfl hz218) qw_putBack a_959 ⟨Nat.le_of_ble_eq_true rfl, Nat.le_of_ble_eq_true rfl⟩ hX (fun q hq => hAs q (Nat.le_trans hS.1 hq)) hKX hTX hNX rfl hl.1 (Nat.le_of_ble_eq_true rfl) dL_drafts_444 ⟨Nat.mul_le_mul_left 20 h219, Nat.mul_le_mul_left 200 h219⟩ hS (fun _ z => z) (fun H locs hX hS => ?_)
                obtain ⟨S221, eS221, hf⟩ := lt_e hf
                rw [← eS221] at hX ⊢
                refine lv_sipush (v := (-7300)) hx hb dL_drafts_447 (by decide) ?_
                refine lv_icmp_ne (tgt := 457) hx hb dL_drafts_450 (by decide) (fun c222 => ?_) (fun c222 => ?_)
                · have hf := it_f c222 hf
                  refine lv_iconst (v := 0) hx hb dL_drafts_457 (by decide) ?_
                  obtain ⟨h223, hf⟩ := gd_e hf
                  cases hf
                  exact CtT_rz hx hb hr hlk nz0 hX hS (Nat.mul_le_mul_left 20 h223) (Nat.mul_le_mul_left 200 h223) dL_drafts_458
                · have hf := it_t c222 hf
                  refine lv_iconst (v := 1) hx hb dL_drafts_453 (by decide) ?_
                  refine lv_goto (tgt := 458) hx hb dL_drafts_454 (by decide) ?_
                  obtain ⟨h224, hf⟩ := gd_e hf
                  cases hf
                  exact CtT_rz hx hb hr hlk nz1 hX hS (Nat.mul_le_mul_left 20 h224) (Nat.mul_le_mul_left 200 h224) dL_drafts_458
      · have hf := it_t c15 hf
        refine lv_aload hx hb dL_drafts_315 (lv_at hl 10 rfl) ?_
        refine lv_bipush (v := 6) hx hb dL_drafts_317 (by decide) ?_
        obtain ⟨h226, j225, ej225, hf⟩ := rd_e hf
        refine tald hx hb hKX.1 hX (by decide) h226 ej225 dL_drafts_319 ?_
        refine lv_if_ne (tgt := 339) hx hb dL_drafts_320 (by decide) (fun c227 => ?_) (fun c227 => ?_)
        · have hf := it_f c227 hf
          refine lv_aload hx hb dL_drafts_339 (lv_at hl 10 rfl) ?_
          refine lv_bipush (v := 6) hx hb dL_drafts_341 (by decide) ?_
          refine lv_dup2_11 hx hb dL_drafts_343 rfl rfl ?_
          obtain ⟨h229, j228, ej228, hf⟩ := rd_e hf
          refine tald hx hb hKX.1 hX (by decide) h229 ej228 dL_drafts_344 ?_
          refine lv_iconst (v := 1) hx hb dL_drafts_345 (by decide) ?_
          refine lv_isub hx hb dL_drafts_346 ?_
          obtain ⟨h231, j230, ej230, hf⟩ := rd_e hf
          refine tasv hx hb hAB hKX.1 hX hS (by decide) h231 ej230 dL_drafts_347 (fun H locs hX hS => ?_)
          obtain ⟨S232, eS232, hf⟩ := lt_e hf
          rw [← eS232] at hX ⊢
          refine lv_iconst (v := 0) hx hb dL_drafts_348 (by decide) ?_
          refine lv_istore (lv' := [(11, .int 0), (0, .ref x0), (1, .int x2), (2, .int x3), (3, .int x4), (4, .ref (ad 0)), (5, .ref (ad 1)), (6, .ref (ad 2)), (7, .ref (ad 3)), (8, .ref (ad 4)), (9, .ref (ad 5)), (10, .ref (ad 6))]) hx hb dL_drafts_349 hl (by decide) rfl (fun ls hl => ?_)
          obtain ⟨g235, g2350, g235s, hf⟩ := lp2_e hf
          have Lg235 : ∀ (n : Nat) (x233 : Int32) (S234 : Tt) (H : Heap) (locs : List Loc) (ls : Array Slot), ZX D cA A B x0 ad S234 H → va_S (AB A B) s.heap H locs → lv_has ls 16 [(0, .ref x0), (4, .ref (ad 0)), (9, .ref (ad 5)), (10, .ref (ad 6)), (11, .int x233)] → g235 n x233 S234 = some (r, T') → W p l e (RM 21 (20 * 16) (200 * 16)) s m args below meth c H locs (20 * S234.2.2) (200 * S234.2.2) (MQ below (CtQ (AB A B) (some (.int r)) (ZX D cA A B x0 ad T')) args s (20 * 16) (200 * 16) (AB A B)) (F0 m 351 ls []) := by
            intro n
            induction n with
            | zero => intro x233 S234 H locs ls hX hS hl hf; rw [g2350] at hf; cases hf
            | succ n ihg235 =>
              intro x233 S234 H locs ls hX hS hl hf
              rw [g235s] at hf
              refine lv_iload hx hb dL_drafts_351 (lv_at hl 4 rfl) ?_
              refine lv_iconst (v := 3) hx hb dL_drafts_353 (by decide) ?_
              refine lv_icmp_ge (tgt := 383) hx hb dL_drafts_354 (by decide) (fun c236 => ?_) (fun c236 => ?_)
              · have hf := it_t c236 hf
                refine lv_aload_n hx hb dL_drafts_383 rfl (lv_at hl 0 rfl) ?_
                obtain ⟨h238, hf⟩ := gd_e hf
                obtain ⟨z237, C239, hz237, hf⟩ := cb2_e hf
                refine tW (As := [.ref x0]) (rest := []) hAB hC (v_undo hfl hz237) qw_undo a_981 ⟨Nat.le_of_ble_eq_true rfl, Nat.le_of_ble_eq_true rfl⟩ hX (fun q hq => hAs q (Nat.le_trans hS.1 hq)) hKX hTX hNX rfl hl.1 (Nat.le_of_ble_eq_true rfl) dL_drafts_384 ⟨Nat.mul_le_mul_left 20 h238, Nat.mul_le_mul_left 200 h238⟩ hS (fun _ z => z) (fun H locs hX hS => ?_)
                obtain ⟨S240, eS240, hf⟩ := lt_e hf
                rw [← eS240] at hX ⊢
                refine lv_aload hx hb dL_drafts_387 (lv_at hl 3 rfl) ?_
                refine lv_bipush (v := 6) hx hb dL_drafts_389 (by decide) ?_
                obtain ⟨h242, j241, ej241, hf⟩ := rd_e hf
                refine tald hx hb hKX.1 hX (by decide) h242 ej241 dL_drafts_391 ?_
                refine lv_icmp_ne (tgt := 399) hx hb dL_drafts_392 (by decide) (fun c243 => ?_) (fun c243 => ?_)
                · have hf := it_f c243 hf
                  refine lv_iconst (v := 0) hx hb dL_drafts_399 (by decide) ?_
                  obtain ⟨h244, hf⟩ := gd_e hf
                  cases hf
                  exact CtT_rz hx hb hr hlk nz0 hX hS (Nat.mul_le_mul_left 20 h244) (Nat.mul_le_mul_left 200 h244) dL_drafts_400
                · have hf := it_t c243 hf
                  refine lv_iconst (v := 1) hx hb dL_drafts_395 (by decide) ?_
                  refine lv_goto (tgt := 400) hx hb dL_drafts_396 (by decide) ?_
                  obtain ⟨h245, hf⟩ := gd_e hf
                  cases hf
                  exact CtT_rz hx hb hr hlk nz1 hX hS (Nat.mul_le_mul_left 20 h245) (Nat.mul_le_mul_left 200 h245) dL_drafts_400
              · have hf := it_f c236 hf
                refine lv_aload hx hb dL_drafts_357 (lv_at hl 1 rfl) ?_
                refine lv_iconst (v := 3) hx hb dL_drafts_359 (by decide) ?_
                refine lv_iload hx hb dL_drafts_360 (lv_at hl 4 rfl) ?_
                refine lv_iadd hx hb dL_drafts_362 ?_
                refine lv_aload hx hb dL_drafts_363 (lv_at hl 2 rfl) ?_
                refine lv_iconst (v := 3) hx hb dL_drafts_365 (by decide) ?_
                refine lv_aload hx hb dL_drafts_366 (lv_at hl 3 rfl) ?_
                refine lv_bipush (v := 6) hx hb dL_drafts_368 (by decide) ?_
                obtain ⟨h247, j246, ej246, hf⟩ := rd_e hf
                refine tald hx hb hKX.1 hX (by decide) h247 ej246 dL_drafts_370 ?_
                refine lv_imul hx hb dL_drafts_371 ?_
                refine lv_iload hx hb dL_drafts_372 (lv_at hl 4 rfl) ?_
                refine lv_iadd hx hb dL_drafts_374 ?_
                obtain ⟨h249, j248, ej248, hf⟩ := rd_e hf
                refine tald hx hb hKX.1 hX (by decide) h249 ej248 dL_drafts_375 ?_
                obtain ⟨h251, j250, ej250, hf⟩ := rd_e hf
                refine tasv hx hb hAB hKX.1 hX hS (by decide) h251 ej250 dL_drafts_376 (fun H locs hX hS => ?_)
                obtain ⟨S252, eS252, hf⟩ := lt_e hf
                rw [← eS252] at hX ⊢
                refine lv_iinc (v := (x233 + 1)) (lv' := [(11, .int (x233 + 1)), (0, .ref x0), (4, .ref (ad 0)), (9, .ref (ad 5)), (10, .ref (ad 6))]) hx hb dL_drafts_377 hl (k := 4) rfl rfl (by decide) rfl (fun ls hl => ?_)
                refine lv_goto (tgt := 351) hx hb dL_drafts_380 (by decide) ?_
                exact ihg235 _ _ _ _ _ hX hS (lv_sub hl [1, 2, 3, 4, 0] rfl) hf
          exact Lg235 FU _ _ _ _ _ hX hS (lv_sub hl [1, 5, 10, 11, 0] rfl) hf
        · have hf := it_t c227 hf
          refine lv_aload_n hx hb dL_drafts_323 rfl (lv_at hl 0 rfl) ?_
          obtain ⟨h254, hf⟩ := gd_e hf
          obtain ⟨z253, C255, hz253, hf⟩ := cb2_e hf
          refine tW (As := [.ref x0]) (rest := []) hAB hC (v_undo hfl hz253) qw_undo a_981 ⟨Nat.le_of_ble_eq_true rfl, Nat.le_of_ble_eq_true rfl⟩ hX (fun q hq => hAs q (Nat.le_trans hS.1 hq)) hKX hTX hNX rfl hl.1 (Nat.le_of_ble_eq_true rfl) dL_drafts_324 ⟨Nat.mul_le_mul_left 20 h254, Nat.mul_le_mul_left 200 h254⟩ hS (fun _ z => z) (fun H locs hX hS => ?_)
          obtain ⟨S256, eS256, hf⟩ := lt_e hf
          rw [← eS256] at hX ⊢
          refine lv_sipush (v := (-7300)) hx hb dL_drafts_327 (by decide) ?_
          refine lv_icmp_ne (tgt := 337) hx hb dL_drafts_330 (by decide) (fun c257 => ?_) (fun c257 => ?_)
          · have hf := it_f c257 hf
            refine lv_iconst (v := 0) hx hb dL_drafts_337 (by decide) ?_
            obtain ⟨h258, hf⟩ := gd_e hf
            cases hf
            exact CtT_rz hx hb hr hlk nz0 hX hS (Nat.mul_le_mul_left 20 h258) (Nat.mul_le_mul_left 200 h258) dL_drafts_338
          · have hf := it_t c257 hf
            refine lv_iconst (v := 1) hx hb dL_drafts_333 (by decide) ?_
            refine lv_goto (tgt := 338) hx hb dL_drafts_334 (by decide) ?_
            obtain ⟨h259, hf⟩ := gd_e hf
            cases hf
            exact CtT_rz hx hb hr hlk nz1 hX hS (Nat.mul_le_mul_left 20 h259) (Nat.mul_le_mul_left 200 h259) dL_drafts_338
    · have hf := it_t c14 hf
      refine lv_aload hx hb dL_drafts_76 (lv_at hl 10 rfl) ?_
      refine lv_iconst (v := 2) hx hb dL_drafts_78 (by decide) ?_
      obtain ⟨h261, j260, ej260, hf⟩ := rd_e hf
      refine tald hx hb hKX.1 hX (by decide) h261 ej260 dL_drafts_79 ?_
      obtain ⟨k263, hk263, hf⟩ := jn1_e hf
      have Jk263 : ∀ (S262 : Tt) (H : Heap) (locs : List Loc) (ls : Array Slot), ZX D cA A B x0 ad S262 H → va_S (AB A B) s.heap H locs → lv_has ls 16 [(0, .ref x0), (4, .ref (ad 0)), (5, .ref (ad 1)), (6, .ref (ad 2)), (8, .ref (ad 4)), (9, .ref (ad 5)), (10, .ref (ad 6))] → k263 S262 = some (r, T') → W p l e (RM 21 (20 * 16) (200 * 16)) s m args below meth c H locs (20 * S262.2.2) (200 * S262.2.2) (MQ below (CtQ (AB A B) (some (.int r)) (ZX D cA A B x0 ad T')) args s (20 * 16) (200 * 16) (AB A B)) (F0 m 98 ls []) := by
        intro S262 H locs ls hX hS hl hf
        rw [hk263] at hf
        refine lv_aload hx hb dL_drafts_98 (lv_at hl 6 rfl) ?_
        refine lv_iconst (v := 2) hx hb dL_drafts_100 (by decide) ?_
        obtain ⟨h265, j264, ej264, hf⟩ := rd_e hf
        refine tald hx hb hKX.1 hX (by decide) h265 ej264 dL_drafts_101 ?_
        obtain ⟨k266, hk266, hf⟩ := jn0_e hf
        have Jk266 : ∀  (H : Heap) (locs : List Loc) (ls : Array Slot), ZX D cA A B x0 ad S262 H → va_S (AB A B) s.heap H locs → lv_has ls 16 [(0, .ref x0)] → k266 = some (r, T') → W p l e (RM 21 (20 * 16) (200 * 16)) s m args below meth c H locs (20 * S262.2.2) (200 * S262.2.2) (MQ below (CtQ (AB A B) (some (.int r)) (ZX D cA A B x0 ad T')) args s (20 * 16) (200 * 16) (AB A B)) (F0 m 112 ls []) := by
          intro  H locs ls hX hS hl hf
          rw [hk266] at hf
          refine lv_aload_n hx hb dL_drafts_112 rfl (lv_at hl 0 rfl) ?_
          obtain ⟨h268, hf⟩ := gd_e hf
          obtain ⟨z267, C269, hz267, hf⟩ := cb2_e hf
          refine tW (As := [.ref x0]) (rest := []) hAB hC (v_putBack hfl hz267) qw_putBack a_959 ⟨Nat.le_of_ble_eq_true rfl, Nat.le_of_ble_eq_true rfl⟩ hX (fun q hq => hAs q (Nat.le_trans hS.1 hq)) hKX hTX hNX rfl hl.1 (Nat.le_of_ble_eq_true rfl) dL_drafts_113 ⟨Nat.mul_le_mul_left 20 h268, Nat.mul_le_mul_left 200 h268⟩ hS (fun _ z => z) (fun H locs hX hS => ?_)
          obtain ⟨S270, eS270, hf⟩ := lt_e hf
          rw [← eS270] at hX ⊢
          refine lv_sipush (v := (-7300)) hx hb dL_drafts_116 (by decide) ?_
          refine lv_icmp_ne (tgt := 126) hx hb dL_drafts_119 (by decide) (fun c271 => ?_) (fun c271 => ?_)
          · have hf := it_f c271 hf
            refine lv_iconst (v := 0) hx hb dL_drafts_126 (by decide) ?_
            obtain ⟨h272, hf⟩ := gd_e hf
            cases hf
            exact CtT_rz hx hb hr hlk nz0 hX hS (Nat.mul_le_mul_left 20 h272) (Nat.mul_le_mul_left 200 h272) dL_drafts_127
          · have hf := it_t c271 hf
            refine lv_iconst (v := 1) hx hb dL_drafts_122 (by decide) ?_
            refine lv_goto (tgt := 127) hx hb dL_drafts_123 (by decide) ?_
            obtain ⟨h273, hf⟩ := gd_e hf
            cases hf
            exact CtT_rz hx hb hr hlk nz1 hX hS (Nat.mul_le_mul_left 20 h273) (Nat.mul_le_mul_left 200 h273) dL_drafts_127
        refine lv_if_eq (tgt := 112) hx hb dL_drafts_102 (by decide) (fun c274 => ?_) (fun c274 => ?_)
        · have hf := it_t c274 hf
          exact Jk266 _ _ _ hX hS (lv_sub hl [0] rfl) hf
        · have hf := it_f c274 hf
          refine lv_aload hx hb dL_drafts_105 (lv_at hl 6 rfl) ?_
          refine lv_iconst (v := 4) hx hb dL_drafts_107 (by decide) ?_
          obtain ⟨h276, j275, ej275, hf⟩ := rd_e hf
          refine tald hx hb hKX.1 hX (by decide) h276 ej275 dL_drafts_108 ?_
          refine lv_if_le (tgt := 128) hx hb dL_drafts_109 (by decide) (fun c277 => ?_) (fun c277 => ?_)
          · have hf := it_t c277 hf
            refine lv_iconst (v := 0) hx hb dL_drafts_128 (by decide) ?_
            refine lv_istore (lv' := [(11, .int 0), (0, .ref x0), (4, .ref (ad 0)), (5, .ref (ad 1)), (6, .ref (ad 2)), (8, .ref (ad 4)), (9, .ref (ad 5)), (10, .ref (ad 6))]) hx hb dL_drafts_129 hl (by decide) rfl (fun ls hl => ?_)
            refine lv_aload hx hb dL_drafts_131 (lv_at hl 7 rfl) ?_
            refine lv_bipush (v := 6) hx hb dL_drafts_133 (by decide) ?_
            obtain ⟨h279, j278, ej278, hf⟩ := rd_e hf
            refine tald hx hb hKX.1 hX (by decide) h279 ej278 dL_drafts_135 ?_
            refine lv_iconst (v := 5) hx hb dL_drafts_136 (by decide) ?_
            refine lv_icmp_ne (tgt := 177) hx hb dL_drafts_137 (by decide) (fun c280 => ?_) (fun c280 => ?_)
            · have hf := it_f c280 hf
              refine lv_iconst (v := 0) hx hb dL_drafts_177 (by decide) ?_
              refine lv_istore (lv' := [(12, .int 0), (11, .int 0), (0, .ref x0), (4, .ref (ad 0)), (5, .ref (ad 1)), (6, .ref (ad 2)), (8, .ref (ad 4)), (9, .ref (ad 5)), (10, .ref (ad 6))]) hx hb dL_drafts_178 hl (by decide) rfl (fun ls hl => ?_)
              obtain ⟨g284, g2840, g284s, hf⟩ := lp3_e hf
              have Lg284 : ∀ (n : Nat) (x281 : Int32) (x282 : Int32) (S283 : Tt) (H : Heap) (locs : List Loc) (ls : Array Slot), ZX D cA A B x0 ad S283 H → va_S (AB A B) s.heap H locs → lv_has ls 16 [(0, .ref x0), (4, .ref (ad 0)), (5, .ref (ad 1)), (6, .ref (ad 2)), (8, .ref (ad 4)), (9, .ref (ad 5)), (10, .ref (ad 6)), (11, .int x281), (12, .int x282)] → g284 n x281 x282 S283 = some (r, T') → W p l e (RM 21 (20 * 16) (200 * 16)) s m args below meth c H locs (20 * S283.2.2) (200 * S283.2.2) (MQ below (CtQ (AB A B) (some (.int r)) (ZX D cA A B x0 ad T')) args s (20 * 16) (200 * 16) (AB A B)) (F0 m 180 ls []) := by
                intro n
                induction n with
                | zero => intro x281 x282 S283 H locs ls hX hS hl hf; rw [g2840] at hf; cases hf
                | succ n ihg284 =>
                  intro x281 x282 S283 H locs ls hX hS hl hf
                  rw [g284s] at hf
                  refine lv_iload hx hb dL_drafts_180 (lv_at hl 8 rfl) ?_
                  refine lv_iconst (v := 3) hx hb dL_drafts_182 (by decide) ?_
                  refine lv_icmp_ge (tgt := 245) hx hb dL_drafts_183 (by decide) (fun c285 => ?_) (fun c285 => ?_)
                  · have hf := it_t c285 hf
                    refine lv_aload hx hb dL_drafts_245 (lv_at hl 6 rfl) ?_
                    refine lv_bipush (v := 6) hx hb dL_drafts_247 (by decide) ?_
                    refine lv_dup2_11 hx hb dL_drafts_249 rfl rfl ?_
                    obtain ⟨h287, j286, ej286, hf⟩ := rd_e hf
                    refine tald hx hb hKX.1 hX (by decide) h287 ej286 dL_drafts_250 ?_
                    refine lv_iconst (v := 1) hx hb dL_drafts_251 (by decide) ?_
                    refine lv_iadd hx hb dL_drafts_252 ?_
                    obtain ⟨h289, j288, ej288, hf⟩ := rd_e hf
                    refine tasv hx hb hAB hKX.1 hX hS (by decide) h289 ej288 dL_drafts_253 (fun H locs hX hS => ?_)
                    obtain ⟨S290, eS290, hf⟩ := lt_e hf
                    rw [← eS290] at hX ⊢
                    refine lv_aload hx hb dL_drafts_254 (lv_at hl 6 rfl) ?_
                    refine lv_iconst (v := 2) hx hb dL_drafts_256 (by decide) ?_
                    obtain ⟨h292, j291, ej291, hf⟩ := rd_e hf
                    refine tald hx hb hKX.1 hX (by decide) h292 ej291 dL_drafts_257 ?_
                    refine lv_iconst (v := 1) hx hb dL_drafts_258 (by decide) ?_
                    refine lv_isub hx hb dL_drafts_259 ?_
                    refine lv_istore (lv' := [(12, .int ((S290.2.1 6 j291) - 1)), (0, .ref x0), (4, .ref (ad 0)), (5, .ref (ad 1)), (6, .ref (ad 2)), (8, .ref (ad 4)), (9, .ref (ad 5)), (10, .ref (ad 6)), (11, .int x281)]) hx hb dL_drafts_260 hl (by decide) rfl (fun ls hl => ?_)
                    refine lv_aload hx hb dL_drafts_262 (lv_at hl 7 rfl) ?_
                    refine lv_iconst (v := 3) hx hb dL_drafts_264 (by decide) ?_
                    obtain ⟨h294, j293, ej293, hf⟩ := rd_e hf
                    refine tald hx hb hKX.1 hX (by decide) h294 ej293 dL_drafts_265 ?_
                    refine lv_istore (lv' := [(13, .int (S290.2.1 6 j293)), (12, .int ((S290.2.1 6 j291) - 1)), (0, .ref x0), (4, .ref (ad 0)), (5, .ref (ad 1)), (6, .ref (ad 2)), (8, .ref (ad 4)), (9, .ref (ad 5)), (10, .ref (ad 6)), (11, .int x281)]) hx hb dL_drafts_266 hl (by decide) rfl (fun ls hl => ?_)
                    refine lv_aload hx hb dL_drafts_268 (lv_at hl 8 rfl) ?_
                    refine lv_iconst (v := 2) hx hb dL_drafts_270 (by decide) ?_
                    refine lv_iconst (v := 0) hx hb dL_drafts_271 (by decide) ?_
                    obtain ⟨h296, j295, ej295, hf⟩ := rd_e hf
                    refine tasv hx hb hAB hKX.1 hX hS (by decide) h296 ej295 dL_drafts_272 (fun H locs hX hS => ?_)
                    obtain ⟨S297, eS297, hf⟩ := lt_e hf
                    rw [← eS297] at hX ⊢
                    refine lv_aload hx hb dL_drafts_273 (lv_at hl 3 rfl) ?_
                    refine lv_aload hx hb dL_drafts_275 (lv_at hl 4 rfl) ?_
                    refine lv_aload hx hb dL_drafts_277 (lv_at hl 5 rfl) ?_
                    refine lv_aload hx hb dL_drafts_279 (lv_at hl 8 rfl) ?_
                    obtain ⟨h299, hf⟩ := gd_e hf
                    obtain ⟨M300, hz298, hf⟩ := cb_e hf
                    refine tSv (As := [.ref (ad 0), .ref (ad 1), .ref (ad 2), .ref (ad 6)]) (rest := []) hAB hC (c_l_lay La_a hz298) q_l_lay a_584 ⟨Nat.le_of_ble_eq_true rfl, Nat.le_of_ble_eq_true rfl⟩ hX hKX rfl hl.1 (Nat.le_of_ble_eq_true rfl) dL_drafts_281 ⟨Nat.mul_le_mul_left 20 h299, Nat.mul_le_mul_left 200 h299⟩ hS (fun _ z => z) (fun H locs hX hS => ?_)
                    obtain ⟨S301, eS301, hf⟩ := lt_e hf
                    rw [← eS301] at hX ⊢
                    refine lv_aload_n hx hb dL_drafts_284 rfl (lv_at hl 2 rfl) ?_
                    obtain ⟨h303, hf⟩ := gd_e hf
                    obtain ⟨z302, C304, hz302, hf⟩ := cb2_e hf
                    refine tW (As := [.ref x0]) (rest := []) hAB hC (v_putBack hfl hz302) qw_putBack a_959 ⟨Nat.le_of_ble_eq_true rfl, Nat.le_of_ble_eq_true rfl⟩ hX (fun q hq => hAs q (Nat.le_trans hS.1 hq)) hKX hTX hNX rfl hl.1 (Nat.le_of_ble_eq_true rfl) dL_drafts_285 ⟨Nat.mul_le_mul_left 20 h303, Nat.mul_le_mul_left 200 h303⟩ hS (fun _ z => z) (fun H locs hX hS => ?_)
                    obtain ⟨S305, eS305, hf⟩ := lt_e hf
                    rw [← eS305] at hX ⊢
                    refine lv_iload hx hb dL_drafts_288 (lv_at hl 9 rfl) ?_
                    refine lv_icmp_ne (tgt := 307) hx hb dL_drafts_290 (by decide) (fun c306 => ?_) (fun c306 => ?_)
                    · have hf := it_f c306 hf
                      refine lv_iconst (v := 0) hx hb dL_drafts_307 (by decide) ?_
                      obtain ⟨h307, hf⟩ := gd_e hf
                      cases hf
                      exact CtT_rz hx hb hr hlk nz0 hX hS (Nat.mul_le_mul_left 20 h307) (Nat.mul_le_mul_left 200 h307) dL_drafts_308
                    · have hf := it_t c306 hf
                      refine lv_aload hx hb dL_drafts_293 (lv_at hl 5 rfl) ?_
                      refine lv_iload hx hb dL_drafts_295 (lv_at hl 1 rfl) ?_
                      obtain ⟨h309, j308, ej308, hf⟩ := rd_e hf
                      refine tald hx hb hKX.1 hX (by decide) h309 ej308 dL_drafts_297 ?_
                      refine lv_iload hx hb dL_drafts_298 (lv_at hl 0 rfl) ?_
                      refine lv_icmp_ne (tgt := 307) hx hb dL_drafts_300 (by decide) (fun c310 => ?_) (fun c310 => ?_)
                      · have hf := it_f c310 hf
                        refine lv_iconst (v := 0) hx hb dL_drafts_307 (by decide) ?_
                        obtain ⟨h311, hf⟩ := gd_e hf
                        cases hf
                        exact CtT_rz hx hb hr hlk nz0 hX hS (Nat.mul_le_mul_left 20 h311) (Nat.mul_le_mul_left 200 h311) dL_drafts_308
                      · have hf := it_t c310 hf
                        refine lv_iconst (v := 1) hx hb dL_drafts_303 (by decide) ?_
                        refine lv_goto (tgt := 308) hx hb dL_drafts_304 (by decide) ?_
                        obtain ⟨h312, hf⟩ := gd_e hf
                        cases hf
                        exact CtT_rz hx hb hr hlk nz1 hX hS (Nat.mul_le_mul_left 20 h312) (Nat.mul_le_mul_left 200 h312) dL_drafts_308
                  · have hf := it_f c285 hf
                    refine lv_iload hx hb dL_drafts_186 (lv_at hl 7 rfl) ?_
                    refine lv_aload hx hb dL_drafts_188 (lv_at hl 4 rfl) ?_
                    refine lv_iload hx hb dL_drafts_190 (lv_at hl 8 rfl) ?_
                    obtain ⟨h314, j313, ej313, hf⟩ := rd_e hf
                    refine tald hx hb hKX.1 hX (by decide) h314 ej313 dL_drafts_192 ?_
                    refine lv_aload hx hb dL_drafts_193 (lv_at hl 1 rfl) ?_
                    refine lv_iconst (v := 3) hx hb dL_drafts_195 (by decide) ?_
                    refine lv_iload hx hb dL_drafts_196 (lv_at hl 8 rfl) ?_
                    refine lv_iadd hx hb dL_drafts_198 ?_
                    obtain ⟨h316, j315, ej315, hf⟩ := rd_e hf
                    refine tald hx hb hKX.1 hX (by decide) h316 ej315 dL_drafts_199 ?_
                    refine lv_ixor hx hb dL_drafts_200 ?_
                    obtain ⟨h318, hf⟩ := gd_e hf
                    obtain ⟨z317, hz317, hf⟩ := cb_e hf
                    refine tSi (As := [.int ((S283.2.1 4 j313) ^^^ (S283.2.1 0 j315))]) (rest := [.int x281]) hAB hC (c_l_count La_a hz317) q_l_count a_617 ⟨Nat.le_of_ble_eq_true rfl, Nat.le_of_ble_eq_true rfl⟩ hX hKX rfl hl.1 (Nat.le_of_ble_eq_true rfl) dL_drafts_201 ⟨Nat.mul_le_mul_left 20 h318, Nat.mul_le_mul_left 200 h318⟩ hS (fun _ z => z) (fun H locs hX hS => ?_)
                    change ZX D cA A B x0 ad S283 H at hX
                    change W p l e (RM 21 (20 * 16) (200 * 16)) s m args below meth c H locs (20 * S283.2.2) (200 * S283.2.2) (MQ below (CtQ (AB A B) (some (.int r)) (ZX D cA A B x0 ad T')) args s (20 * 16) (200 * 16) (AB A B)) (F0 m 204 ls [.int z317, .int x281])
                    refine lv_iadd hx hb dL_drafts_204 ?_
                    refine lv_istore (lv' := [(11, .int (x281 + z317)), (0, .ref x0), (4, .ref (ad 0)), (5, .ref (ad 1)), (6, .ref (ad 2)), (8, .ref (ad 4)), (9, .ref (ad 5)), (10, .ref (ad 6)), (12, .int x282)]) hx hb dL_drafts_205 hl (by decide) rfl (fun ls hl => ?_)
                    refine lv_aload hx hb dL_drafts_207 (lv_at hl 6 rfl) ?_
                    refine lv_iconst (v := 3) hx hb dL_drafts_209 (by decide) ?_
                    refine lv_aload hx hb dL_drafts_210 (lv_at hl 7 rfl) ?_
                    refine lv_bipush (v := 6) hx hb dL_drafts_212 (by decide) ?_
                    obtain ⟨h320, j319, ej319, hf⟩ := rd_e hf
                    refine tald hx hb hKX.1 hX (by decide) h320 ej319 dL_drafts_214 ?_
                    refine lv_imul hx hb dL_drafts_215 ?_
                    refine lv_iload hx hb dL_drafts_216 (lv_at hl 8 rfl) ?_
                    refine lv_iadd hx hb dL_drafts_218 ?_
                    refine lv_aload hx hb dL_drafts_219 (lv_at hl 2 rfl) ?_
                    refine lv_iconst (v := 3) hx hb dL_drafts_221 (by decide) ?_
                    refine lv_iload hx hb dL_drafts_222 (lv_at hl 8 rfl) ?_
                    refine lv_iadd hx hb dL_drafts_224 ?_
                    obtain ⟨h322, j321, ej321, hf⟩ := rd_e hf
                    refine tald hx hb hKX.1 hX (by decide) h322 ej321 dL_drafts_225 ?_
                    obtain ⟨h324, j323, ej323, hf⟩ := rd_e hf
                    refine tasv hx hb hAB hKX.1 hX hS (by decide) h324 ej323 dL_drafts_226 (fun H locs hX hS => ?_)
                    obtain ⟨S325, eS325, hf⟩ := lt_e hf
                    rw [← eS325] at hX ⊢
                    refine lv_aload hx hb dL_drafts_227 (lv_at hl 2 rfl) ?_
                    refine lv_iconst (v := 3) hx hb dL_drafts_229 (by decide) ?_
                    refine lv_iload hx hb dL_drafts_230 (lv_at hl 8 rfl) ?_
                    refine lv_iadd hx hb dL_drafts_232 ?_
                    refine lv_aload hx hb dL_drafts_233 (lv_at hl 5 rfl) ?_
                    refine lv_iload hx hb dL_drafts_235 (lv_at hl 8 rfl) ?_
                    obtain ⟨h327, j326, ej326, hf⟩ := rd_e hf
                    refine tald hx hb hKX.1 hX (by decide) h327 ej326 dL_drafts_237 ?_
                    obtain ⟨h329, j328, ej328, hf⟩ := rd_e hf
                    refine tasv hx hb hAB hKX.1 hX hS (by decide) h329 ej328 dL_drafts_238 (fun H locs hX hS => ?_)
                    obtain ⟨S330, eS330, hf⟩ := lt_e hf
                    rw [← eS330] at hX ⊢
                    refine lv_iinc (v := (x282 + 1)) (lv' := [(12, .int (x282 + 1)), (11, .int (x281 + z317)), (0, .ref x0), (4, .ref (ad 0)), (5, .ref (ad 1)), (6, .ref (ad 2)), (8, .ref (ad 4)), (9, .ref (ad 5)), (10, .ref (ad 6))]) hx hb dL_drafts_239 hl (k := 8) rfl rfl (by decide) rfl (fun ls hl => ?_)
                    refine lv_goto (tgt := 180) hx hb dL_drafts_242 (by decide) ?_
                    exact ihg284 _ _ _ _ _ _ hX hS (lv_sub hl [2, 3, 4, 5, 6, 7, 8, 1, 0] rfl) hf
              exact Lg284 FU _ _ _ _ _ _ hX hS (lv_sub hl [2, 3, 4, 5, 6, 7, 8, 1, 0] rfl) hf
            · have hf := it_t c280 hf
              refine lv_iconst (v := 0) hx hb dL_drafts_140 (by decide) ?_
              refine lv_istore (lv' := [(12, .int 0), (11, .int 0), (0, .ref x0), (4, .ref (ad 0)), (5, .ref (ad 1)), (6, .ref (ad 2)), (8, .ref (ad 4)), (9, .ref (ad 5)), (10, .ref (ad 6))]) hx hb dL_drafts_141 hl (by decide) rfl (fun ls hl => ?_)
              obtain ⟨g333, g3330, g333s, hf⟩ := lp2_e hf
              have Lg333 : ∀ (n : Nat) (x331 : Int32) (S332 : Tt) (H : Heap) (locs : List Loc) (ls : Array Slot), ZX D cA A B x0 ad S332 H → va_S (AB A B) s.heap H locs → lv_has ls 16 [(0, .ref x0), (4, .ref (ad 0)), (5, .ref (ad 1)), (6, .ref (ad 2)), (8, .ref (ad 4)), (9, .ref (ad 5)), (10, .ref (ad 6)), (11, .int 0), (12, .int x331)] → g333 n x331 S332 = some (r, T') → W p l e (RM 21 (20 * 16) (200 * 16)) s m args below meth c H locs (20 * S332.2.2) (200 * S332.2.2) (MQ below (CtQ (AB A B) (some (.int r)) (ZX D cA A B x0 ad T')) args s (20 * 16) (200 * 16) (AB A B)) (F0 m 143 ls []) := by
                intro n
                induction n with
                | zero => intro x331 S332 H locs ls hX hS hl hf; rw [g3330] at hf; cases hf
                | succ n ihg333 =>
                  intro x331 S332 H locs ls hX hS hl hf
                  rw [g333s] at hf
                  refine lv_iload hx hb dL_drafts_143 (lv_at hl 8 rfl) ?_
                  refine lv_bipush (v := 12) hx hb dL_drafts_145 (by decide) ?_
                  refine lv_icmp_ge (tgt := 168) hx hb dL_drafts_147 (by decide) (fun c334 => ?_) (fun c334 => ?_)
                  · have hf := it_t c334 hf
                    refine lv_aload hx hb dL_drafts_168 (lv_at hl 6 rfl) ?_
                    refine lv_bipush (v := 6) hx hb dL_drafts_170 (by decide) ?_
                    refine lv_dup2_11 hx hb dL_drafts_172 rfl rfl ?_
                    obtain ⟨h336, j335, ej335, hf⟩ := rd_e hf
                    refine tald hx hb hKX.1 hX (by decide) h336 ej335 dL_drafts_173 ?_
                    refine lv_iconst (v := 1) hx hb dL_drafts_174 (by decide) ?_
                    refine lv_isub hx hb dL_drafts_175 ?_
                    obtain ⟨h338, j337, ej337, hf⟩ := rd_e hf
                    refine tasv hx hb hAB hKX.1 hX hS (by decide) h338 ej337 dL_drafts_176 (fun H locs hX hS => ?_)
                    obtain ⟨S339, eS339, hf⟩ := lt_e hf
                    rw [← eS339] at hX ⊢
                    refine lv_iconst (v := 0) hx hb dL_drafts_177 (by decide) ?_
                    refine lv_istore (lv' := [(12, .int 0), (0, .ref x0), (4, .ref (ad 0)), (5, .ref (ad 1)), (6, .ref (ad 2)), (8, .ref (ad 4)), (9, .ref (ad 5)), (10, .ref (ad 6)), (11, .int 0)]) hx hb dL_drafts_178 hl (by decide) rfl (fun ls hl => ?_)
                    obtain ⟨g343, g3430, g343s, hf⟩ := lp3_e hf
                    have Lg343 : ∀ (n : Nat) (x340 : Int32) (x341 : Int32) (S342 : Tt) (H : Heap) (locs : List Loc) (ls : Array Slot), ZX D cA A B x0 ad S342 H → va_S (AB A B) s.heap H locs → lv_has ls 16 [(0, .ref x0), (4, .ref (ad 0)), (5, .ref (ad 1)), (6, .ref (ad 2)), (8, .ref (ad 4)), (9, .ref (ad 5)), (10, .ref (ad 6)), (11, .int x340), (12, .int x341)] → g343 n x340 x341 S342 = some (r, T') → W p l e (RM 21 (20 * 16) (200 * 16)) s m args below meth c H locs (20 * S342.2.2) (200 * S342.2.2) (MQ below (CtQ (AB A B) (some (.int r)) (ZX D cA A B x0 ad T')) args s (20 * 16) (200 * 16) (AB A B)) (F0 m 180 ls []) := by
                      intro n
                      induction n with
                      | zero => intro x340 x341 S342 H locs ls hX hS hl hf; rw [g3430] at hf; cases hf
                      | succ n ihg343 =>
                        intro x340 x341 S342 H locs ls hX hS hl hf
                        rw [g343s] at hf
                        refine lv_iload hx hb dL_drafts_180 (lv_at hl 8 rfl) ?_
                        refine lv_iconst (v := 3) hx hb dL_drafts_182 (by decide) ?_
                        refine lv_icmp_ge (tgt := 245) hx hb dL_drafts_183 (by decide) (fun c344 => ?_) (fun c344 => ?_)
                        · have hf := it_t c344 hf
                          refine lv_aload hx hb dL_drafts_245 (lv_at hl 6 rfl) ?_
                          refine lv_bipush (v := 6) hx hb dL_drafts_247 (by decide) ?_
                          refine lv_dup2_11 hx hb dL_drafts_249 rfl rfl ?_
                          obtain ⟨h346, j345, ej345, hf⟩ := rd_e hf
                          refine tald hx hb hKX.1 hX (by decide) h346 ej345 dL_drafts_250 ?_
                          refine lv_iconst (v := 1) hx hb dL_drafts_251 (by decide) ?_
                          refine lv_iadd hx hb dL_drafts_252 ?_
                          obtain ⟨h348, j347, ej347, hf⟩ := rd_e hf
                          refine tasv hx hb hAB hKX.1 hX hS (by decide) h348 ej347 dL_drafts_253 (fun H locs hX hS => ?_)
                          obtain ⟨S349, eS349, hf⟩ := lt_e hf
                          rw [← eS349] at hX ⊢
                          refine lv_aload hx hb dL_drafts_254 (lv_at hl 6 rfl) ?_
                          refine lv_iconst (v := 2) hx hb dL_drafts_256 (by decide) ?_
                          obtain ⟨h351, j350, ej350, hf⟩ := rd_e hf
                          refine tald hx hb hKX.1 hX (by decide) h351 ej350 dL_drafts_257 ?_
                          refine lv_iconst (v := 1) hx hb dL_drafts_258 (by decide) ?_
                          refine lv_isub hx hb dL_drafts_259 ?_
                          refine lv_istore (lv' := [(12, .int ((S349.2.1 6 j350) - 1)), (0, .ref x0), (4, .ref (ad 0)), (5, .ref (ad 1)), (6, .ref (ad 2)), (8, .ref (ad 4)), (9, .ref (ad 5)), (10, .ref (ad 6)), (11, .int x340)]) hx hb dL_drafts_260 hl (by decide) rfl (fun ls hl => ?_)
                          refine lv_aload hx hb dL_drafts_262 (lv_at hl 7 rfl) ?_
                          refine lv_iconst (v := 3) hx hb dL_drafts_264 (by decide) ?_
                          obtain ⟨h353, j352, ej352, hf⟩ := rd_e hf
                          refine tald hx hb hKX.1 hX (by decide) h353 ej352 dL_drafts_265 ?_
                          refine lv_istore (lv' := [(13, .int (S349.2.1 6 j352)), (12, .int ((S349.2.1 6 j350) - 1)), (0, .ref x0), (4, .ref (ad 0)), (5, .ref (ad 1)), (6, .ref (ad 2)), (8, .ref (ad 4)), (9, .ref (ad 5)), (10, .ref (ad 6)), (11, .int x340)]) hx hb dL_drafts_266 hl (by decide) rfl (fun ls hl => ?_)
                          refine lv_aload hx hb dL_drafts_268 (lv_at hl 8 rfl) ?_
                          refine lv_iconst (v := 2) hx hb dL_drafts_270 (by decide) ?_
                          refine lv_iconst (v := 0) hx hb dL_drafts_271 (by decide) ?_
                          obtain ⟨h355, j354, ej354, hf⟩ := rd_e hf
                          refine tasv hx hb hAB hKX.1 hX hS (by decide) h355 ej354 dL_drafts_272 (fun H locs hX hS => ?_)
                          obtain ⟨S356, eS356, hf⟩ := lt_e hf
                          rw [← eS356] at hX ⊢
                          refine lv_aload hx hb dL_drafts_273 (lv_at hl 3 rfl) ?_
                          refine lv_aload hx hb dL_drafts_275 (lv_at hl 4 rfl) ?_
                          refine lv_aload hx hb dL_drafts_277 (lv_at hl 5 rfl) ?_
                          refine lv_aload hx hb dL_drafts_279 (lv_at hl 8 rfl) ?_
                          obtain ⟨h358, hf⟩ := gd_e hf
                          obtain ⟨M359, hz357, hf⟩ := cb_e hf
                          refine tSv (As := [.ref (ad 0), .ref (ad 1), .ref (ad 2), .ref (ad 6)]) (rest := []) hAB hC (c_l_lay La_a hz357) q_l_lay a_584 ⟨Nat.le_of_ble_eq_true rfl, Nat.le_of_ble_eq_true rfl⟩ hX hKX rfl hl.1 (Nat.le_of_ble_eq_true rfl) dL_drafts_281 ⟨Nat.mul_le_mul_left 20 h358, Nat.mul_le_mul_left 200 h358⟩ hS (fun _ z => z) (fun H locs hX hS => ?_)
                          obtain ⟨S360, eS360, hf⟩ := lt_e hf
                          rw [← eS360] at hX ⊢
                          refine lv_aload_n hx hb dL_drafts_284 rfl (lv_at hl 2 rfl) ?_
                          obtain ⟨h362, hf⟩ := gd_e hf
                          obtain ⟨z361, C363, hz361, hf⟩ := cb2_e hf
                          refine tW (As := [.ref x0]) (rest := []) hAB hC (v_putBack hfl hz361) qw_putBack a_959 ⟨Nat.le_of_ble_eq_true rfl, Nat.le_of_ble_eq_true rfl⟩ hX (fun q hq => hAs q (Nat.le_trans hS.1 hq)) hKX hTX hNX rfl hl.1 (Nat.le_of_ble_eq_true rfl) dL_drafts_285 ⟨Nat.mul_le_mul_left 20 h362, Nat.mul_le_mul_left 200 h362⟩ hS (fun _ z => z) (fun H locs hX hS => ?_)
                          obtain ⟨S364, eS364, hf⟩ := lt_e hf
                          rw [← eS364] at hX ⊢
                          refine lv_iload hx hb dL_drafts_288 (lv_at hl 9 rfl) ?_
                          refine lv_icmp_ne (tgt := 307) hx hb dL_drafts_290 (by decide) (fun c365 => ?_) (fun c365 => ?_)
                          · have hf := it_f c365 hf
                            refine lv_iconst (v := 0) hx hb dL_drafts_307 (by decide) ?_
                            obtain ⟨h366, hf⟩ := gd_e hf
                            cases hf
                            exact CtT_rz hx hb hr hlk nz0 hX hS (Nat.mul_le_mul_left 20 h366) (Nat.mul_le_mul_left 200 h366) dL_drafts_308
                          · have hf := it_t c365 hf
                            refine lv_aload hx hb dL_drafts_293 (lv_at hl 5 rfl) ?_
                            refine lv_iload hx hb dL_drafts_295 (lv_at hl 1 rfl) ?_
                            obtain ⟨h368, j367, ej367, hf⟩ := rd_e hf
                            refine tald hx hb hKX.1 hX (by decide) h368 ej367 dL_drafts_297 ?_
                            refine lv_iload hx hb dL_drafts_298 (lv_at hl 0 rfl) ?_
                            refine lv_icmp_ne (tgt := 307) hx hb dL_drafts_300 (by decide) (fun c369 => ?_) (fun c369 => ?_)
                            · have hf := it_f c369 hf
                              refine lv_iconst (v := 0) hx hb dL_drafts_307 (by decide) ?_
                              obtain ⟨h370, hf⟩ := gd_e hf
                              cases hf
                              exact CtT_rz hx hb hr hlk nz0 hX hS (Nat.mul_le_mul_left 20 h370) (Nat.mul_le_mul_left 200 h370) dL_drafts_308
                            · have hf := it_t c369 hf
                              refine lv_iconst (v := 1) hx hb dL_drafts_303 (by decide) ?_
                              refine lv_goto (tgt := 308) hx hb dL_drafts_304 (by decide) ?_
                              obtain ⟨h371, hf⟩ := gd_e hf
                              cases hf
                              exact CtT_rz hx hb hr hlk nz1 hX hS (Nat.mul_le_mul_left 20 h371) (Nat.mul_le_mul_left 200 h371) dL_drafts_308
                        · have hf := it_f c344 hf
                          refine lv_iload hx hb dL_drafts_186 (lv_at hl 7 rfl) ?_
                          refine lv_aload hx hb dL_drafts_188 (lv_at hl 4 rfl) ?_
                          refine lv_iload hx hb dL_drafts_190 (lv_at hl 8 rfl) ?_
                          obtain ⟨h373, j372, ej372, hf⟩ := rd_e hf
                          refine tald hx hb hKX.1 hX (by decide) h373 ej372 dL_drafts_192 ?_
                          refine lv_aload hx hb dL_drafts_193 (lv_at hl 1 rfl) ?_
                          refine lv_iconst (v := 3) hx hb dL_drafts_195 (by decide) ?_
                          refine lv_iload hx hb dL_drafts_196 (lv_at hl 8 rfl) ?_
                          refine lv_iadd hx hb dL_drafts_198 ?_
                          obtain ⟨h375, j374, ej374, hf⟩ := rd_e hf
                          refine tald hx hb hKX.1 hX (by decide) h375 ej374 dL_drafts_199 ?_
                          refine lv_ixor hx hb dL_drafts_200 ?_
                          obtain ⟨h377, hf⟩ := gd_e hf
                          obtain ⟨z376, hz376, hf⟩ := cb_e hf
                          refine tSi (As := [.int ((S342.2.1 4 j372) ^^^ (S342.2.1 0 j374))]) (rest := [.int x340]) hAB hC (c_l_count La_a hz376) q_l_count a_617 ⟨Nat.le_of_ble_eq_true rfl, Nat.le_of_ble_eq_true rfl⟩ hX hKX rfl hl.1 (Nat.le_of_ble_eq_true rfl) dL_drafts_201 ⟨Nat.mul_le_mul_left 20 h377, Nat.mul_le_mul_left 200 h377⟩ hS (fun _ z => z) (fun H locs hX hS => ?_)
                          change ZX D cA A B x0 ad S342 H at hX
                          change W p l e (RM 21 (20 * 16) (200 * 16)) s m args below meth c H locs (20 * S342.2.2) (200 * S342.2.2) (MQ below (CtQ (AB A B) (some (.int r)) (ZX D cA A B x0 ad T')) args s (20 * 16) (200 * 16) (AB A B)) (F0 m 204 ls [.int z376, .int x340])
                          refine lv_iadd hx hb dL_drafts_204 ?_
                          refine lv_istore (lv' := [(11, .int (x340 + z376)), (0, .ref x0), (4, .ref (ad 0)), (5, .ref (ad 1)), (6, .ref (ad 2)), (8, .ref (ad 4)), (9, .ref (ad 5)), (10, .ref (ad 6)), (12, .int x341)]) hx hb dL_drafts_205 hl (by decide) rfl (fun ls hl => ?_)
                          refine lv_aload hx hb dL_drafts_207 (lv_at hl 6 rfl) ?_
                          refine lv_iconst (v := 3) hx hb dL_drafts_209 (by decide) ?_
                          refine lv_aload hx hb dL_drafts_210 (lv_at hl 7 rfl) ?_
                          refine lv_bipush (v := 6) hx hb dL_drafts_212 (by decide) ?_
                          obtain ⟨h379, j378, ej378, hf⟩ := rd_e hf
                          refine tald hx hb hKX.1 hX (by decide) h379 ej378 dL_drafts_214 ?_
                          refine lv_imul hx hb dL_drafts_215 ?_
                          refine lv_iload hx hb dL_drafts_216 (lv_at hl 8 rfl) ?_
                          refine lv_iadd hx hb dL_drafts_218 ?_
                          refine lv_aload hx hb dL_drafts_219 (lv_at hl 2 rfl) ?_
                          refine lv_iconst (v := 3) hx hb dL_drafts_221 (by decide) ?_
                          refine lv_iload hx hb dL_drafts_222 (lv_at hl 8 rfl) ?_
                          refine lv_iadd hx hb dL_drafts_224 ?_
                          obtain ⟨h381, j380, ej380, hf⟩ := rd_e hf
                          refine tald hx hb hKX.1 hX (by decide) h381 ej380 dL_drafts_225 ?_
                          obtain ⟨h383, j382, ej382, hf⟩ := rd_e hf
                          refine tasv hx hb hAB hKX.1 hX hS (by decide) h383 ej382 dL_drafts_226 (fun H locs hX hS => ?_)
                          obtain ⟨S384, eS384, hf⟩ := lt_e hf
                          rw [← eS384] at hX ⊢
                          refine lv_aload hx hb dL_drafts_227 (lv_at hl 2 rfl) ?_
                          refine lv_iconst (v := 3) hx hb dL_drafts_229 (by decide) ?_
                          refine lv_iload hx hb dL_drafts_230 (lv_at hl 8 rfl) ?_
                          refine lv_iadd hx hb dL_drafts_232 ?_
                          refine lv_aload hx hb dL_drafts_233 (lv_at hl 5 rfl) ?_
                          refine lv_iload hx hb dL_drafts_235 (lv_at hl 8 rfl) ?_
                          obtain ⟨h386, j385, ej385, hf⟩ := rd_e hf
                          refine tald hx hb hKX.1 hX (by decide) h386 ej385 dL_drafts_237 ?_
                          obtain ⟨h388, j387, ej387, hf⟩ := rd_e hf
                          refine tasv hx hb hAB hKX.1 hX hS (by decide) h388 ej387 dL_drafts_238 (fun H locs hX hS => ?_)
                          obtain ⟨S389, eS389, hf⟩ := lt_e hf
                          rw [← eS389] at hX ⊢
                          refine lv_iinc (v := (x341 + 1)) (lv' := [(12, .int (x341 + 1)), (11, .int (x340 + z376)), (0, .ref x0), (4, .ref (ad 0)), (5, .ref (ad 1)), (6, .ref (ad 2)), (8, .ref (ad 4)), (9, .ref (ad 5)), (10, .ref (ad 6))]) hx hb dL_drafts_239 hl (k := 8) rfl rfl (by decide) rfl (fun ls hl => ?_)
                          refine lv_goto (tgt := 180) hx hb dL_drafts_242 (by decide) ?_
                          exact ihg343 _ _ _ _ _ _ hX hS (lv_sub hl [2, 3, 4, 5, 6, 7, 8, 1, 0] rfl) hf
                    exact Lg343 FU _ _ _ _ _ _ hX hS (lv_sub hl [1, 2, 3, 4, 5, 6, 7, 8, 0] rfl) hf
                  · have hf := it_f c334 hf
                    refine lv_aload hx hb dL_drafts_150 (lv_at hl 5 rfl) ?_
                    refine lv_iload hx hb dL_drafts_152 (lv_at hl 8 rfl) ?_
                    refine lv_aload hx hb dL_drafts_154 (lv_at hl 5 rfl) ?_
                    refine lv_iload hx hb dL_drafts_156 (lv_at hl 8 rfl) ?_
                    refine lv_iconst (v := 3) hx hb dL_drafts_158 (by decide) ?_
                    refine lv_iadd hx hb dL_drafts_159 ?_
                    obtain ⟨h391, j390, ej390, hf⟩ := rd_e hf
                    refine tald hx hb hKX.1 hX (by decide) h391 ej390 dL_drafts_160 ?_
                    obtain ⟨h393, j392, ej392, hf⟩ := rd_e hf
                    refine tasv hx hb hAB hKX.1 hX hS (by decide) h393 ej392 dL_drafts_161 (fun H locs hX hS => ?_)
                    obtain ⟨S394, eS394, hf⟩ := lt_e hf
                    rw [← eS394] at hX ⊢
                    refine lv_iinc (v := (x331 + 1)) (lv' := [(12, .int (x331 + 1)), (0, .ref x0), (4, .ref (ad 0)), (5, .ref (ad 1)), (6, .ref (ad 2)), (8, .ref (ad 4)), (9, .ref (ad 5)), (10, .ref (ad 6)), (11, .int 0)]) hx hb dL_drafts_162 hl (k := 8) rfl rfl (by decide) rfl (fun ls hl => ?_)
                    refine lv_goto (tgt := 143) hx hb dL_drafts_165 (by decide) ?_
                    exact ihg333 _ _ _ _ _ hX hS (lv_sub hl [1, 2, 3, 4, 5, 6, 7, 8, 0] rfl) hf
              exact Lg333 FU _ _ _ _ _ hX hS (lv_sub hl [2, 3, 4, 5, 6, 7, 8, 1, 0] rfl) hf
          · have hf := it_f c277 hf
            exact Jk266 _ _ _ hX hS (lv_sub hl [0] rfl) hf
      refine lv_if_le (tgt := 98) hx hb dL_drafts_80 (by decide) (fun c395 => ?_) (fun c395 => ?_)
      · have hf := it_t c395 hf
        exact Jk263 _ _ _ _ hX hS (lv_sub hl [0, 4, 5, 6, 8, 9, 10] rfl) hf
      · have hf := it_f c395 hf
        refine lv_aload hx hb dL_drafts_83 (lv_at hl 4 rfl) ?_
        refine lv_aload hx hb dL_drafts_85 (lv_at hl 5 rfl) ?_
        refine lv_aload hx hb dL_drafts_87 (lv_at hl 6 rfl) ?_
        refine lv_aload hx hb dL_drafts_89 (lv_at hl 7 rfl) ?_
        refine lv_aload hx hb dL_drafts_91 (lv_at hl 8 rfl) ?_
        refine lv_aload hx hb dL_drafts_93 (lv_at hl 10 rfl) ?_
        obtain ⟨h397, hf⟩ := gd_e hf
        obtain ⟨M398, hz396, hf⟩ := cb_e hf
        refine tPut (As := [.ref (ad 0), .ref (ad 1), .ref (ad 2), .ref (ad 3), .ref (ad 4), .ref (ad 6)]) (rest := []) hAB hC (fun B' => c_l_put La_a hz396) q_l_put a_581 ⟨Nat.le_of_ble_eq_true rfl, Nat.le_of_ble_eq_true rfl⟩ hX (fun q hq => hAs q (Nat.le_trans hS.1 hq)) hKX rfl hl.1 (Nat.le_of_ble_eq_true rfl) dL_drafts_95 ⟨Nat.mul_le_mul_left 20 h397, Nat.mul_le_mul_left 200 h397⟩ hS (fun _ z => z) (fun H locs hX hS => ?_)
        obtain ⟨S399, eS399, hf⟩ := lt_e hf
        rw [← eS399] at hX ⊢
        exact Jk263 _ _ _ _ hX hS (lv_sub hl [0, 4, 5, 6, 8, 9, 10] rfl) hf
  refine lv_if_ne (tgt := 71) hx hb dL_drafts_1 (by decide) (fun c400 => ?_) (fun c400 => ?_)
  · have hf := it_f c400 hf
    exact Jk13 _ _ _ hX hS (lv_sub hl [0, 1, 2, 3, 4, 5, 6, 7, 8, 9, 10] rfl) hf
  · have hf := it_t c400 hf
    refine lv_aload hx hb dL_drafts_4 (lv_at hl 10 rfl) ?_
    refine lv_iconst (v := 1) hx hb dL_drafts_6 (by decide) ?_
    obtain ⟨h402, j401, ej401, hf⟩ := rd_e hf
    refine tald hx hb hKX.1 hX (by decide) h402 ej401 dL_drafts_7 ?_
    refine lv_if_le (tgt := 71) hx hb dL_drafts_8 (by decide) (fun c403 => ?_) (fun c403 => ?_)
    · have hf := it_t c403 hf
      exact Jk13 _ _ _ hX hS (lv_sub hl [0, 1, 2, 3, 4, 5, 6, 7, 8, 9, 10] rfl) hf
    · have hf := it_f c403 hf
      refine lv_iload_n hx hb dL_drafts_11 rfl (lv_at hl 2 rfl) ?_
      refine lv_aload hx hb dL_drafts_12 (lv_at hl 10 rfl) ?_
      refine lv_iconst (v := 1) hx hb dL_drafts_14 (by decide) ?_
      obtain ⟨h405, j404, ej404, hf⟩ := rd_e hf
      refine tald hx hb hKX.1 hX (by decide) h405 ej404 dL_drafts_15 ?_
      obtain ⟨h407, hf⟩ := gd_e hf
      obtain ⟨z406, hz406, hf⟩ := cb_e hf
      refine tSi (As := [.int x3, .int (T.2.1 6 j404)]) (rest := []) hAB hC (c_l_low La_a hz406) q_l_low a_138 ⟨Nat.le_of_ble_eq_true rfl, Nat.le_of_ble_eq_true rfl⟩ hX hKX rfl hl.1 (Nat.le_of_ble_eq_true rfl) dL_drafts_16 ⟨Nat.mul_le_mul_left 20 h407, Nat.mul_le_mul_left 200 h407⟩ hS (fun _ z => z) (fun H locs hX hS => ?_)
      change ZX D cA A B x0 ad T H at hX
      change W p l e (RM 21 (20 * 16) (200 * 16)) s m args below meth c H locs (20 * T.2.2) (200 * T.2.2) (MQ below (CtQ (AB A B) (some (.int r)) (ZX D cA A B x0 ad T')) args s (20 * 16) (200 * 16) (AB A B)) (F0 m 19 ls [.int z406])
      refine lv_istore (lv' := [(11, .int z406), (0, .ref x0), (1, .int x2), (2, .int x3), (3, .int x4), (4, .ref (ad 0)), (5, .ref (ad 1)), (6, .ref (ad 2)), (7, .ref (ad 3)), (8, .ref (ad 4)), (9, .ref (ad 5)), (10, .ref (ad 6))]) hx hb dL_drafts_19 hl (by decide) rfl (fun ls hl => ?_)
      refine lv_aload hx hb dL_drafts_21 (lv_at hl 5 rfl) ?_
      refine lv_aload hx hb dL_drafts_23 (lv_at hl 6 rfl) ?_
      refine lv_aload hx hb dL_drafts_25 (lv_at hl 7 rfl) ?_
      refine lv_aload hx hb dL_drafts_27 (lv_at hl 11 rfl) ?_
      obtain ⟨h409, hf⟩ := gd_e hf
      obtain ⟨M410, hz408, hf⟩ := cb_e hf
      refine tSv (As := [.ref (ad 0), .ref (ad 1), .ref (ad 2), .ref (ad 6)]) (rest := []) hAB hC (c_l_lay La_a hz408) q_l_lay a_584 ⟨Nat.le_of_ble_eq_true rfl, Nat.le_of_ble_eq_true rfl⟩ hX hKX rfl hl.1 (Nat.le_of_ble_eq_true rfl) dL_drafts_29 ⟨Nat.mul_le_mul_left 20 h409, Nat.mul_le_mul_left 200 h409⟩ hS (fun _ z => z) (fun H locs hX hS => ?_)
      obtain ⟨S411, eS411, hf⟩ := lt_e hf
      rw [← eS411] at hX ⊢
      refine lv_aload hx hb dL_drafts_32 (lv_at hl 11 rfl) ?_
      refine lv_iconst (v := 2) hx hb dL_drafts_34 (by decide) ?_
      refine lv_iload hx hb dL_drafts_35 (lv_at hl 0 rfl) ?_
      refine lv_iconst (v := 1) hx hb dL_drafts_37 (by decide) ?_
      refine lv_iadd hx hb dL_drafts_38 ?_
      obtain ⟨h413, j412, ej412, hf⟩ := rd_e hf
      refine tasv hx hb hAB hKX.1 hX hS (by decide) h413 ej412 dL_drafts_39 (fun H locs hX hS => ?_)
      obtain ⟨S414, eS414, hf⟩ := lt_e hf
      rw [← eS414] at hX ⊢
      refine lv_aload hx hb dL_drafts_40 (lv_at hl 11 rfl) ?_
      refine lv_iconst (v := 3) hx hb dL_drafts_42 (by decide) ?_
      refine lv_aload hx hb dL_drafts_43 (lv_at hl 7 rfl) ?_
      refine lv_iload hx hb dL_drafts_45 (lv_at hl 0 rfl) ?_
      obtain ⟨h416, j415, ej415, hf⟩ := rd_e hf
      refine tald hx hb hKX.1 hX (by decide) h416 ej415 dL_drafts_47 ?_
      obtain ⟨h418, j417, ej417, hf⟩ := rd_e hf
      refine tasv hx hb hAB hKX.1 hX hS (by decide) h418 ej417 dL_drafts_48 (fun H locs hX hS => ?_)
      obtain ⟨S419, eS419, hf⟩ := lt_e hf
      rw [← eS419] at hX ⊢
      refine lv_aload_n hx hb dL_drafts_49 rfl (lv_at hl 1 rfl) ?_
      refine lv_iload hx hb dL_drafts_50 (lv_at hl 0 rfl) ?_
      obtain ⟨h421, hf⟩ := gd_e hf
      obtain ⟨z420, C422, hz420, hf⟩ := cb2_e hf
      refine tW (As := [.ref x0, .int z406]) (rest := []) hAB hC (v_open hfl hz420) qw_open a_660 ⟨Nat.le_of_ble_eq_true rfl, Nat.le_of_ble_eq_true rfl⟩ hX (fun q hq => hAs q (Nat.le_trans hS.1 hq)) hKX hTX hNX rfl hl.1 (Nat.le_of_ble_eq_true rfl) dL_drafts_52 ⟨Nat.mul_le_mul_left 20 h421, Nat.mul_le_mul_left 200 h421⟩ hS (fun _ z => z) (fun H locs hX hS => ?_)
      obtain ⟨S423, eS423, hf⟩ := lt_e hf
      rw [← eS423] at hX ⊢
      refine lv_aload hx hb dL_drafts_55 (lv_at hl 11 rfl) ?_
      refine lv_iconst (v := 3) hx hb dL_drafts_57 (by decide) ?_
      obtain ⟨h425, j424, ej424, hf⟩ := rd_e hf
      refine tald hx hb hKX.1 hX (by decide) h425 ej424 dL_drafts_58 ?_
      obtain ⟨h427, hf⟩ := gd_e hf
      obtain ⟨z426, hz426, hf⟩ := cb_e hf
      refine tSi (As := [.int (S423.2.1 6 j424)]) (rest := [.int z420]) hAB hC (c_l_count La_a hz426) q_l_count a_617 ⟨Nat.le_of_ble_eq_true rfl, Nat.le_of_ble_eq_true rfl⟩ hX hKX rfl hl.1 (Nat.le_of_ble_eq_true rfl) dL_drafts_59 ⟨Nat.mul_le_mul_left 20 h427, Nat.mul_le_mul_left 200 h427⟩ hS (fun _ z => z) (fun H locs hX hS => ?_)
      change ZX D cA A B x0 ad S423 H at hX
      change W p l e (RM 21 (20 * 16) (200 * 16)) s m args below meth c H locs (20 * S423.2.2) (200 * S423.2.2) (MQ below (CtQ (AB A B) (some (.int r)) (ZX D cA A B x0 ad T')) args s (20 * 16) (200 * 16) (AB A B)) (F0 m 62 ls [.int z426, .int z420])
      refine lv_icmp_ne (tgt := 69) hx hb dL_drafts_62 (by decide) (fun c428 => ?_) (fun c428 => ?_)
      · have hf := it_f c428 hf
        refine lv_iconst (v := 0) hx hb dL_drafts_69 (by decide) ?_
        obtain ⟨h429, hf⟩ := gd_e hf
        cases hf
        exact CtT_rz hx hb hr hlk nz0 hX hS (Nat.mul_le_mul_left 20 h429) (Nat.mul_le_mul_left 200 h429) dL_drafts_70
      · have hf := it_t c428 hf
        refine lv_iconst (v := 1) hx hb dL_drafts_65 (by decide) ?_
        refine lv_goto (tgt := 70) hx hb dL_drafts_66 (by decide) ?_
        obtain ⟨h430, hf⟩ := gd_e hf
        cases hf
        exact CtT_rz hx hb hr hlk nz1 hX hS (Nat.mul_le_mul_left 20 h430) (Nat.mul_le_mul_left 200 h430) dL_drafts_70
