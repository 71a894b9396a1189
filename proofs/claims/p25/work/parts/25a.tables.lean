theorem q_p_tables : VWs yL_tables cL_tables 9 (some .boolean) 6 := ⟨a_890, a_15, a_889, by decide +kernel⟩
set_option maxRecDepth 100000 in
set_option maxHeartbeats 8000000 in
theorem c_p_tables {l : Launch} {D : va_G} {cA : Nat → ClassId} {A B : Nat → Prop} {x0 : Nat} {ad : Nat → Nat} (hAB : ∀ q, A q → ¬ B q) (hfl : l.stackTraces = false) {x2 : Int32} {x3 : Int32} {x4 : Int32} {T T' : Tt} {r : Int32} (hf : p_tables x2 x3 x4 T = some (r, T')) (h0 : T.2.2 = 0 := by rfl) : CtT l D cA A B yL_tables cL_tables 9 (some .boolean) 8 16 [.ref x0, .int x2, .int x3, .int x4, .ref (ad 0), .ref (ad 6)] x0 ad T r T' := by
  refine CtT_of (by decide +kernel) (Nat.le_of_ble_eq_true rfl) ?_
  intro p e s m args below meth c ls hC hr hlk hX hAs hKX hTX hNX hl
  have hx := hC.1
  have hb := hC.2.1
  have hS : va_S (AB A B) s.heap s.heap [] := va_S.rf
  refine W.eqc (c2 := 20 * T.2.2) (s2 := 200 * T.2.2) (by omega) (by omega) ?_
  have hl : lv_has ls 9 [(0, .ref x0), (1, .int x2), (2, .int x3), (3, .int x4), (4, .ref (ad 0)), (5, .ref (ad 6))] := hl
  unfold p_tables at hf
  refine lv_iload_n hx hb dL_tables_0 rfl (lv_at hl 1 rfl) ?_
  refine lv_if_ne (tgt := 228) hx hb dL_tables_1 (by decide) (fun c8 => ?_) (fun c8 => ?_)
  · have hf := it_f c8 hf
    refine lv_iload_n hx hb dL_tables_228 rfl (lv_at hl 2 rfl) ?_
    refine lv_aload hx hb dL_tables_229 (lv_at hl 5 rfl) ?_
    refine lv_iconst (v := 0) hx hb dL_tables_231 (by decide) ?_
    obtain ⟨h10, j9, ej9, hf⟩ := rd_e hf
    refine tald hx hb hKX.1 hX (by decide) h10 ej9 dL_tables_232 ?_
    refine lv_iconst (v := 1) hx hb dL_tables_233 (by decide) ?_
    refine lv_iadd hx hb dL_tables_234 ?_
    obtain ⟨h12, hf⟩ := gd_e hf
    obtain ⟨z11, hz11, hf⟩ := cb_e hf
    refine tSi (As := [.int x3, .int ((T.2.1 6 j9) + 1)]) (rest := []) hAB hC (c_l_low La_a hz11) q_l_low a_138 ⟨Nat.le_of_ble_eq_true rfl, Nat.le_of_ble_eq_true rfl⟩ hX hKX rfl hl.1 (Nat.le_of_ble_eq_true rfl) dL_tables_235 ⟨Nat.mul_le_mul_left 20 h12, Nat.mul_le_mul_left 200 h12⟩ hS (fun _ z => z) (fun H locs hX hS => ?_)
    change ZX D cA A B x0 ad T H at hX
    change W p l e (RM 8 (20 * 16) (200 * 16)) s m args below meth c H locs (20 * T.2.2) (200 * T.2.2) (MQ below (CtQ (AB A B) (some (.int r)) (ZX D cA A B x0 ad T')) args s (20 * 16) (200 * 16) (AB A B)) (F0 m 238 ls [.int z11])
    refine lv_istore (lv' := [(6, .int z11), (0, .ref x0), (1, .int x2), (2, .int x3), (3, .int x4), (4, .ref (ad 0)), (5, .ref (ad 6))]) hx hb dL_tables_238 hl (by decide) rfl (fun ls hl => ?_)
    refine lv_iload hx hb dL_tables_240 (lv_at hl 0 rfl) ?_
    refine lv_aload hx hb dL_tables_242 (lv_at hl 6 rfl) ?_
    refine lv_iconst (v := 0) hx hb dL_tables_244 (by decide) ?_
    obtain ⟨h14, j13, ej13, hf⟩ := rd_e hf
    refine tald hx hb hKX.1 hX (by decide) h14 ej13 dL_tables_245 ?_
    refine lv_icmp_ne (tgt := 293) hx hb dL_tables_246 (by decide) (fun c15 => ?_) (fun c15 => ?_)
    · have hf := it_f c15 hf
      refine lv_iload_n hx hb dL_tables_293 rfl (lv_at hl 4 rfl) ?_
      refine lv_bipush (v := 27) hx hb dL_tables_294 (by decide) ?_
      obtain ⟨h17, hf⟩ := gd_e hf
      obtain ⟨z16, hz16, hf⟩ := cb_e hf
      refine tSi (As := [.int x4, .int 27]) (rest := []) hAB hC (c_l_low La_a hz16) q_l_low a_138 ⟨Nat.le_of_ble_eq_true rfl, Nat.le_of_ble_eq_true rfl⟩ hX hKX rfl hl.1 (Nat.le_of_ble_eq_true rfl) dL_tables_296 ⟨Nat.mul_le_mul_left 20 h17, Nat.mul_le_mul_left 200 h17⟩ hS (fun _ z => z) (fun H locs hX hS => ?_)
      change ZX D cA A B x0 ad T H at hX
      change W p l e (RM 8 (20 * 16) (200 * 16)) s m args below meth c H locs (20 * T.2.2) (200 * T.2.2) (MQ below (CtQ (AB A B) (some (.int r)) (ZX D cA A B x0 ad T')) args s (20 * 16) (200 * 16) (AB A B)) (F0 m 299 ls [.int z16])
      refine lv_iload_n hx hb dL_tables_299 rfl (lv_at hl 3 rfl) ?_
      refine lv_sipush (v := 768) hx hb dL_tables_300 (by decide) ?_
      refine lv_iand hx hb dL_tables_303 ?_
      obtain ⟨k19, hk19, hf⟩ := jn1_e hf
      have Jk19 : ∀ (x18 : Int32) (H : Heap) (locs : List Loc) (ls : Array Slot), ZX D cA A B x0 ad T H → va_S (AB A B) s.heap H locs → lv_has ls 9 [(0, .ref x0), (1, .int x2), (4, .ref (ad 0)), (6, .int z11)] → k19 x18 = some (r, T') → W p l e (RM 8 (20 * 16) (200 * 16)) s m args below meth c H locs (20 * T.2.2) (200 * T.2.2) (MQ below (CtQ (AB A B) (some (.int r)) (ZX D cA A B x0 ad T')) args s (20 * 16) (200 * 16) (AB A B)) (F0 m 320 ls [.int x18, .int z16]) := by
        intro x18 H locs ls hX hS hl hf
        rw [hk19] at hf
        obtain ⟨h21, hf⟩ := gd_e hf
        obtain ⟨z20, hz20, hf⟩ := cb_e hf
        refine tSi (As := [.int z16, .int x18]) (rest := []) hAB hC (c_l_part La_a hz20) q_l_part a_599 ⟨Nat.le_of_ble_eq_true rfl, Nat.le_of_ble_eq_true rfl⟩ hX hKX rfl hl.1 (Nat.le_of_ble_eq_true rfl) dL_tables_320 ⟨Nat.mul_le_mul_left 20 h21, Nat.mul_le_mul_left 200 h21⟩ hS (fun _ z => z) (fun H locs hX hS => ?_)
        change ZX D cA A B x0 ad T H at hX
        change W p l e (RM 8 (20 * 16) (200 * 16)) s m args below meth c H locs (20 * T.2.2) (200 * T.2.2) (MQ below (CtQ (AB A B) (some (.int r)) (ZX D cA A B x0 ad T')) args s (20 * 16) (200 * 16) (AB A B)) (F0 m 323 ls [.int z20])
        refine lv_istore (lv' := [(7, .int z20), (0, .ref x0), (1, .int x2), (4, .ref (ad 0)), (6, .int z11)]) hx hb dL_tables_323 hl (by decide) rfl (fun ls hl => ?_)
        refine lv_iload hx hb dL_tables_325 (lv_at hl 0 rfl) ?_
        refine lv_aload hx hb dL_tables_327 (lv_at hl 3 rfl) ?_
        refine lv_iload hx hb dL_tables_329 (lv_at hl 4 rfl) ?_
        obtain ⟨h23, j22, ej22, hf⟩ := rd_e hf
        refine tald hx hb hKX.1 hX (by decide) h23 ej22 dL_tables_331 ?_
        refine lv_bipush (v := 7) hx hb dL_tables_332 (by decide) ?_
        refine lv_iand hx hb dL_tables_334 ?_
        obtain ⟨h25, hf⟩ := gd_e hf
        obtain ⟨z24, hz24, hf⟩ := cb_e hf
        refine tSi (As := [.int z20, .int ((T.2.1 0 j22) &&& 7)]) (rest := []) hAB hC (c_l_part La_a hz24) q_l_part a_599 ⟨Nat.le_of_ble_eq_true rfl, Nat.le_of_ble_eq_true rfl⟩ hX hKX rfl hl.1 (Nat.le_of_ble_eq_true rfl) dL_tables_335 ⟨Nat.mul_le_mul_left 20 h25, Nat.mul_le_mul_left 200 h25⟩ hS (fun _ z => z) (fun H locs hX hS => ?_)
        change ZX D cA A B x0 ad T H at hX
        change W p l e (RM 8 (20 * 16) (200 * 16)) s m args below meth c H locs (20 * T.2.2) (200 * T.2.2) (MQ below (CtQ (AB A B) (some (.int r)) (ZX D cA A B x0 ad T')) args s (20 * 16) (200 * 16) (AB A B)) (F0 m 338 ls [.int z24])
        refine lv_iload hx hb dL_tables_338 (lv_at hl 0 rfl) ?_
        obtain ⟨k27, hk27, hf⟩ := jn1_e hf
        have Jk27 : ∀ (x26 : Int32) (H : Heap) (locs : List Loc) (ls : Array Slot), ZX D cA A B x0 ad T H → va_S (AB A B) s.heap H locs → lv_has ls 9 [(0, .ref x0), (1, .int x2), (4, .ref (ad 0)), (6, .int z11), (7, .int z20)] → k27 x26 = some (r, T') → W p l e (RM 8 (20 * 16) (200 * 16)) s m args below meth c H locs (20 * T.2.2) (200 * T.2.2) (MQ below (CtQ (AB A B) (some (.int r)) (ZX D cA A B x0 ad T')) args s (20 * 16) (200 * 16) (AB A B)) (F0 m 348 ls [.int x26]) := by
          intro x26 H locs ls hX hS hl hf
          rw [hk27] at hf
          refine lv_istore (lv' := [(8, .int x26), (0, .ref x0), (1, .int x2), (4, .ref (ad 0)), (6, .int z11), (7, .int z20)]) hx hb dL_tables_348 hl (by decide) rfl (fun ls hl => ?_)
          refine lv_iload_n hx hb dL_tables_350 rfl (lv_at hl 2 rfl) ?_
          refine lv_iconst (v := 1) hx hb dL_tables_351 (by decide) ?_
          refine lv_icmp_ne (tgt := 534) hx hb dL_tables_352 (by decide) (fun c28 => ?_) (fun c28 => ?_)
          · have hf := it_f c28 hf
            refine lv_aload hx hb dL_tables_534 (lv_at hl 3 rfl) ?_
            refine lv_iconst (v := 3) hx hb dL_tables_536 (by decide) ?_
            refine lv_iload hx hb dL_tables_537 (lv_at hl 4 rfl) ?_
            refine lv_iadd hx hb dL_tables_539 ?_
            obtain ⟨h30, j29, ej29, hf⟩ := rd_e hf
            refine tald hx hb hKX.1 hX (by decide) h30 ej29 dL_tables_540 ?_
            refine lv_iload hx hb dL_tables_541 (lv_at hl 5 rfl) ?_
            refine lv_ishr hx hb dL_tables_543 ?_
            refine lv_iconst (v := 1) hx hb dL_tables_544 (by decide) ?_
            refine lv_iand hx hb dL_tables_545 ?_
            refine lv_if_ne (tgt := 585) hx hb dL_tables_546 (by decide) (fun c31 => ?_) (fun c31 => ?_)
            · have hf := it_f c31 hf
              refine lv_aload hx hb dL_tables_585 (lv_at hl 3 rfl) ?_
              refine lv_iconst (v := 3) hx hb dL_tables_587 (by decide) ?_
              refine lv_iload hx hb dL_tables_588 (lv_at hl 4 rfl) ?_
              refine lv_iadd hx hb dL_tables_590 ?_
              refine lv_dup2_11 hx hb dL_tables_591 rfl rfl ?_
              obtain ⟨h33, j32, ej32, hf⟩ := rd_e hf
              refine tald hx hb hKX.1 hX (by decide) h33 ej32 dL_tables_592 ?_
              refine lv_iconst (v := 1) hx hb dL_tables_593 (by decide) ?_
              refine lv_iload hx hb dL_tables_594 (lv_at hl 5 rfl) ?_
              refine lv_ishl hx hb dL_tables_596 ?_
              refine lv_iconst (v := (-1)) hx hb dL_tables_597 (by decide) ?_
              refine lv_ixor hx hb dL_tables_598 ?_
              refine lv_iand hx hb dL_tables_599 ?_
              obtain ⟨h35, j34, ej34, hf⟩ := rd_e hf
              refine tasv hx hb hAB hKX.1 hX hS (by decide) h35 ej34 dL_tables_600 (fun H locs hX hS => ?_)
              obtain ⟨S36, eS36, hf⟩ := lt_e hf
              rw [← eS36] at hX ⊢
              refine lv_aload_n hx hb dL_tables_601 rfl (lv_at hl 1 rfl) ?_
              refine lv_iload hx hb dL_tables_602 (lv_at hl 4 rfl) ?_
              refine lv_iload hx hb dL_tables_604 (lv_at hl 5 rfl) ?_
              obtain ⟨h38, hf⟩ := gd_e hf
              obtain ⟨z37, hz37, hf⟩ := cb_e hf
              refine tSi (As := [.int z20]) (rest := [.int z11, .ref x0]) hAB hC (c_l_number La_a hz37) q_l_number a_578 ⟨Nat.le_of_ble_eq_true rfl, Nat.le_of_ble_eq_true rfl⟩ hX hKX rfl hl.1 (Nat.le_of_ble_eq_true rfl) dL_tables_606 ⟨Nat.mul_le_mul_left 20 h38, Nat.mul_le_mul_left 200 h38⟩ hS (fun _ z => z) (fun H locs hX hS => ?_)
              change ZX D cA A B x0 ad S36 H at hX
              change W p l e (RM 8 (20 * 16) (200 * 16)) s m args below meth c H locs (20 * S36.2.2) (200 * S36.2.2) (MQ below (CtQ (AB A B) (some (.int r)) (ZX D cA A B x0 ad T')) args s (20 * 16) (200 * 16) (AB A B)) (F0 m 609 ls [.int z37, .int z11, .ref x0])
              obtain ⟨h40, hf⟩ := gd_e hf
              obtain ⟨z39, C41, hz39, hf⟩ := cb2_e hf
              refine tW (As := [.ref x0, .int z11, .int z37]) (rest := []) hAB hC (v_delete hfl hz39) qw_delete a_948 ⟨Nat.le_of_ble_eq_true rfl, Nat.le_of_ble_eq_true rfl⟩ hX (fun q hq => hAs q (Nat.le_trans hS.1 hq)) hKX hTX hNX rfl hl.1 (Nat.le_of_ble_eq_true rfl) dL_tables_609 ⟨Nat.mul_le_mul_left 20 h40, Nat.mul_le_mul_left 200 h40⟩ hS (fun _ z => z) (fun H locs hX hS => ?_)
              obtain ⟨S42, eS42, hf⟩ := lt_e hf
              rw [← eS42] at hX ⊢
              refine lv_aload hx hb dL_tables_612 (lv_at hl 3 rfl) ?_
              refine lv_iconst (v := 3) hx hb dL_tables_614 (by decide) ?_
              refine lv_iload hx hb dL_tables_615 (lv_at hl 4 rfl) ?_
              refine lv_iadd hx hb dL_tables_617 ?_
              obtain ⟨h44, j43, ej43, hf⟩ := rd_e hf
              refine tald hx hb hKX.1 hX (by decide) h44 ej43 dL_tables_618 ?_
              obtain ⟨h46, hf⟩ := gd_e hf
              obtain ⟨z45, hz45, hf⟩ := cb_e hf
              refine tSi (As := [.int (S42.2.1 0 j43)]) (rest := [.int z39]) hAB hC (c_l_count La_a hz45) q_l_count a_617 ⟨Nat.le_of_ble_eq_true rfl, Nat.le_of_ble_eq_true rfl⟩ hX hKX rfl hl.1 (Nat.le_of_ble_eq_true rfl) dL_tables_619 ⟨Nat.mul_le_mul_left 20 h46, Nat.mul_le_mul_left 200 h46⟩ hS (fun _ z => z) (fun H locs hX hS => ?_)
              change ZX D cA A B x0 ad S42 H at hX
              change W p l e (RM 8 (20 * 16) (200 * 16)) s m args below meth c H locs (20 * S42.2.2) (200 * S42.2.2) (MQ below (CtQ (AB A B) (some (.int r)) (ZX D cA A B x0 ad T')) args s (20 * 16) (200 * 16) (AB A B)) (F0 m 622 ls [.int z45, .int z39])
              refine lv_icmp_ne (tgt := 629) hx hb dL_tables_622 (by decide) (fun c47 => ?_) (fun c47 => ?_)
              · have hf := it_f c47 hf
                refine lv_iconst (v := 0) hx hb dL_tables_629 (by decide) ?_
                obtain ⟨h48, hf⟩ := gd_e hf
                cases hf
                exact CtT_rz hx hb hr hlk nz0 hX hS (Nat.mul_le_mul_left 20 h48) (Nat.mul_le_mul_left 200 h48) dL_tables_630
              · have hf := it_t c47 hf
                refine lv_iconst (v := 1) hx hb dL_tables_625 (by decide) ?_
                refine lv_goto (tgt := 630) hx hb dL_tables_626 (by decide) ?_
                obtain ⟨h49, hf⟩ := gd_e hf
                cases hf
                exact CtT_rz hx hb hr hlk nz1 hX hS (Nat.mul_le_mul_left 20 h49) (Nat.mul_le_mul_left 200 h49) dL_tables_630
            · have hf := it_t c31 hf
              refine lv_aload_n hx hb dL_tables_549 rfl (lv_at hl 1 rfl) ?_
              refine lv_iload hx hb dL_tables_550 (lv_at hl 4 rfl) ?_
              refine lv_iload hx hb dL_tables_552 (lv_at hl 5 rfl) ?_
              obtain ⟨h51, hf⟩ := gd_e hf
              obtain ⟨z50, hz50, hf⟩ := cb_e hf
              refine tSi (As := [.int z20]) (rest := [.int z11, .ref x0]) hAB hC (c_l_number La_a hz50) q_l_number a_578 ⟨Nat.le_of_ble_eq_true rfl, Nat.le_of_ble_eq_true rfl⟩ hX hKX rfl hl.1 (Nat.le_of_ble_eq_true rfl) dL_tables_554 ⟨Nat.mul_le_mul_left 20 h51, Nat.mul_le_mul_left 200 h51⟩ hS (fun _ z => z) (fun H locs hX hS => ?_)
              change ZX D cA A B x0 ad T H at hX
              change W p l e (RM 8 (20 * 16) (200 * 16)) s m args below meth c H locs (20 * T.2.2) (200 * T.2.2) (MQ below (CtQ (AB A B) (some (.int r)) (ZX D cA A B x0 ad T')) args s (20 * 16) (200 * 16) (AB A B)) (F0 m 557 ls [.int z50, .int z11, .ref x0])
              obtain ⟨h53, hf⟩ := gd_e hf
              obtain ⟨z52, C54, hz52, hf⟩ := cb2_e hf
              refine tW (As := [.ref x0, .int z11, .int z50]) (rest := []) hAB hC (v_delete hfl hz52) qw_delete a_948 ⟨Nat.le_of_ble_eq_true rfl, Nat.le_of_ble_eq_true rfl⟩ hX (fun q hq => hAs q (Nat.le_trans hS.1 hq)) hKX hTX hNX rfl hl.1 (Nat.le_of_ble_eq_true rfl) dL_tables_557 ⟨Nat.mul_le_mul_left 20 h53, Nat.mul_le_mul_left 200 h53⟩ hS (fun _ z => z) (fun H locs hX hS => ?_)
              obtain ⟨S55, eS55, hf⟩ := lt_e hf
              rw [← eS55] at hX ⊢
              refine lv_sipush (v := (-7400)) hx hb dL_tables_560 (by decide) ?_
              refine lv_icmp_ne (tgt := 583) hx hb dL_tables_563 (by decide) (fun c56 => ?_) (fun c56 => ?_)
              · have hf := it_f c56 hf
                refine lv_iconst (v := 0) hx hb dL_tables_583 (by decide) ?_
                obtain ⟨h57, hf⟩ := gd_e hf
                cases hf
                exact CtT_rz hx hb hr hlk nz0 hX hS (Nat.mul_le_mul_left 20 h57) (Nat.mul_le_mul_left 200 h57) dL_tables_584
              · have hf := it_t c56 hf
                refine lv_aload_n hx hb dL_tables_566 rfl (lv_at hl 1 rfl) ?_
                refine lv_iload hx hb dL_tables_567 (lv_at hl 4 rfl) ?_
                refine lv_iconst (v := (-1)) hx hb dL_tables_569 (by decide) ?_
                obtain ⟨h59, hf⟩ := gd_e hf
                obtain ⟨z58, C60, hz58, hf⟩ := cb2_e hf
                refine tW (As := [.ref x0, .int z11, .int (-1)]) (rest := []) hAB hC (v_delete hfl hz58) qw_delete a_948 ⟨Nat.le_of_ble_eq_true rfl, Nat.le_of_ble_eq_true rfl⟩ hX (fun q hq => hAs q (Nat.le_trans hS.1 hq)) hKX hTX hNX rfl hl.1 (Nat.le_of_ble_eq_true rfl) dL_tables_570 ⟨Nat.mul_le_mul_left 20 h59, Nat.mul_le_mul_left 200 h59⟩ hS (fun _ z => z) (fun H locs hX hS => ?_)
                obtain ⟨S61, eS61, hf⟩ := lt_e hf
                rw [← eS61] at hX ⊢
                refine lv_sipush (v := (-7400)) hx hb dL_tables_573 (by decide) ?_
                refine lv_icmp_ne (tgt := 583) hx hb dL_tables_576 (by decide) (fun c62 => ?_) (fun c62 => ?_)
                · have hf := it_f c62 hf
                  refine lv_iconst (v := 0) hx hb dL_tables_583 (by decide) ?_
                  obtain ⟨h63, hf⟩ := gd_e hf
                  cases hf
                  exact CtT_rz hx hb hr hlk nz0 hX hS (Nat.mul_le_mul_left 20 h63) (Nat.mul_le_mul_left 200 h63) dL_tables_584
                · have hf := it_t c62 hf
                  refine lv_iconst (v := 1) hx hb dL_tables_579 (by decide) ?_
                  refine lv_goto (tgt := 584) hx hb dL_tables_580 (by decide) ?_
                  obtain ⟨h64, hf⟩ := gd_e hf
                  cases hf
                  exact CtT_rz hx hb hr hlk nz1 hX hS (Nat.mul_le_mul_left 20 h64) (Nat.mul_le_mul_left 200 h64) dL_tables_584
          · have hf := it_t c28 hf
            refine lv_aload_n hx hb dL_tables_355 rfl (lv_at hl 1 rfl) ?_
            refine lv_iload hx hb dL_tables_356 (lv_at hl 4 rfl) ?_
            refine lv_iconst (v := (-1)) hx hb dL_tables_358 (by decide) ?_
            obtain ⟨h66, hf⟩ := gd_e hf
            obtain ⟨z65, C67, hz65, hf⟩ := cb2_e hf
            refine tW (As := [.ref x0, .int z11, .int (-1)]) (rest := []) hAB hC (v_insert hfl hz65) qw_insert a_935 ⟨Nat.le_of_ble_eq_true rfl, Nat.le_of_ble_eq_true rfl⟩ hX (fun q hq => hAs q (Nat.le_trans hS.1 hq)) hKX hTX hNX rfl hl.1 (Nat.le_of_ble_eq_true rfl) dL_tables_359 ⟨Nat.mul_le_mul_left 20 h66, Nat.mul_le_mul_left 200 h66⟩ hS (fun _ z => z) (fun H locs hX hS => ?_)
            obtain ⟨S68, eS68, hf⟩ := lt_e hf
            rw [← eS68] at hX ⊢
            refine lv_sipush (v := (-7200)) hx hb dL_tables_362 (by decide) ?_
            refine lv_icmp_ne (tgt := 397) hx hb dL_tables_365 (by decide) (fun c69 => ?_) (fun c69 => ?_)
            · have hf := it_f c69 hf
              refine lv_iconst (v := 0) hx hb dL_tables_397 (by decide) ?_
              obtain ⟨h70, hf⟩ := gd_e hf
              cases hf
              exact CtT_rz hx hb hr hlk nz0 hX hS (Nat.mul_le_mul_left 20 h70) (Nat.mul_le_mul_left 200 h70) dL_tables_398
            · have hf := it_t c69 hf
              refine lv_aload_n hx hb dL_tables_368 rfl (lv_at hl 1 rfl) ?_
              refine lv_iload hx hb dL_tables_369 (lv_at hl 4 rfl) ?_
              refine lv_ldc (v := 1000000) hx hb hC.2.2.2.1 (tA hC.2.2.2.2 a_955) dL_tables_371 ?_
              obtain ⟨h72, hf⟩ := gd_e hf
              obtain ⟨z71, C73, hz71, hf⟩ := cb2_e hf
              refine tW (As := [.ref x0, .int z11, .int 1000000]) (rest := []) hAB hC (v_insert hfl hz71) qw_insert a_935 ⟨Nat.le_of_ble_eq_true rfl, Nat.le_of_ble_eq_true rfl⟩ hX (fun q hq => hAs q (Nat.le_trans hS.1 hq)) hKX hTX hNX rfl hl.1 (Nat.le_of_ble_eq_true rfl) dL_tables_373 ⟨Nat.mul_le_mul_left 20 h72, Nat.mul_le_mul_left 200 h72⟩ hS (fun _ z => z) (fun H locs hX hS => ?_)
              obtain ⟨S74, eS74, hf⟩ := lt_e hf
              rw [← eS74] at hX ⊢
              refine lv_sipush (v := (-7200)) hx hb dL_tables_376 (by decide) ?_
              refine lv_icmp_ne (tgt := 397) hx hb dL_tables_379 (by decide) (fun c75 => ?_) (fun c75 => ?_)
              · have hf := it_f c75 hf
                refine lv_iconst (v := 0) hx hb dL_tables_397 (by decide) ?_
                obtain ⟨h76, hf⟩ := gd_e hf
                cases hf
                exact CtT_rz hx hb hr hlk nz0 hX hS (Nat.mul_le_mul_left 20 h76) (Nat.mul_le_mul_left 200 h76) dL_tables_398
              · have hf := it_t c75 hf
                refine lv_aload_n hx hb dL_tables_382 rfl (lv_at hl 1 rfl) ?_
                refine lv_iload hx hb dL_tables_383 (lv_at hl 4 rfl) ?_
                refine lv_sipush (v := 1000) hx hb dL_tables_385 (by decide) ?_
                obtain ⟨h78, hf⟩ := gd_e hf
                obtain ⟨z77, C79, hz77, hf⟩ := cb2_e hf
                refine tW (As := [.ref x0, .int z11, .int 1000]) (rest := []) hAB hC (v_insert hfl hz77) qw_insert a_935 ⟨Nat.le_of_ble_eq_true rfl, Nat.le_of_ble_eq_true rfl⟩ hX (fun q hq => hAs q (Nat.le_trans hS.1 hq)) hKX hTX hNX rfl hl.1 (Nat.le_of_ble_eq_true rfl) dL_tables_388 ⟨Nat.mul_le_mul_left 20 h78, Nat.mul_le_mul_left 200 h78⟩ hS (fun _ z => z) (fun H locs hX hS => ?_)
                obtain ⟨S80, eS80, hf⟩ := lt_e hf
                rw [← eS80] at hX ⊢
                refine lv_sipush (v := (-7200)) hx hb dL_tables_391 (by decide) ?_
                refine lv_icmp_eq (tgt := 399) hx hb dL_tables_394 (by decide) (fun c81 => ?_) (fun c81 => ?_)
                · have hf := it_t c81 hf
                  refine lv_iload hx hb dL_tables_399 (lv_at hl 0 rfl) ?_
                  refine lv_if_ne (tgt := 427) hx hb dL_tables_401 (by decide) (fun c82 => ?_) (fun c82 => ?_)
                  · have hf := it_f c82 hf
                    refine lv_iconst (v := 1) hx hb dL_tables_427 (by decide) ?_
                    refine lv_iload hx hb dL_tables_428 (lv_at hl 5 rfl) ?_
                    refine lv_ishl hx hb dL_tables_430 ?_
                    refine lv_aload hx hb dL_tables_431 (lv_at hl 3 rfl) ?_
                    refine lv_iconst (v := 3) hx hb dL_tables_433 (by decide) ?_
                    refine lv_iload hx hb dL_tables_434 (lv_at hl 4 rfl) ?_
                    refine lv_iadd hx hb dL_tables_436 ?_
                    obtain ⟨h84, j83, ej83, hf⟩ := rd_e hf
                    refine tald hx hb hKX.1 hX (by decide) h84 ej83 dL_tables_437 ?_
                    refine lv_aload hx hb dL_tables_438 (lv_at hl 3 rfl) ?_
                    refine lv_iload hx hb dL_tables_440 (lv_at hl 4 rfl) ?_
                    obtain ⟨h86, j85, ej85, hf⟩ := rd_e hf
                    refine tald hx hb hKX.1 hX (by decide) h86 ej85 dL_tables_442 ?_
                    refine lv_iconst (v := 3) hx hb dL_tables_443 (by decide) ?_
                    refine lv_ishr hx hb dL_tables_444 ?_
                    refine lv_iconst (v := 1) hx hb dL_tables_445 (by decide) ?_
                    obtain ⟨h88, hf⟩ := gd_e hf
                    obtain ⟨z87, hz87, hf⟩ := cb_e hf
                    refine tSi (As := [.int ((1 : Int32) <<< (z20 &&& 31)), .int (S80.2.1 0 j83), .int ((S80.2.1 0 j85) >>> ((3 : Int32) &&& 31)), .int 1]) (rest := []) hAB hC (c_l_like La_a hz87) q_l_like a_614 ⟨Nat.le_of_ble_eq_true rfl, Nat.le_of_ble_eq_true rfl⟩ hX hKX rfl hl.1 (Nat.le_of_ble_eq_true rfl) dL_tables_446 ⟨Nat.mul_le_mul_left 20 h88, Nat.mul_le_mul_left 200 h88⟩ hS (fun _ z => z) (fun H locs hX hS => ?_)
                    change ZX D cA A B x0 ad S80 H at hX
                    change W p l e (RM 8 (20 * 16) (200 * 16)) s m args below meth c H locs (20 * S80.2.2) (200 * S80.2.2) (MQ below (CtQ (AB A B) (some (.int r)) (ZX D cA A B x0 ad T')) args s (20 * 16) (200 * 16) (AB A B)) (F0 m 449 ls [.int z87])
                    obtain ⟨k89, hk89, hf⟩ := jn0_e hf
                    have Jk89 : ∀  (H : Heap) (locs : List Loc) (ls : Array Slot), ZX D cA A B x0 ad S80 H → va_S (AB A B) s.heap H locs → lv_has ls 9 [(0, .ref x0), (6, .int z11), (7, .int z20)] → k89 = some (r, T') → W p l e (RM 8 (20 * 16) (200 * 16)) s m args below meth c H locs (20 * S80.2.2) (200 * S80.2.2) (MQ below (CtQ (AB A B) (some (.int r)) (ZX D cA A B x0 ad T')) args s (20 * 16) (200 * 16) (AB A B)) (F0 m 467 ls []) := by
                      intro  H locs ls hX hS hl hf
                      rw [hk89] at hf
                      refine lv_aload_n hx hb dL_tables_467 rfl (lv_at hl 0 rfl) ?_
                      refine lv_iload hx hb dL_tables_468 (lv_at hl 1 rfl) ?_
                      refine lv_iload hx hb dL_tables_470 (lv_at hl 2 rfl) ?_
                      obtain ⟨h91, hf⟩ := gd_e hf
                      obtain ⟨z90, hz90, hf⟩ := cb_e hf
                      refine tSi (As := [.int z20]) (rest := [.int z11, .ref x0]) hAB hC (c_l_number La_a hz90) q_l_number a_578 ⟨Nat.le_of_ble_eq_true rfl, Nat.le_of_ble_eq_true rfl⟩ hX hKX rfl hl.1 (Nat.le_of_ble_eq_true rfl) dL_tables_472 ⟨Nat.mul_le_mul_left 20 h91, Nat.mul_le_mul_left 200 h91⟩ hS (fun _ z => z) (fun H locs hX hS => ?_)
                      change ZX D cA A B x0 ad S80 H at hX
                      change W p l e (RM 8 (20 * 16) (200 * 16)) s m args below meth c H locs (20 * S80.2.2) (200 * S80.2.2) (MQ below (CtQ (AB A B) (some (.int r)) (ZX D cA A B x0 ad T')) args s (20 * 16) (200 * 16) (AB A B)) (F0 m 475 ls [.int z90, .int z11, .ref x0])
                      obtain ⟨h93, hf⟩ := gd_e hf
                      obtain ⟨z92, C94, hz92, hf⟩ := cb2_e hf
                      refine tW (As := [.ref x0, .int z11, .int z90]) (rest := []) hAB hC (v_insert hfl hz92) qw_insert a_935 ⟨Nat.le_of_ble_eq_true rfl, Nat.le_of_ble_eq_true rfl⟩ hX (fun q hq => hAs q (Nat.le_trans hS.1 hq)) hKX hTX hNX rfl hl.1 (Nat.le_of_ble_eq_true rfl) dL_tables_475 ⟨Nat.mul_le_mul_left 20 h93, Nat.mul_le_mul_left 200 h93⟩ hS (fun _ z => z) (fun H locs hX hS => ?_)
                      obtain ⟨S95, eS95, hf⟩ := lt_e hf
                      rw [← eS95] at hX ⊢
                      refine lv_sipush (v := (-7300)) hx hb dL_tables_478 (by decide) ?_
                      refine lv_icmp_ne (tgt := 488) hx hb dL_tables_481 (by decide) (fun c96 => ?_) (fun c96 => ?_)
                      · have hf := it_f c96 hf
                        refine lv_iconst (v := 0) hx hb dL_tables_488 (by decide) ?_
                        obtain ⟨h97, hf⟩ := gd_e hf
                        cases hf
                        exact CtT_rz hx hb hr hlk nz0 hX hS (Nat.mul_le_mul_left 20 h97) (Nat.mul_le_mul_left 200 h97) dL_tables_489
                      · have hf := it_t c96 hf
                        refine lv_iconst (v := 1) hx hb dL_tables_484 (by decide) ?_
                        refine lv_goto (tgt := 489) hx hb dL_tables_485 (by decide) ?_
                        obtain ⟨h98, hf⟩ := gd_e hf
                        cases hf
                        exact CtT_rz hx hb hr hlk nz1 hX hS (Nat.mul_le_mul_left 20 h98) (Nat.mul_le_mul_left 200 h98) dL_tables_489
                    refine lv_if_ne (tgt := 467) hx hb dL_tables_449 (by decide) (fun c99 => ?_) (fun c99 => ?_)
                    · have hf := it_f c99 hf
                      exact Jk89 _ _ _ hX hS (lv_sub hl [1, 4, 5] rfl) hf
                    · have hf := it_t c99 hf
                      refine lv_aload hx hb dL_tables_452 (lv_at hl 3 rfl) ?_
                      refine lv_iconst (v := 3) hx hb dL_tables_454 (by decide) ?_
                      refine lv_iload hx hb dL_tables_455 (lv_at hl 4 rfl) ?_
                      refine lv_iadd hx hb dL_tables_457 ?_
                      obtain ⟨h101, j100, ej100, hf⟩ := rd_e hf
                      refine tald hx hb hKX.1 hX (by decide) h101 ej100 dL_tables_458 ?_
                      obtain ⟨h103, hf⟩ := gd_e hf
                      obtain ⟨z102, hz102, hf⟩ := cb_e hf
                      refine tSi (As := [.int (S80.2.1 0 j100)]) (rest := []) hAB hC (c_l_count La_a hz102) q_l_count a_617 ⟨Nat.le_of_ble_eq_true rfl, Nat.le_of_ble_eq_true rfl⟩ hX hKX rfl hl.1 (Nat.le_of_ble_eq_true rfl) dL_tables_459 ⟨Nat.mul_le_mul_left 20 h103, Nat.mul_le_mul_left 200 h103⟩ hS (fun _ z => z) (fun H locs hX hS => ?_)
                      change ZX D cA A B x0 ad S80 H at hX
                      change W p l e (RM 8 (20 * 16) (200 * 16)) s m args below meth c H locs (20 * S80.2.2) (200 * S80.2.2) (MQ below (CtQ (AB A B) (some (.int r)) (ZX D cA A B x0 ad T')) args s (20 * 16) (200 * 16) (AB A B)) (F0 m 462 ls [.int z102])
                      refine lv_bipush (v := 12) hx hb dL_tables_462 (by decide) ?_
                      refine lv_icmp_ne (tgt := 490) hx hb dL_tables_464 (by decide) (fun c104 => ?_) (fun c104 => ?_)
                      · have hf := it_f c104 hf
                        refine lv_aload hx hb dL_tables_490 (lv_at hl 3 rfl) ?_
                        refine lv_iconst (v := 3) hx hb dL_tables_492 (by decide) ?_
                        refine lv_iload hx hb dL_tables_493 (lv_at hl 4 rfl) ?_
                        refine lv_iadd hx hb dL_tables_495 ?_
                        refine lv_dup2_11 hx hb dL_tables_496 rfl rfl ?_
                        obtain ⟨h106, j105, ej105, hf⟩ := rd_e hf
                        refine tald hx hb hKX.1 hX (by decide) h106 ej105 dL_tables_497 ?_
                        refine lv_iconst (v := 1) hx hb dL_tables_498 (by decide) ?_
                        refine lv_iload hx hb dL_tables_499 (lv_at hl 5 rfl) ?_
                        refine lv_ishl hx hb dL_tables_501 ?_
                        refine lv_ior hx hb dL_tables_502 ?_
                        obtain ⟨h108, j107, ej107, hf⟩ := rd_e hf
                        refine tasv hx hb hAB hKX.1 hX hS (by decide) h108 ej107 dL_tables_503 (fun H locs hX hS => ?_)
                        obtain ⟨S109, eS109, hf⟩ := lt_e hf
                        rw [← eS109] at hX ⊢
                        refine lv_aload_n hx hb dL_tables_504 rfl (lv_at hl 1 rfl) ?_
                        refine lv_iload hx hb dL_tables_505 (lv_at hl 4 rfl) ?_
                        refine lv_iload hx hb dL_tables_507 (lv_at hl 5 rfl) ?_
                        obtain ⟨h111, hf⟩ := gd_e hf
                        obtain ⟨z110, hz110, hf⟩ := cb_e hf
                        refine tSi (As := [.int z20]) (rest := [.int z11, .ref x0]) hAB hC (c_l_number La_a hz110) q_l_number a_578 ⟨Nat.le_of_ble_eq_true rfl, Nat.le_of_ble_eq_true rfl⟩ hX hKX rfl hl.1 (Nat.le_of_ble_eq_true rfl) dL_tables_509 ⟨Nat.mul_le_mul_left 20 h111, Nat.mul_le_mul_left 200 h111⟩ hS (fun _ z => z) (fun H locs hX hS => ?_)
                        change ZX D cA A B x0 ad S109 H at hX
                        change W p l e (RM 8 (20 * 16) (200 * 16)) s m args below meth c H locs (20 * S109.2.2) (200 * S109.2.2) (MQ below (CtQ (AB A B) (some (.int r)) (ZX D cA A B x0 ad T')) args s (20 * 16) (200 * 16) (AB A B)) (F0 m 512 ls [.int z110, .int z11, .ref x0])
                        obtain ⟨h113, hf⟩ := gd_e hf
                        obtain ⟨z112, C114, hz112, hf⟩ := cb2_e hf
                        refine tW (As := [.ref x0, .int z11, .int z110]) (rest := []) hAB hC (v_insert hfl hz112) qw_insert a_935 ⟨Nat.le_of_ble_eq_true rfl, Nat.le_of_ble_eq_true rfl⟩ hX (fun q hq => hAs q (Nat.le_trans hS.1 hq)) hKX hTX hNX rfl hl.1 (Nat.le_of_ble_eq_true rfl) dL_tables_512 ⟨Nat.mul_le_mul_left 20 h113, Nat.mul_le_mul_left 200 h113⟩ hS (fun _ z => z) (fun H locs hX hS => ?_)
                        obtain ⟨S115, eS115, hf⟩ := lt_e hf
                        rw [← eS115] at hX ⊢
                        refine lv_aload hx hb dL_tables_515 (lv_at hl 3 rfl) ?_
                        refine lv_iconst (v := 3) hx hb dL_tables_517 (by decide) ?_
                        refine lv_iload hx hb dL_tables_518 (lv_at hl 4 rfl) ?_
                        refine lv_iadd hx hb dL_tables_520 ?_
                        obtain ⟨h117, j116, ej116, hf⟩ := rd_e hf
                        refine tald hx hb hKX.1 hX (by decide) h117 ej116 dL_tables_521 ?_
                        obtain ⟨h119, hf⟩ := gd_e hf
                        obtain ⟨z118, hz118, hf⟩ := cb_e hf
                        refine tSi (As := [.int (S115.2.1 0 j116)]) (rest := [.int z112]) hAB hC (c_l_count La_a hz118) q_l_count a_617 ⟨Nat.le_of_ble_eq_true rfl, Nat.le_of_ble_eq_true rfl⟩ hX hKX rfl hl.1 (Nat.le_of_ble_eq_true rfl) dL_tables_522 ⟨Nat.mul_le_mul_left 20 h119, Nat.mul_le_mul_left 200 h119⟩ hS (fun _ z => z) (fun H locs hX hS => ?_)
                        change ZX D cA A B x0 ad S115 H at hX
                        change W p l e (RM 8 (20 * 16) (200 * 16)) s m args below meth c H locs (20 * S115.2.2) (200 * S115.2.2) (MQ below (CtQ (AB A B) (some (.int r)) (ZX D cA A B x0 ad T')) args s (20 * 16) (200 * 16) (AB A B)) (F0 m 525 ls [.int z118, .int z112])
                        refine lv_icmp_ne (tgt := 532) hx hb dL_tables_525 (by decide) (fun c120 => ?_) (fun c120 => ?_)
                        · have hf := it_f c120 hf
                          refine lv_iconst (v := 0) hx hb dL_tables_532 (by decide) ?_
                          obtain ⟨h121, hf⟩ := gd_e hf
                          cases hf
                          exact CtT_rz hx hb hr hlk nz0 hX hS (Nat.mul_le_mul_left 20 h121) (Nat.mul_le_mul_left 200 h121) dL_tables_533
                        · have hf := it_t c120 hf
                          refine lv_iconst (v := 1) hx hb dL_tables_528 (by decide) ?_
                          refine lv_goto (tgt := 533) hx hb dL_tables_529 (by decide) ?_
                          obtain ⟨h122, hf⟩ := gd_e hf
                          cases hf
                          exact CtT_rz hx hb hr hlk nz1 hX hS (Nat.mul_le_mul_left 20 h122) (Nat.mul_le_mul_left 200 h122) dL_tables_533
                      · have hf := it_t c104 hf
                        exact Jk89 _ _ _ hX hS (lv_sub hl [1, 4, 5] rfl) hf
                  · have hf := it_t c82 hf
                    refine lv_aload_n hx hb dL_tables_404 rfl (lv_at hl 1 rfl) ?_
                    refine lv_iload hx hb dL_tables_405 (lv_at hl 4 rfl) ?_
                    refine lv_iload hx hb dL_tables_407 (lv_at hl 5 rfl) ?_
                    obtain ⟨h124, hf⟩ := gd_e hf
                    obtain ⟨z123, hz123, hf⟩ := cb_e hf
                    refine tSi (As := [.int z20]) (rest := [.int z11, .ref x0]) hAB hC (c_l_number La_a hz123) q_l_number a_578 ⟨Nat.le_of_ble_eq_true rfl, Nat.le_of_ble_eq_true rfl⟩ hX hKX rfl hl.1 (Nat.le_of_ble_eq_true rfl) dL_tables_409 ⟨Nat.mul_le_mul_left 20 h124, Nat.mul_le_mul_left 200 h124⟩ hS (fun _ z => z) (fun H locs hX hS => ?_)
                    change ZX D cA A B x0 ad S80 H at hX
                    change W p l e (RM 8 (20 * 16) (200 * 16)) s m args below meth c H locs (20 * S80.2.2) (200 * S80.2.2) (MQ below (CtQ (AB A B) (some (.int r)) (ZX D cA A B x0 ad T')) args s (20 * 16) (200 * 16) (AB A B)) (F0 m 412 ls [.int z123, .int z11, .ref x0])
                    obtain ⟨h126, hf⟩ := gd_e hf
                    obtain ⟨z125, C127, hz125, hf⟩ := cb2_e hf
                    refine tW (As := [.ref x0, .int z11, .int z123]) (rest := []) hAB hC (v_insert hfl hz125) qw_insert a_935 ⟨Nat.le_of_ble_eq_true rfl, Nat.le_of_ble_eq_true rfl⟩ hX (fun q hq => hAs q (Nat.le_trans hS.1 hq)) hKX hTX hNX rfl hl.1 (Nat.le_of_ble_eq_true rfl) dL_tables_412 ⟨Nat.mul_le_mul_left 20 h126, Nat.mul_le_mul_left 200 h126⟩ hS (fun _ z => z) (fun H locs hX hS => ?_)
                    obtain ⟨S128, eS128, hf⟩ := lt_e hf
                    rw [← eS128] at hX ⊢
                    refine lv_sipush (v := (-7200)) hx hb dL_tables_415 (by decide) ?_
                    refine lv_icmp_ne (tgt := 425) hx hb dL_tables_418 (by decide) (fun c129 => ?_) (fun c129 => ?_)
                    · have hf := it_f c129 hf
                      refine lv_iconst (v := 0) hx hb dL_tables_425 (by decide) ?_
                      obtain ⟨h130, hf⟩ := gd_e hf
                      cases hf
                      exact CtT_rz hx hb hr hlk nz0 hX hS (Nat.mul_le_mul_left 20 h130) (Nat.mul_le_mul_left 200 h130) dL_tables_426
                    · have hf := it_t c129 hf
                      refine lv_iconst (v := 1) hx hb dL_tables_421 (by decide) ?_
                      refine lv_goto (tgt := 426) hx hb dL_tables_422 (by decide) ?_
                      obtain ⟨h131, hf⟩ := gd_e hf
                      cases hf
                      exact CtT_rz hx hb hr hlk nz1 hX hS (Nat.mul_le_mul_left 20 h131) (Nat.mul_le_mul_left 200 h131) dL_tables_426
                · have hf := it_f c81 hf
                  refine lv_iconst (v := 0) hx hb dL_tables_397 (by decide) ?_
                  obtain ⟨h132, hf⟩ := gd_e hf
                  cases hf
                  exact CtT_rz hx hb hr hlk nz0 hX hS (Nat.mul_le_mul_left 20 h132) (Nat.mul_le_mul_left 200 h132) dL_tables_398
        refine lv_icmp_ne (tgt := 347) hx hb dL_tables_340 (by decide) (fun c133 => ?_) (fun c133 => ?_)
        · have hf := it_f c133 hf
          refine lv_iconst (v := 0) hx hb dL_tables_347 (by decide) ?_
          exact Jk27 _ _ _ _ hX hS (lv_sub hl [1, 2, 3, 4, 0] rfl) hf
        · have hf := it_t c133 hf
          refine lv_iconst (v := 1) hx hb dL_tables_343 (by decide) ?_
          refine lv_goto (tgt := 348) hx hb dL_tables_344 (by decide) ?_
          exact Jk27 _ _ _ _ hX hS (lv_sub hl [1, 2, 3, 4, 0] rfl) hf
      refine lv_if_ne (tgt := 312) hx hb dL_tables_304 (by decide) (fun c134 => ?_) (fun c134 => ?_)
      · have hf := it_f c134 hf
        refine lv_aload hx hb dL_tables_312 (lv_at hl 5 rfl) ?_
        refine lv_iload hx hb dL_tables_314 (lv_at hl 0 rfl) ?_
        obtain ⟨h136, j135, ej135, hf⟩ := rd_e hf
        refine tald hx hb hKX.1 hX (by decide) h136 ej135 dL_tables_316 ?_
        refine lv_bipush (v := 7) hx hb dL_tables_317 (by decide) ?_
        refine lv_iand hx hb dL_tables_319 ?_
        exact Jk19 _ _ _ _ hX hS (lv_sub hl [1, 2, 5, 0] rfl) hf
      · have hf := it_t c134 hf
        refine lv_bipush (v := 7) hx hb dL_tables_307 (by decide) ?_
        refine lv_goto (tgt := 320) hx hb dL_tables_309 (by decide) ?_
        exact Jk19 _ _ _ _ hX hS (lv_sub hl [1, 2, 5, 0] rfl) hf
    · have hf := it_t c15 hf
      refine lv_aload_n hx hb dL_tables_249 rfl (lv_at hl 1 rfl) ?_
      refine lv_iload hx hb dL_tables_250 (lv_at hl 0 rfl) ?_
      refine lv_iconst (v := 0) hx hb dL_tables_252 (by decide) ?_
      obtain ⟨h138, hf⟩ := gd_e hf
      obtain ⟨z137, C139, hz137, hf⟩ := cb2_e hf
      refine tW (As := [.ref x0, .int z11, .int 0]) (rest := []) hAB hC (v_insert hfl hz137) qw_insert a_935 ⟨Nat.le_of_ble_eq_true rfl, Nat.le_of_ble_eq_true rfl⟩ hX (fun q hq => hAs q (Nat.le_trans hS.1 hq)) hKX hTX hNX rfl hl.1 (Nat.le_of_ble_eq_true rfl) dL_tables_253 ⟨Nat.mul_le_mul_left 20 h138, Nat.mul_le_mul_left 200 h138⟩ hS (fun _ z => z) (fun H locs hX hS => ?_)
      obtain ⟨S140, eS140, hf⟩ := lt_e hf
      rw [← eS140] at hX ⊢
      refine lv_sipush (v := (-7100)) hx hb dL_tables_256 (by decide) ?_
      refine lv_icmp_ne (tgt := 291) hx hb dL_tables_259 (by decide) (fun c141 => ?_) (fun c141 => ?_)
      · have hf := it_f c141 hf
        refine lv_iconst (v := 0) hx hb dL_tables_291 (by decide) ?_
        obtain ⟨h142, hf⟩ := gd_e hf
        cases hf
        exact CtT_rz hx hb hr hlk nz0 hX hS (Nat.mul_le_mul_left 20 h142) (Nat.mul_le_mul_left 200 h142) dL_tables_292
      · have hf := it_t c141 hf
        refine lv_aload_n hx hb dL_tables_262 rfl (lv_at hl 1 rfl) ?_
        refine lv_iload hx hb dL_tables_263 (lv_at hl 0 rfl) ?_
        refine lv_iconst (v := 0) hx hb dL_tables_265 (by decide) ?_
        obtain ⟨h144, hf⟩ := gd_e hf
        obtain ⟨z143, C145, hz143, hf⟩ := cb2_e hf
        refine tW (As := [.ref x0, .int z11, .int 0]) (rest := []) hAB hC (v_delete hfl hz143) qw_delete a_948 ⟨Nat.le_of_ble_eq_true rfl, Nat.le_of_ble_eq_true rfl⟩ hX (fun q hq => hAs q (Nat.le_trans hS.1 hq)) hKX hTX hNX rfl hl.1 (Nat.le_of_ble_eq_true rfl) dL_tables_266 ⟨Nat.mul_le_mul_left 20 h144, Nat.mul_le_mul_left 200 h144⟩ hS (fun _ z => z) (fun H locs hX hS => ?_)
        obtain ⟨S146, eS146, hf⟩ := lt_e hf
        rw [← eS146] at hX ⊢
        refine lv_sipush (v := (-7100)) hx hb dL_tables_269 (by decide) ?_
        refine lv_icmp_ne (tgt := 291) hx hb dL_tables_272 (by decide) (fun c147 => ?_) (fun c147 => ?_)
        · have hf := it_f c147 hf
          refine lv_iconst (v := 0) hx hb dL_tables_291 (by decide) ?_
          obtain ⟨h148, hf⟩ := gd_e hf
          cases hf
          exact CtT_rz hx hb hr hlk nz0 hX hS (Nat.mul_le_mul_left 20 h148) (Nat.mul_le_mul_left 200 h148) dL_tables_292
        · have hf := it_t c147 hf
          refine lv_aload_n hx hb dL_tables_275 rfl (lv_at hl 1 rfl) ?_
          refine lv_iconst (v := (-1)) hx hb dL_tables_276 (by decide) ?_
          refine lv_iconst (v := (-1)) hx hb dL_tables_277 (by decide) ?_
          obtain ⟨h150, hf⟩ := gd_e hf
          obtain ⟨z149, C151, hz149, hf⟩ := cb2_e hf
          refine tW (As := [.ref x0, .int (-1), .int (-1)]) (rest := []) hAB hC (v_insert hfl hz149) qw_insert a_935 ⟨Nat.le_of_ble_eq_true rfl, Nat.le_of_ble_eq_true rfl⟩ hX (fun q hq => hAs q (Nat.le_trans hS.1 hq)) hKX hTX hNX rfl hl.1 (Nat.le_of_ble_eq_true rfl) dL_tables_278 ⟨Nat.mul_le_mul_left 20 h150, Nat.mul_le_mul_left 200 h150⟩ hS (fun _ z => z) (fun H locs hX hS => ?_)
          obtain ⟨S152, eS152, hf⟩ := lt_e hf
          rw [← eS152] at hX ⊢
          refine lv_sipush (v := (-7100)) hx hb dL_tables_281 (by decide) ?_
          refine lv_icmp_ne (tgt := 291) hx hb dL_tables_284 (by decide) (fun c153 => ?_) (fun c153 => ?_)
          · have hf := it_f c153 hf
            refine lv_iconst (v := 0) hx hb dL_tables_291 (by decide) ?_
            obtain ⟨h154, hf⟩ := gd_e hf
            cases hf
            exact CtT_rz hx hb hr hlk nz0 hX hS (Nat.mul_le_mul_left 20 h154) (Nat.mul_le_mul_left 200 h154) dL_tables_292
          · have hf := it_t c153 hf
            refine lv_iconst (v := 1) hx hb dL_tables_287 (by decide) ?_
            refine lv_goto (tgt := 292) hx hb dL_tables_288 (by decide) ?_
            obtain ⟨h155, hf⟩ := gd_e hf
            cases hf
            exact CtT_rz hx hb hr hlk nz1 hX hS (Nat.mul_le_mul_left 20 h155) (Nat.mul_le_mul_left 200 h155) dL_tables_292
  · have hf := it_t c8 hf
    refine lv_iconst (v := 1) hx hb dL_tables_4 (by decide) ?_
    refine lv_iload_n hx hb dL_tables_5 rfl (lv_at hl 2 rfl) ?_
    refine lv_bipush (v := 7) hx hb dL_tables_6 (by decide) ?_
    obtain ⟨h157, hf⟩ := gd_e hf
    obtain ⟨z156, hz156, hf⟩ := cb_e hf
    refine tSi (As := [.int x3, .int 7]) (rest := [.int 1]) hAB hC (c_l_low La_a hz156) q_l_low a_138 ⟨Nat.le_of_ble_eq_true rfl, Nat.le_of_ble_eq_true rfl⟩ hX hKX rfl hl.1 (Nat.le_of_ble_eq_true rfl) dL_tables_8 ⟨Nat.mul_le_mul_left 20 h157, Nat.mul_le_mul_left 200 h157⟩ hS (fun _ z => z) (fun H locs hX hS => ?_)
    change ZX D cA A B x0 ad T H at hX
    change W p l e (RM 8 (20 * 16) (200 * 16)) s m args below meth c H locs (20 * T.2.2) (200 * T.2.2) (MQ below (CtQ (AB A B) (some (.int r)) (ZX D cA A B x0 ad T')) args s (20 * 16) (200 * 16) (AB A B)) (F0 m 11 ls [.int z156, .int 1])
    refine lv_iadd hx hb dL_tables_11 ?_
    refine lv_istore (lv' := [(6, .int ((1 : Int32) + z156)), (0, .ref x0), (1, .int x2), (2, .int x3), (3, .int x4), (4, .ref (ad 0)), (5, .ref (ad 6))]) hx hb dL_tables_12 hl (by decide) rfl (fun ls hl => ?_)
    refine lv_iconst (v := 1) hx hb dL_tables_14 (by decide) ?_
    refine lv_iload_n hx hb dL_tables_15 rfl (lv_at hl 4 rfl) ?_
    refine lv_iconst (v := 3) hx hb dL_tables_16 (by decide) ?_
    obtain ⟨h159, hf⟩ := gd_e hf
    obtain ⟨z158, hz158, hf⟩ := cb_e hf
    refine tSi (As := [.int x4, .int 3]) (rest := [.int 1]) hAB hC (c_l_low La_a hz158) q_l_low a_138 ⟨Nat.le_of_ble_eq_true rfl, Nat.le_of_ble_eq_true rfl⟩ hX hKX rfl hl.1 (Nat.le_of_ble_eq_true rfl) dL_tables_17 ⟨Nat.mul_le_mul_left 20 h159, Nat.mul_le_mul_left 200 h159⟩ hS (fun _ z => z) (fun H locs hX hS => ?_)
    change ZX D cA A B x0 ad T H at hX
    change W p l e (RM 8 (20 * 16) (200 * 16)) s m args below meth c H locs (20 * T.2.2) (200 * T.2.2) (MQ below (CtQ (AB A B) (some (.int r)) (ZX D cA A B x0 ad T')) args s (20 * 16) (200 * 16) (AB A B)) (F0 m 20 ls [.int z158, .int 1])
    refine lv_ishl hx hb dL_tables_20 ?_
    refine lv_iload hx hb dL_tables_21 (lv_at hl 0 rfl) ?_
    refine lv_iand hx hb dL_tables_23 ?_
    refine lv_topi (fun x160 ex160 => ?_)
    have hf := lt_at ex160 hf
    refine lv_istore (lv' := [(7, .int x160), (6, .int ((1 : Int32) + z156)), (0, .ref x0), (1, .int x2), (2, .int x3), (3, .int x4), (4, .ref (ad 0)), (5, .ref (ad 6))]) hx hb dL_tables_24 hl (by decide) rfl (fun ls hl => ?_)
    refine lv_iload_n hx hb dL_tables_26 rfl (lv_at hl 5 rfl) ?_
    refine lv_bipush (v := 48) hx hb dL_tables_27 (by decide) ?_
    refine lv_iand hx hb dL_tables_29 ?_
    obtain ⟨k162, hk162, hf⟩ := jn1_e hf
    have Jk162 : ∀ (x161 : Int32) (H : Heap) (locs : List Loc) (ls : Array Slot), ZX D cA A B x0 ad T H → va_S (AB A B) s.heap H locs → lv_has ls 9 [(0, .ref x0), (4, .ref (ad 0)), (5, .ref (ad 6)), (6, .int ((1 : Int32) + z156)), (7, .int x161)] → k162 x161 = some (r, T') → W p l e (RM 8 (20 * 16) (200 * 16)) s m args below meth c H locs (20 * T.2.2) (200 * T.2.2) (MQ below (CtQ (AB A B) (some (.int r)) (ZX D cA A B x0 ad T')) args s (20 * 16) (200 * 16) (AB A B)) (F0 m 49 ls []) := by
      intro x161 H locs ls hX hS hl hf
      rw [hk162] at hf
      refine lv_aload_n hx hb dL_tables_49 rfl (lv_at hl 0 rfl) ?_
      refine lv_iconst (v := 0) hx hb dL_tables_50 (by decide) ?_
      refine lv_iconst (v := 0) hx hb dL_tables_51 (by decide) ?_
      obtain ⟨h164, hf⟩ := gd_e hf
      obtain ⟨z163, C165, hz163, hf⟩ := cb2_e hf
      refine tW (As := [.ref x0, .int 0, .int 0]) (rest := []) hAB hC (v_table hfl hz163) qw_table a_891 ⟨Nat.le_of_ble_eq_true rfl, Nat.le_of_ble_eq_true rfl⟩ hX (fun q hq => hAs q (Nat.le_trans hS.1 hq)) hKX hTX hNX rfl hl.1 (Nat.le_of_ble_eq_true rfl) dL_tables_52 ⟨Nat.mul_le_mul_left 20 h164, Nat.mul_le_mul_left 200 h164⟩ hS (fun _ z => z) (fun H locs hX hS => ?_)
      obtain ⟨S166, eS166, hf⟩ := lt_e hf
      rw [← eS166] at hX ⊢
      refine lv_sipush (v := (-7200)) hx hb dL_tables_55 (by decide) ?_
      refine lv_icmp_ne (tgt := 117) hx hb dL_tables_58 (by decide) (fun c167 => ?_) (fun c167 => ?_)
      · have hf := it_f c167 hf
        refine lv_iconst (v := 0) hx hb dL_tables_117 (by decide) ?_
        obtain ⟨h168, hf⟩ := gd_e hf
        cases hf
        exact CtT_rz hx hb hr hlk nz0 hX hS (Nat.mul_le_mul_left 20 h168) (Nat.mul_le_mul_left 200 h168) dL_tables_118
      · have hf := it_t c167 hf
        refine lv_aload_n hx hb dL_tables_61 rfl (lv_at hl 0 rfl) ?_
        refine lv_bipush (v := 64) hx hb dL_tables_62 (by decide) ?_
        refine lv_iconst (v := 1) hx hb dL_tables_64 (by decide) ?_
        obtain ⟨h170, hf⟩ := gd_e hf
        obtain ⟨z169, C171, hz169, hf⟩ := cb2_e hf
        refine tW (As := [.ref x0, .int 64, .int 1]) (rest := []) hAB hC (v_table hfl hz169) qw_table a_891 ⟨Nat.le_of_ble_eq_true rfl, Nat.le_of_ble_eq_true rfl⟩ hX (fun q hq => hAs q (Nat.le_trans hS.1 hq)) hKX hTX hNX rfl hl.1 (Nat.le_of_ble_eq_true rfl) dL_tables_65 ⟨Nat.mul_le_mul_left 20 h170, Nat.mul_le_mul_left 200 h170⟩ hS (fun _ z => z) (fun H locs hX hS => ?_)
        obtain ⟨S172, eS172, hf⟩ := lt_e hf
        rw [← eS172] at hX ⊢
        refine lv_sipush (v := (-7200)) hx hb dL_tables_68 (by decide) ?_
        refine lv_icmp_ne (tgt := 117) hx hb dL_tables_71 (by decide) (fun c173 => ?_) (fun c173 => ?_)
        · have hf := it_f c173 hf
          refine lv_iconst (v := 0) hx hb dL_tables_117 (by decide) ?_
          obtain ⟨h174, hf⟩ := gd_e hf
          cases hf
          exact CtT_rz hx hb hr hlk nz0 hX hS (Nat.mul_le_mul_left 20 h174) (Nat.mul_le_mul_left 200 h174) dL_tables_118
        · have hf := it_t c173 hf
          refine lv_aload_n hx hb dL_tables_74 rfl (lv_at hl 0 rfl) ?_
          refine lv_iload hx hb dL_tables_75 (lv_at hl 3 rfl) ?_
          refine lv_iconst (v := 0) hx hb dL_tables_77 (by decide) ?_
          obtain ⟨h176, hf⟩ := gd_e hf
          obtain ⟨z175, C177, hz175, hf⟩ := cb2_e hf
          refine tW (As := [.ref x0, .int ((1 : Int32) + z156), .int 0]) (rest := []) hAB hC (v_table hfl hz175) qw_table a_891 ⟨Nat.le_of_ble_eq_true rfl, Nat.le_of_ble_eq_true rfl⟩ hX (fun q hq => hAs q (Nat.le_trans hS.1 hq)) hKX hTX hNX rfl hl.1 (Nat.le_of_ble_eq_true rfl) dL_tables_78 ⟨Nat.mul_le_mul_left 20 h176, Nat.mul_le_mul_left 200 h176⟩ hS (fun _ z => z) (fun H locs hX hS => ?_)
          obtain ⟨S178, eS178, hf⟩ := lt_e hf
          rw [← eS178] at hX ⊢
          refine lv_sipush (v := (-7200)) hx hb dL_tables_81 (by decide) ?_
          refine lv_icmp_ne (tgt := 117) hx hb dL_tables_84 (by decide) (fun c179 => ?_) (fun c179 => ?_)
          · have hf := it_f c179 hf
            refine lv_iconst (v := 0) hx hb dL_tables_117 (by decide) ?_
            obtain ⟨h180, hf⟩ := gd_e hf
            cases hf
            exact CtT_rz hx hb hr hlk nz0 hX hS (Nat.mul_le_mul_left 20 h180) (Nat.mul_le_mul_left 200 h180) dL_tables_118
          · have hf := it_t c179 hf
            refine lv_aload_n hx hb dL_tables_87 rfl (lv_at hl 0 rfl) ?_
            refine lv_iload hx hb dL_tables_88 (lv_at hl 3 rfl) ?_
            refine lv_iload hx hb dL_tables_90 (lv_at hl 3 rfl) ?_
            refine lv_bipush (v := 8) hx hb dL_tables_92 (by decide) ?_
            refine lv_iadd hx hb dL_tables_94 ?_
            obtain ⟨h182, hf⟩ := gd_e hf
            obtain ⟨z181, C183, hz181, hf⟩ := cb2_e hf
            refine tW (As := [.ref x0, .int ((1 : Int32) + z156), .int (((1 : Int32) + z156) + 8)]) (rest := []) hAB hC (v_table hfl hz181) qw_table a_891 ⟨Nat.le_of_ble_eq_true rfl, Nat.le_of_ble_eq_true rfl⟩ hX (fun q hq => hAs q (Nat.le_trans hS.1 hq)) hKX hTX hNX rfl hl.1 (Nat.le_of_ble_eq_true rfl) dL_tables_95 ⟨Nat.mul_le_mul_left 20 h182, Nat.mul_le_mul_left 200 h182⟩ hS (fun _ z => z) (fun H locs hX hS => ?_)
            obtain ⟨S184, eS184, hf⟩ := lt_e hf
            rw [← eS184] at hX ⊢
            refine lv_sipush (v := (-7200)) hx hb dL_tables_98 (by decide) ?_
            refine lv_icmp_ne (tgt := 117) hx hb dL_tables_101 (by decide) (fun c185 => ?_) (fun c185 => ?_)
            · have hf := it_f c185 hf
              refine lv_iconst (v := 0) hx hb dL_tables_117 (by decide) ?_
              obtain ⟨h186, hf⟩ := gd_e hf
              cases hf
              exact CtT_rz hx hb hr hlk nz0 hX hS (Nat.mul_le_mul_left 20 h186) (Nat.mul_le_mul_left 200 h186) dL_tables_118
            · have hf := it_t c185 hf
              refine lv_aload_n hx hb dL_tables_104 rfl (lv_at hl 0 rfl) ?_
              refine lv_iload hx hb dL_tables_105 (lv_at hl 3 rfl) ?_
              refine lv_iconst (v := (-1)) hx hb dL_tables_107 (by decide) ?_
              obtain ⟨h188, hf⟩ := gd_e hf
              obtain ⟨z187, C189, hz187, hf⟩ := cb2_e hf
              refine tW (As := [.ref x0, .int ((1 : Int32) + z156), .int (-1)]) (rest := []) hAB hC (v_table hfl hz187) qw_table a_891 ⟨Nat.le_of_ble_eq_true rfl, Nat.le_of_ble_eq_true rfl⟩ hX (fun q hq => hAs q (Nat.le_trans hS.1 hq)) hKX hTX hNX rfl hl.1 (Nat.le_of_ble_eq_true rfl) dL_tables_108 ⟨Nat.mul_le_mul_left 20 h188, Nat.mul_le_mul_left 200 h188⟩ hS (fun _ z => z) (fun H locs hX hS => ?_)
              obtain ⟨S190, eS190, hf⟩ := lt_e hf
              rw [← eS190] at hX ⊢
              refine lv_sipush (v := (-7200)) hx hb dL_tables_111 (by decide) ?_
              refine lv_icmp_eq (tgt := 119) hx hb dL_tables_114 (by decide) (fun c191 => ?_) (fun c191 => ?_)
              · have hf := it_t c191 hf
                refine lv_iload hx hb dL_tables_119 (lv_at hl 4 rfl) ?_
                refine lv_if_ne (tgt := 144) hx hb dL_tables_121 (by decide) (fun c192 => ?_) (fun c192 => ?_)
                · have hf := it_f c192 hf
                  refine lv_aload hx hb dL_tables_144 (lv_at hl 2 rfl) ?_
                  refine lv_iconst (v := 0) hx hb dL_tables_146 (by decide) ?_
                  obtain ⟨h194, j193, ej193, hf⟩ := rd_e hf
                  refine tald hx hb hKX.1 hX (by decide) h194 ej193 dL_tables_147 ?_
                  refine lv_iconst (v := 3) hx hb dL_tables_148 (by decide) ?_
                  refine lv_icmp_ne (tgt := 172) hx hb dL_tables_149 (by decide) (fun c195 => ?_) (fun c195 => ?_)
                  · have hf := it_f c195 hf
                    refine lv_aload hx hb dL_tables_172 (lv_at hl 1 rfl) ?_
                    refine lv_aload hx hb dL_tables_174 (lv_at hl 2 rfl) ?_
                    refine lv_iconst (v := 0) hx hb dL_tables_176 (by decide) ?_
                    obtain ⟨h197, j196, ej196, hf⟩ := rd_e hf
                    refine tald hx hb hKX.1 hX (by decide) h197 ej196 dL_tables_177 ?_
                    refine lv_iload hx hb dL_tables_178 (lv_at hl 3 rfl) ?_
                    refine lv_bipush (v := 8) hx hb dL_tables_180 (by decide) ?_
                    refine lv_iload hx hb dL_tables_182 (lv_at hl 4 rfl) ?_
                    refine lv_imul hx hb dL_tables_184 ?_
                    refine lv_iadd hx hb dL_tables_185 ?_
                    obtain ⟨h199, j198, ej198, hf⟩ := rd_e hf
                    refine tasv hx hb hAB hKX.1 hX hS (by decide) h199 ej198 dL_tables_186 (fun H locs hX hS => ?_)
                    obtain ⟨S200, eS200, hf⟩ := lt_e hf
                    rw [← eS200] at hX ⊢
                    refine lv_aload hx hb dL_tables_187 (lv_at hl 1 rfl) ?_
                    refine lv_iconst (v := 3) hx hb dL_tables_189 (by decide) ?_
                    refine lv_aload hx hb dL_tables_190 (lv_at hl 2 rfl) ?_
                    refine lv_iconst (v := 0) hx hb dL_tables_192 (by decide) ?_
                    obtain ⟨h202, j201, ej201, hf⟩ := rd_e hf
                    refine tald hx hb hKX.1 hX (by decide) h202 ej201 dL_tables_193 ?_
                    refine lv_iadd hx hb dL_tables_194 ?_
                    refine lv_iconst (v := 0) hx hb dL_tables_195 (by decide) ?_
                    obtain ⟨h204, j203, ej203, hf⟩ := rd_e hf
                    refine tasv hx hb hAB hKX.1 hX hS (by decide) h204 ej203 dL_tables_196 (fun H locs hX hS => ?_)
                    obtain ⟨S205, eS205, hf⟩ := lt_e hf
                    rw [← eS205] at hX ⊢
                    refine lv_aload hx hb dL_tables_197 (lv_at hl 2 rfl) ?_
                    refine lv_iconst (v := 0) hx hb dL_tables_199 (by decide) ?_
                    refine lv_dup2_11 hx hb dL_tables_200 rfl rfl ?_
                    obtain ⟨h207, j206, ej206, hf⟩ := rd_e hf
                    refine tald hx hb hKX.1 hX (by decide) h207 ej206 dL_tables_201 ?_
                    refine lv_iconst (v := 1) hx hb dL_tables_202 (by decide) ?_
                    refine lv_iadd hx hb dL_tables_203 ?_
                    obtain ⟨h209, j208, ej208, hf⟩ := rd_e hf
                    refine tasv hx hb hAB hKX.1 hX hS (by decide) h209 ej208 dL_tables_204 (fun H locs hX hS => ?_)
                    obtain ⟨S210, eS210, hf⟩ := lt_e hf
                    rw [← eS210] at hX ⊢
                    refine lv_aload_n hx hb dL_tables_205 rfl (lv_at hl 0 rfl) ?_
                    refine lv_iload hx hb dL_tables_206 (lv_at hl 3 rfl) ?_
                    refine lv_iload hx hb dL_tables_208 (lv_at hl 4 rfl) ?_
                    obtain ⟨h212, hf⟩ := gd_e hf
                    obtain ⟨z211, C213, hz211, hf⟩ := cb2_e hf
                    refine tW (As := [.ref x0, .int ((1 : Int32) + z156), .int x161]) (rest := []) hAB hC (v_table hfl hz211) qw_table a_891 ⟨Nat.le_of_ble_eq_true rfl, Nat.le_of_ble_eq_true rfl⟩ hX (fun q hq => hAs q (Nat.le_trans hS.1 hq)) hKX hTX hNX rfl hl.1 (Nat.le_of_ble_eq_true rfl) dL_tables_210 ⟨Nat.mul_le_mul_left 20 h212, Nat.mul_le_mul_left 200 h212⟩ hS (fun _ z => z) (fun H locs hX hS => ?_)
                    obtain ⟨S214, eS214, hf⟩ := lt_e hf
                    rw [← eS214] at hX ⊢
                    refine lv_aload hx hb dL_tables_213 (lv_at hl 2 rfl) ?_
                    refine lv_iconst (v := 0) hx hb dL_tables_215 (by decide) ?_
                    obtain ⟨h216, j215, ej215, hf⟩ := rd_e hf
                    refine tald hx hb hKX.1 hX (by decide) h216 ej215 dL_tables_216 ?_
                    refine lv_iconst (v := 1) hx hb dL_tables_217 (by decide) ?_
                    refine lv_isub hx hb dL_tables_218 ?_
                    refine lv_icmp_ne (tgt := 226) hx hb dL_tables_219 (by decide) (fun c217 => ?_) (fun c217 => ?_)
                    · have hf := it_f c217 hf
                      refine lv_iconst (v := 0) hx hb dL_tables_226 (by decide) ?_
                      obtain ⟨h218, hf⟩ := gd_e hf
                      cases hf
                      exact CtT_rz hx hb hr hlk nz0 hX hS (Nat.mul_le_mul_left 20 h218) (Nat.mul_le_mul_left 200 h218) dL_tables_227
                    · have hf := it_t c217 hf
                      refine lv_iconst (v := 1) hx hb dL_tables_222 (by decide) ?_
                      refine lv_goto (tgt := 227) hx hb dL_tables_223 (by decide) ?_
                      obtain ⟨h219, hf⟩ := gd_e hf
                      cases hf
                      exact CtT_rz hx hb hr hlk nz1 hX hS (Nat.mul_le_mul_left 20 h219) (Nat.mul_le_mul_left 200 h219) dL_tables_227
                  · have hf := it_t c195 hf
                    refine lv_aload_n hx hb dL_tables_152 rfl (lv_at hl 0 rfl) ?_
                    refine lv_iload hx hb dL_tables_153 (lv_at hl 3 rfl) ?_
                    refine lv_iload hx hb dL_tables_155 (lv_at hl 4 rfl) ?_
                    obtain ⟨h221, hf⟩ := gd_e hf
                    obtain ⟨z220, C222, hz220, hf⟩ := cb2_e hf
                    refine tW (As := [.ref x0, .int ((1 : Int32) + z156), .int x161]) (rest := []) hAB hC (v_table hfl hz220) qw_table a_891 ⟨Nat.le_of_ble_eq_true rfl, Nat.le_of_ble_eq_true rfl⟩ hX (fun q hq => hAs q (Nat.le_trans hS.1 hq)) hKX hTX hNX rfl hl.1 (Nat.le_of_ble_eq_true rfl) dL_tables_157 ⟨Nat.mul_le_mul_left 20 h221, Nat.mul_le_mul_left 200 h221⟩ hS (fun _ z => z) (fun H locs hX hS => ?_)
                    obtain ⟨S223, eS223, hf⟩ := lt_e hf
                    rw [← eS223] at hX ⊢
                    refine lv_sipush (v := (-7300)) hx hb dL_tables_160 (by decide) ?_
                    refine lv_icmp_ne (tgt := 170) hx hb dL_tables_163 (by decide) (fun c224 => ?_) (fun c224 => ?_)
                    · have hf := it_f c224 hf
                      refine lv_iconst (v := 0) hx hb dL_tables_170 (by decide) ?_
                      obtain ⟨h225, hf⟩ := gd_e hf
                      cases hf
                      exact CtT_rz hx hb hr hlk nz0 hX hS (Nat.mul_le_mul_left 20 h225) (Nat.mul_le_mul_left 200 h225) dL_tables_171
                    · have hf := it_t c224 hf
                      refine lv_iconst (v := 1) hx hb dL_tables_166 (by decide) ?_
                      refine lv_goto (tgt := 171) hx hb dL_tables_167 (by decide) ?_
                      obtain ⟨h226, hf⟩ := gd_e hf
                      cases hf
                      exact CtT_rz hx hb hr hlk nz1 hX hS (Nat.mul_le_mul_left 20 h226) (Nat.mul_le_mul_left 200 h226) dL_tables_171
                · have hf := it_t c192 hf
                  refine lv_aload_n hx hb dL_tables_124 rfl (lv_at hl 0 rfl) ?_
                  refine lv_iload hx hb dL_tables_125 (lv_at hl 3 rfl) ?_
                  refine lv_iload hx hb dL_tables_127 (lv_at hl 4 rfl) ?_
                  obtain ⟨h228, hf⟩ := gd_e hf
                  obtain ⟨z227, C229, hz227, hf⟩ := cb2_e hf
                  refine tW (As := [.ref x0, .int ((1 : Int32) + z156), .int x161]) (rest := []) hAB hC (v_table hfl hz227) qw_table a_891 ⟨Nat.le_of_ble_eq_true rfl, Nat.le_of_ble_eq_true rfl⟩ hX (fun q hq => hAs q (Nat.le_trans hS.1 hq)) hKX hTX hNX rfl hl.1 (Nat.le_of_ble_eq_true rfl) dL_tables_129 ⟨Nat.mul_le_mul_left 20 h228, Nat.mul_le_mul_left 200 h228⟩ hS (fun _ z => z) (fun H locs hX hS => ?_)
                  obtain ⟨S230, eS230, hf⟩ := lt_e hf
                  rw [← eS230] at hX ⊢
                  refine lv_sipush (v := (-7200)) hx hb dL_tables_132 (by decide) ?_
                  refine lv_icmp_ne (tgt := 142) hx hb dL_tables_135 (by decide) (fun c231 => ?_) (fun c231 => ?_)
                  · have hf := it_f c231 hf
                    refine lv_iconst (v := 0) hx hb dL_tables_142 (by decide) ?_
                    obtain ⟨h232, hf⟩ := gd_e hf
                    cases hf
                    exact CtT_rz hx hb hr hlk nz0 hX hS (Nat.mul_le_mul_left 20 h232) (Nat.mul_le_mul_left 200 h232) dL_tables_143
                  · have hf := it_t c231 hf
                    refine lv_iconst (v := 1) hx hb dL_tables_138 (by decide) ?_
                    refine lv_goto (tgt := 143) hx hb dL_tables_139 (by decide) ?_
                    obtain ⟨h233, hf⟩ := gd_e hf
                    cases hf
                    exact CtT_rz hx hb hr hlk nz1 hX hS (Nat.mul_le_mul_left 20 h233) (Nat.mul_le_mul_left 200 h233) dL_tables_143
              · have hf := it_f c191 hf
                refine lv_iconst (v := 0) hx hb dL_tables_117 (by decide) ?_
                obtain ⟨h234, hf⟩ := gd_e hf
                cases hf
                exact CtT_rz hx hb hr hlk nz0 hX hS (Nat.mul_le_mul_left 20 h234) (Nat.mul_le_mul_left 200 h234) dL_tables_118
    refine lv_if_ne (tgt := 49) hx hb dL_tables_30 (by decide) (fun c235 => ?_) (fun c235 => ?_)
    · have hf := it_f c235 hf
      exact Jk162 _ _ _ _ hX hS (lv_sub hl [2, 6, 7, 1, 0] rfl) hf
    · have hf := it_t c235 hf
      refine lv_iload hx hb dL_tables_33 (lv_at hl 1 rfl) ?_
      refine lv_iconst (v := 1) hx hb dL_tables_35 (by decide) ?_
      refine lv_iload_n hx hb dL_tables_36 rfl (lv_at hl 5 rfl) ?_
      refine lv_bipush (v := 6) hx hb dL_tables_37 (by decide) ?_
      refine lv_ishr hx hb dL_tables_39 ?_
      refine lv_bipush (v := 7) hx hb dL_tables_40 (by decide) ?_
      obtain ⟨h237, hf⟩ := gd_e hf
      obtain ⟨z236, hz236, hf⟩ := cb_e hf
      refine tSi (As := [.int (x4 >>> ((6 : Int32) &&& 31)), .int 7]) (rest := [.int 1, .int ((1 : Int32) + z156)]) hAB hC (c_l_low La_a hz236) q_l_low a_138 ⟨Nat.le_of_ble_eq_true rfl, Nat.le_of_ble_eq_true rfl⟩ hX hKX rfl hl.1 (Nat.le_of_ble_eq_true rfl) dL_tables_42 ⟨Nat.mul_le_mul_left 20 h237, Nat.mul_le_mul_left 200 h237⟩ hS (fun _ z => z) (fun H locs hX hS => ?_)
      change ZX D cA A B x0 ad T H at hX
      change W p l e (RM 8 (20 * 16) (200 * 16)) s m args below meth c H locs (20 * T.2.2) (200 * T.2.2) (MQ below (CtQ (AB A B) (some (.int r)) (ZX D cA A B x0 ad T')) args s (20 * 16) (200 * 16) (AB A B)) (F0 m 45 ls [.int z236, .int 1, .int ((1 : Int32) + z156)])
      refine lv_iadd hx hb dL_tables_45 ?_
      refine lv_iand hx hb dL_tables_46 ?_
      refine lv_topi (fun x238 ex238 => ?_)
      have hf := lt_at ex238 hf
      refine lv_istore (lv' := [(7, .int x238), (6, .int ((1 : Int32) + z156)), (0, .ref x0), (1, .int x2), (2, .int x3), (3, .int x4), (4, .ref (ad 0)), (5, .ref (ad 6))]) hx hb dL_tables_47 hl (by decide) rfl (fun ls hl => ?_)
      exact Jk162 _ _ _ _ hX hS (lv_sub hl [2, 6, 7, 1, 0] rfl) hf
