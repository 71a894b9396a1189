theorem q_p_views : VWs yL_views cL_views 15 (some .boolean) 7 := ⟨a_669, a_15, a_668, by decide +kernel⟩
set_option maxRecDepth 100000 in
set_option maxHeartbeats 8000000 in
theorem c_p_views {l : Launch} {D : va_G} {cA : Nat → ClassId} {A B : Nat → Prop} {x0 : Nat} {ad : Nat → Nat} (hAB : ∀ q, A q → ¬ B q) (hfl : l.stackTraces = false) {x2 : Int32} {x3 : Int32} {x4 : Int32} {T T' : Tt} {r : Int32} (hf : p_views x2 x3 x4 T = some (r, T')) (h0 : T.2.2 = 0 := by rfl) : CtT l D cA A B yL_views cL_views 15 (some .boolean) 8 16 [.ref x0, .int x2, .int x3, .int x4, .ref (ad 0), .ref (ad 1), .ref (ad 6)] x0 ad T r T' := by
  refine CtT_of (by decide +kernel) (Nat.le_of_ble_eq_true rfl) ?_
  intro p e s m args below meth c ls hC hr hlk hX hAs hKX hTX hNX hl
  have hx := hC.1
  have hb := hC.2.1
  have hS : va_S (AB A B) s.heap s.heap [] := va_S.rf
  refine W.eqc (c2 := 20 * T.2.2) (s2 := 200 * T.2.2) (by omega) (by omega) ?_
  have hl : lv_has ls 15 [(0, .ref x0), (1, .int x2), (2, .int x3), (3, .int x4), (4, .ref (ad 0)), (5, .ref (ad 1)), (6, .ref (ad 6))] := hl
  unfold p_views at hf
  refine lv_aload hx hb dL_views_0 (lv_at hl 6 rfl) ?_
  refine lv_iconst (v := 1) hx hb dL_views_2 (by decide) ?_
  obtain ⟨h10, j9, ej9, hf⟩ := rd_e hf
  refine tald hx hb hKX.1 hX (by decide) h10 ej9 dL_views_3 ?_
  obtain ⟨k11, hk11, hf⟩ := jn0_e hf
  have Jk11 : ∀  (H : Heap) (locs : List Loc) (ls : Array Slot), ZX D cA A B x0 ad T H → va_S (AB A B) s.heap H locs → lv_has ls 15 [(0, .ref x0), (1, .int x2), (2, .int x3), (3, .int x4), (4, .ref (ad 0)), (5, .ref (ad 1)), (6, .ref (ad 6))] → k11 = some (r, T') → W p l e (RM 8 (20 * 16) (200 * 16)) s m args below meth c H locs (20 * T.2.2) (200 * T.2.2) (MQ below (CtQ (AB A B) (some (.int r)) (ZX D cA A B x0 ad T')) args s (20 * 16) (200 * 16) (AB A B)) (F0 m 56 ls []) := by
    intro  H locs ls hX hS hl hf
    rw [hk11] at hf
    refine lv_iload_n hx hb dL_views_56 rfl (lv_at hl 1 rfl) ?_
    refine lv_if_ne (tgt := 208) hx hb dL_views_57 (by decide) (fun c12 => ?_) (fun c12 => ?_)
    · have hf := it_f c12 hf
      refine lv_iload_n hx hb dL_views_208 rfl (lv_at hl 2 rfl) ?_
      refine lv_aload hx hb dL_views_209 (lv_at hl 6 rfl) ?_
      refine lv_iconst (v := 1) hx hb dL_views_211 (by decide) ?_
      obtain ⟨h14, j13, ej13, hf⟩ := rd_e hf
      refine tald hx hb hKX.1 hX (by decide) h14 ej13 dL_views_212 ?_
      obtain ⟨h16, hf⟩ := gd_e hf
      obtain ⟨z15, hz15, hf⟩ := cb_e hf
      refine tSi (As := [.int x3, .int (T.2.1 6 j13)]) (rest := []) hAB hC (c_l_low La_a hz15) q_l_low a_138 ⟨Nat.le_of_ble_eq_true rfl, Nat.le_of_ble_eq_true rfl⟩ hX hKX rfl hl.1 (Nat.le_of_ble_eq_true rfl) dL_views_213 ⟨Nat.mul_le_mul_left 20 h16, Nat.mul_le_mul_left 200 h16⟩ hS (fun _ z => z) (fun H locs hX hS => ?_)
      change ZX D cA A B x0 ad T H at hX
      change W p l e (RM 8 (20 * 16) (200 * 16)) s m args below meth c H locs (20 * T.2.2) (200 * T.2.2) (MQ below (CtQ (AB A B) (some (.int r)) (ZX D cA A B x0 ad T')) args s (20 * 16) (200 * 16) (AB A B)) (F0 m 216 ls [.int z15])
      refine lv_istore (lv' := [(7, .int z15), (0, .ref x0), (1, .int x2), (2, .int x3), (3, .int x4), (4, .ref (ad 0)), (5, .ref (ad 1)), (6, .ref (ad 6))]) hx hb dL_views_216 hl (by decide) rfl (fun ls hl => ?_)
      refine lv_iload_n hx hb dL_views_218 rfl (lv_at hl 4 rfl) ?_
      refine lv_iconst (v := 3) hx hb dL_views_219 (by decide) ?_
      obtain ⟨h18, hf⟩ := gd_e hf
      obtain ⟨z17, hz17, hf⟩ := cb_e hf
      refine tSi (As := [.int x4, .int 3]) (rest := []) hAB hC (c_l_low La_a hz17) q_l_low a_138 ⟨Nat.le_of_ble_eq_true rfl, Nat.le_of_ble_eq_true rfl⟩ hX hKX rfl hl.1 (Nat.le_of_ble_eq_true rfl) dL_views_220 ⟨Nat.mul_le_mul_left 20 h18, Nat.mul_le_mul_left 200 h18⟩ hS (fun _ z => z) (fun H locs hX hS => ?_)
      change ZX D cA A B x0 ad T H at hX
      change W p l e (RM 8 (20 * 16) (200 * 16)) s m args below meth c H locs (20 * T.2.2) (200 * T.2.2) (MQ below (CtQ (AB A B) (some (.int r)) (ZX D cA A B x0 ad T')) args s (20 * 16) (200 * 16) (AB A B)) (F0 m 223 ls [.int z17])
      refine lv_istore (lv' := [(8, .int z17), (7, .int z15), (0, .ref x0), (1, .int x2), (2, .int x3), (3, .int x4), (4, .ref (ad 0)), (5, .ref (ad 1)), (6, .ref (ad 6))]) hx hb dL_views_223 hl (by decide) rfl (fun ls hl => ?_)
      refine lv_iload_n hx hb dL_views_225 rfl (lv_at hl 5 rfl) ?_
      refine lv_iconst (v := 3) hx hb dL_views_226 (by decide) ?_
      refine lv_ishr hx hb dL_views_227 ?_
      refine lv_iconst (v := 3) hx hb dL_views_228 (by decide) ?_
      obtain ⟨h20, hf⟩ := gd_e hf
      obtain ⟨z19, hz19, hf⟩ := cb_e hf
      refine tSi (As := [.int (x4 >>> ((3 : Int32) &&& 31)), .int 3]) (rest := []) hAB hC (c_l_low La_a hz19) q_l_low a_138 ⟨Nat.le_of_ble_eq_true rfl, Nat.le_of_ble_eq_true rfl⟩ hX hKX rfl hl.1 (Nat.le_of_ble_eq_true rfl) dL_views_229 ⟨Nat.mul_le_mul_left 20 h20, Nat.mul_le_mul_left 200 h20⟩ hS (fun _ z => z) (fun H locs hX hS => ?_)
      change ZX D cA A B x0 ad T H at hX
      change W p l e (RM 8 (20 * 16) (200 * 16)) s m args below meth c H locs (20 * T.2.2) (200 * T.2.2) (MQ below (CtQ (AB A B) (some (.int r)) (ZX D cA A B x0 ad T')) args s (20 * 16) (200 * 16) (AB A B)) (F0 m 232 ls [.int z19])
      refine lv_istore (lv' := [(9, .int z19), (8, .int z17), (7, .int z15), (0, .ref x0), (1, .int x2), (2, .int x3), (3, .int x4), (4, .ref (ad 0)), (5, .ref (ad 1)), (6, .ref (ad 6))]) hx hb dL_views_232 hl (by decide) rfl (fun ls hl => ?_)
      refine lv_aload hx hb dL_views_234 (lv_at hl 8 rfl) ?_
      refine lv_iload hx hb dL_views_236 (lv_at hl 2 rfl) ?_
      obtain ⟨h22, hf⟩ := gd_e hf
      obtain ⟨z21, hz21, hf⟩ := cb_e hf
      refine tSi (As := [.ref (ad 1), .int z15]) (rest := []) hAB hC (c_l_keyOf La_a hz21) q_l_keyOf a_608 ⟨Nat.le_of_ble_eq_true rfl, Nat.le_of_ble_eq_true rfl⟩ hX hKX rfl hl.1 (Nat.le_of_ble_eq_true rfl) dL_views_238 ⟨Nat.mul_le_mul_left 20 h22, Nat.mul_le_mul_left 200 h22⟩ hS (fun _ z => z) (fun H locs hX hS => ?_)
      change ZX D cA A B x0 ad T H at hX
      change W p l e (RM 8 (20 * 16) (200 * 16)) s m args below meth c H locs (20 * T.2.2) (200 * T.2.2) (MQ below (CtQ (AB A B) (some (.int r)) (ZX D cA A B x0 ad T')) args s (20 * 16) (200 * 16) (AB A B)) (F0 m 241 ls [.int z21])
      refine lv_istore (lv' := [(10, .int z21), (9, .int z19), (8, .int z17), (7, .int z15), (0, .ref x0), (1, .int x2), (2, .int x3), (3, .int x4), (4, .ref (ad 0)), (5, .ref (ad 1)), (6, .ref (ad 6))]) hx hb dL_views_241 hl (by decide) rfl (fun ls hl => ?_)
      refine lv_aload hx hb dL_views_243 (lv_at hl 9 rfl) ?_
      refine lv_iload hx hb dL_views_245 (lv_at hl 3 rfl) ?_
      obtain ⟨h24, hf⟩ := gd_e hf
      obtain ⟨z23, hz23, hf⟩ := cb_e hf
      refine tSi (As := [.ref (ad 1), .int z15]) (rest := []) hAB hC (c_l_columnsOf La_a hz23) q_l_columnsOf a_593 ⟨Nat.le_of_ble_eq_true rfl, Nat.le_of_ble_eq_true rfl⟩ hX hKX rfl hl.1 (Nat.le_of_ble_eq_true rfl) dL_views_247 ⟨Nat.mul_le_mul_left 20 h24, Nat.mul_le_mul_left 200 h24⟩ hS (fun _ z => z) (fun H locs hX hS => ?_)
      change ZX D cA A B x0 ad T H at hX
      change W p l e (RM 8 (20 * 16) (200 * 16)) s m args below meth c H locs (20 * T.2.2) (200 * T.2.2) (MQ below (CtQ (AB A B) (some (.int r)) (ZX D cA A B x0 ad T')) args s (20 * 16) (200 * 16) (AB A B)) (F0 m 250 ls [.int z23])
      refine lv_istore (lv' := [(11, .int z23), (10, .int z21), (9, .int z19), (8, .int z17), (7, .int z15), (0, .ref x0), (1, .int x2), (2, .int x3), (3, .int x4), (4, .ref (ad 0)), (5, .ref (ad 1)), (6, .ref (ad 6))]) hx hb dL_views_250 hl (by decide) rfl (fun ls hl => ?_)
      refine lv_aload hx hb dL_views_252 (lv_at hl 10 rfl) ?_
      refine lv_iload hx hb dL_views_254 (lv_at hl 4 rfl) ?_
      obtain ⟨h26, j25, ej25, hf⟩ := rd_e hf
      refine tald hx hb hKX.1 hX (by decide) h26 ej25 dL_views_256 ?_
      refine lv_bipush (v := 21) hx hb dL_views_257 (by decide) ?_
      refine lv_ishr hx hb dL_views_259 ?_
      refine lv_bipush (v := 7) hx hb dL_views_260 (by decide) ?_
      refine lv_iand hx hb dL_views_262 ?_
      refine lv_topi (fun x27 ex27 => ?_)
      have hf := lt_at ex27 hf
      refine lv_istore (lv' := [(12, .int x27), (11, .int z23), (10, .int z21), (9, .int z19), (8, .int z17), (7, .int z15), (0, .ref x0), (1, .int x2), (2, .int x3), (3, .int x4), (4, .ref (ad 0)), (5, .ref (ad 1)), (6, .ref (ad 6))]) hx hb dL_views_263 hl (by decide) rfl (fun ls hl => ?_)
      refine lv_iload_n hx hb dL_views_265 rfl (lv_at hl 7 rfl) ?_
      refine lv_iconst (v := 1) hx hb dL_views_266 (by decide) ?_
      refine lv_icmp_ne (tgt := 540) hx hb dL_views_267 (by decide) (fun c28 => ?_) (fun c28 => ?_)
      · have hf := it_f c28 hf
        refine lv_iload_n hx hb dL_views_540 rfl (lv_at hl 7 rfl) ?_
        refine lv_iconst (v := 2) hx hb dL_views_541 (by decide) ?_
        refine lv_icmp_ne (tgt := 749) hx hb dL_views_542 (by decide) (fun c29 => ?_) (fun c29 => ?_)
        · have hf := it_f c29 hf
          refine lv_iload_n hx hb dL_views_749 rfl (lv_at hl 9 rfl) ?_
          refine lv_aload hx hb dL_views_750 (lv_at hl 12 rfl) ?_
          refine lv_iconst (v := 1) hx hb dL_views_752 (by decide) ?_
          obtain ⟨h31, j30, ej30, hf⟩ := rd_e hf
          refine tald hx hb hKX.1 hX (by decide) h31 ej30 dL_views_753 ?_
          obtain ⟨h33, hf⟩ := gd_e hf
          obtain ⟨z32, hz32, hf⟩ := cb_e hf
          refine tSi (As := [.int x4, .int (T.2.1 6 j30)]) (rest := []) hAB hC (c_l_low La_a hz32) q_l_low a_138 ⟨Nat.le_of_ble_eq_true rfl, Nat.le_of_ble_eq_true rfl⟩ hX hKX rfl hl.1 (Nat.le_of_ble_eq_true rfl) dL_views_754 ⟨Nat.mul_le_mul_left 20 h33, Nat.mul_le_mul_left 200 h33⟩ hS (fun _ z => z) (fun H locs hX hS => ?_)
          change ZX D cA A B x0 ad T H at hX
          change W p l e (RM 8 (20 * 16) (200 * 16)) s m args below meth c H locs (20 * T.2.2) (200 * T.2.2) (MQ below (CtQ (AB A B) (some (.int r)) (ZX D cA A B x0 ad T')) args s (20 * 16) (200 * 16) (AB A B)) (F0 m 757 ls [.int z32])
          refine lv_istore (lv' := [(13, .int z32), (12, .int x27), (11, .int z23), (10, .int z21), (9, .int z19), (8, .int z17), (7, .int z15), (0, .ref x0), (1, .int x2), (2, .int x3), (3, .int x4), (4, .ref (ad 0)), (5, .ref (ad 1)), (6, .ref (ad 6))]) hx hb dL_views_757 hl (by decide) rfl (fun ls hl => ?_)
          refine lv_iconst (v := 0) hx hb dL_views_759 (by decide) ?_
          refine lv_istore (lv' := [(14, .int 0), (13, .int z32), (12, .int x27), (11, .int z23), (10, .int z21), (9, .int z19), (8, .int z17), (7, .int z15), (0, .ref x0), (1, .int x2), (2, .int x3), (3, .int x4), (4, .ref (ad 0)), (5, .ref (ad 1)), (6, .ref (ad 6))]) hx hb dL_views_760 hl (by decide) rfl (fun ls hl => ?_)
          obtain ⟨g36, g360, g36s, hf⟩ := lp2_e hf
          have Lg36 : ∀ (n : Nat) (x34 : Int32) (x35 : Int32) (H : Heap) (locs : List Loc) (ls : Array Slot), ZX D cA A B x0 ad T H → va_S (AB A B) s.heap H locs → lv_has ls 15 [(0, .ref x0), (5, .ref (ad 1)), (6, .ref (ad 6)), (7, .int z15), (10, .int z21), (11, .int z23), (12, .int x27), (13, .int x34), (14, .int x35)] → g36 n x34 x35 = some (r, T') → W p l e (RM 8 (20 * 16) (200 * 16)) s m args below meth c H locs (20 * T.2.2) (200 * T.2.2) (MQ below (CtQ (AB A B) (some (.int r)) (ZX D cA A B x0 ad T')) args s (20 * 16) (200 * 16) (AB A B)) (F0 m 762 ls []) := by
            intro n
            induction n with
            | zero => intro x34 x35 H locs ls hX hS hl hf; rw [g360] at hf; cases hf
            | succ n ihg36 =>
              intro x34 x35 H locs ls hX hS hl hf
              rw [g36s] at hf
              refine lv_iload hx hb dL_views_762 (lv_at hl 8 rfl) ?_
              refine lv_aload hx hb dL_views_764 (lv_at hl 2 rfl) ?_
              refine lv_iconst (v := 1) hx hb dL_views_766 (by decide) ?_
              obtain ⟨h38, j37, ej37, hf⟩ := rd_e hf
              refine tald hx hb hKX.1 hX (by decide) h38 ej37 dL_views_767 ?_
              obtain ⟨k39, hk39, hf⟩ := jn0_e hf
              have Jk39 : ∀  (H : Heap) (locs : List Loc) (ls : Array Slot), ZX D cA A B x0 ad T H → va_S (AB A B) s.heap H locs → lv_has ls 15 [(0, .ref x0), (5, .ref (ad 1)), (6, .ref (ad 6)), (7, .int z15), (10, .int z21), (11, .int z23), (12, .int x27), (13, .int x34)] → k39 = some (r, T') → W p l e (RM 8 (20 * 16) (200 * 16)) s m args below meth c H locs (20 * T.2.2) (200 * T.2.2) (MQ below (CtQ (AB A B) (some (.int r)) (ZX D cA A B x0 ad T')) args s (20 * 16) (200 * 16) (AB A B)) (F0 m 817 ls []) := by
                intro  H locs ls hX hS hl hf
                rw [hk39] at hf
                refine lv_aload_n hx hb dL_views_817 rfl (lv_at hl 0 rfl) ?_
                refine lv_iload hx hb dL_views_818 (lv_at hl 3 rfl) ?_
                refine lv_aload hx hb dL_views_820 (lv_at hl 2 rfl) ?_
                refine lv_iconst (v := 1) hx hb dL_views_822 (by decide) ?_
                obtain ⟨h41, j40, ej40, hf⟩ := rd_e hf
                refine tald hx hb hKX.1 hX (by decide) h41 ej40 dL_views_823 ?_
                obtain ⟨h43, hf⟩ := gd_e hf
                obtain ⟨z42, C44, hz42, hf⟩ := cb2_e hf
                refine tW (As := [.ref x0, .int z15, .int (T.2.1 6 j40)]) (rest := []) hAB hC (v_join hfl hz42) qw_join a_830 ⟨Nat.le_of_ble_eq_true rfl, Nat.le_of_ble_eq_true rfl⟩ hX (fun q hq => hAs q (Nat.le_trans hS.1 hq)) hKX hTX hNX rfl hl.1 (Nat.le_of_ble_eq_true rfl) dL_views_824 ⟨Nat.mul_le_mul_left 20 h43, Nat.mul_le_mul_left 200 h43⟩ hS (fun _ z => z) (fun H locs hX hS => ?_)
                obtain ⟨S45, eS45, hf⟩ := lt_e hf
                rw [← eS45] at hX ⊢
                refine lv_sipush (v := (-7100)) hx hb dL_views_827 (by decide) ?_
                refine lv_icmp_ne (tgt := 860) hx hb dL_views_830 (by decide) (fun c46 => ?_) (fun c46 => ?_)
                · have hf := it_f c46 hf
                  refine lv_iconst (v := 0) hx hb dL_views_860 (by decide) ?_
                  obtain ⟨h47, hf⟩ := gd_e hf
                  cases hf
                  exact CtT_rz hx hb hr hlk nz0 hX hS (Nat.mul_le_mul_left 20 h47) (Nat.mul_le_mul_left 200 h47) dL_views_861
                · have hf := it_t c46 hf
                  refine lv_aload_n hx hb dL_views_833 rfl (lv_at hl 0 rfl) ?_
                  refine lv_iconst (v := (-1)) hx hb dL_views_834 (by decide) ?_
                  refine lv_iload hx hb dL_views_835 (lv_at hl 3 rfl) ?_
                  obtain ⟨h49, hf⟩ := gd_e hf
                  obtain ⟨z48, C50, hz48, hf⟩ := cb2_e hf
                  refine tW (As := [.ref x0, .int (-1), .int z15]) (rest := []) hAB hC (v_join hfl hz48) qw_join a_830 ⟨Nat.le_of_ble_eq_true rfl, Nat.le_of_ble_eq_true rfl⟩ hX (fun q hq => hAs q (Nat.le_trans hS.1 hq)) hKX hTX hNX rfl hl.1 (Nat.le_of_ble_eq_true rfl) dL_views_837 ⟨Nat.mul_le_mul_left 20 h49, Nat.mul_le_mul_left 200 h49⟩ hS (fun _ z => z) (fun H locs hX hS => ?_)
                  obtain ⟨S51, eS51, hf⟩ := lt_e hf
                  rw [← eS51] at hX ⊢
                  refine lv_sipush (v := (-7100)) hx hb dL_views_840 (by decide) ?_
                  refine lv_icmp_ne (tgt := 860) hx hb dL_views_843 (by decide) (fun c52 => ?_) (fun c52 => ?_)
                  · have hf := it_f c52 hf
                    refine lv_iconst (v := 0) hx hb dL_views_860 (by decide) ?_
                    obtain ⟨h53, hf⟩ := gd_e hf
                    cases hf
                    exact CtT_rz hx hb hr hlk nz0 hX hS (Nat.mul_le_mul_left 20 h53) (Nat.mul_le_mul_left 200 h53) dL_views_861
                  · have hf := it_t c52 hf
                    refine lv_aload_n hx hb dL_views_846 rfl (lv_at hl 0 rfl) ?_
                    refine lv_iload hx hb dL_views_847 (lv_at hl 3 rfl) ?_
                    refine lv_iload hx hb dL_views_849 (lv_at hl 3 rfl) ?_
                    obtain ⟨h55, hf⟩ := gd_e hf
                    obtain ⟨z54, C56, hz54, hf⟩ := cb2_e hf
                    refine tW (As := [.ref x0, .int z15, .int z15]) (rest := []) hAB hC (v_join hfl hz54) qw_join a_830 ⟨Nat.le_of_ble_eq_true rfl, Nat.le_of_ble_eq_true rfl⟩ hX (fun q hq => hAs q (Nat.le_trans hS.1 hq)) hKX hTX hNX rfl hl.1 (Nat.le_of_ble_eq_true rfl) dL_views_851 ⟨Nat.mul_le_mul_left 20 h55, Nat.mul_le_mul_left 200 h55⟩ hS (fun _ z => z) (fun H locs hX hS => ?_)
                    obtain ⟨S57, eS57, hf⟩ := lt_e hf
                    rw [← eS57] at hX ⊢
                    refine lv_sipush (v := (-7200)) hx hb dL_views_854 (by decide) ?_
                    refine lv_icmp_eq (tgt := 862) hx hb dL_views_857 (by decide) (fun c58 => ?_) (fun c58 => ?_)
                    · have hf := it_t c58 hf
                      refine lv_aload hx hb dL_views_862 (lv_at hl 1 rfl) ?_
                      refine lv_iload hx hb dL_views_864 (lv_at hl 7 rfl) ?_
                      obtain ⟨h60, j59, ej59, hf⟩ := rd_e hf
                      refine tald hx hb hKX.1 hX (by decide) h60 ej59 dL_views_866 ?_
                      refine lv_bipush (v := 21) hx hb dL_views_867 (by decide) ?_
                      refine lv_ishr hx hb dL_views_869 ?_
                      refine lv_iload hx hb dL_views_870 (lv_at hl 6 rfl) ?_
                      refine lv_iand hx hb dL_views_872 ?_
                      obtain ⟨k61, hk61, hf⟩ := jn0_e hf
                      have Jk61 : ∀  (H : Heap) (locs : List Loc) (ls : Array Slot), ZX D cA A B x0 ad S57 H → va_S (AB A B) s.heap H locs → lv_has ls 15 [(0, .ref x0), (7, .int z15), (13, .int x34)] → k61 = some (r, T') → W p l e (RM 8 (20 * 16) (200 * 16)) s m args below meth c H locs (20 * S57.2.2) (200 * S57.2.2) (MQ below (CtQ (AB A B) (some (.int r)) (ZX D cA A B x0 ad T')) args s (20 * 16) (200 * 16) (AB A B)) (F0 m 891 ls []) := by
                        intro  H locs ls hX hS hl hf
                        rw [hk61] at hf
                        refine lv_aload_n hx hb dL_views_891 rfl (lv_at hl 0 rfl) ?_
                        refine lv_iload hx hb dL_views_892 (lv_at hl 1 rfl) ?_
                        refine lv_iload hx hb dL_views_894 (lv_at hl 2 rfl) ?_
                        obtain ⟨h63, hf⟩ := gd_e hf
                        obtain ⟨z62, C64, hz62, hf⟩ := cb2_e hf
                        refine tW (As := [.ref x0, .int z15, .int x34]) (rest := []) hAB hC (v_join hfl hz62) qw_join a_830 ⟨Nat.le_of_ble_eq_true rfl, Nat.le_of_ble_eq_true rfl⟩ hX (fun q hq => hAs q (Nat.le_trans hS.1 hq)) hKX hTX hNX rfl hl.1 (Nat.le_of_ble_eq_true rfl) dL_views_896 ⟨Nat.mul_le_mul_left 20 h63, Nat.mul_le_mul_left 200 h63⟩ hS (fun _ z => z) (fun H locs hX hS => ?_)
                        obtain ⟨S65, eS65, hf⟩ := lt_e hf
                        rw [← eS65] at hX ⊢
                        refine lv_sipush (v := (-7200)) hx hb dL_views_899 (by decide) ?_
                        refine lv_icmp_ne (tgt := 909) hx hb dL_views_902 (by decide) (fun c66 => ?_) (fun c66 => ?_)
                        · have hf := it_f c66 hf
                          refine lv_iconst (v := 0) hx hb dL_views_909 (by decide) ?_
                          obtain ⟨h67, hf⟩ := gd_e hf
                          cases hf
                          exact CtT_rz hx hb hr hlk nz0 hX hS (Nat.mul_le_mul_left 20 h67) (Nat.mul_le_mul_left 200 h67) dL_views_910
                        · have hf := it_t c66 hf
                          refine lv_iconst (v := 1) hx hb dL_views_905 (by decide) ?_
                          refine lv_goto (tgt := 910) hx hb dL_views_906 (by decide) ?_
                          obtain ⟨h68, hf⟩ := gd_e hf
                          cases hf
                          exact CtT_rz hx hb hr hlk nz1 hX hS (Nat.mul_le_mul_left 20 h68) (Nat.mul_le_mul_left 200 h68) dL_views_910
                      refine lv_if_ne (tgt := 891) hx hb dL_views_873 (by decide) (fun c69 => ?_) (fun c69 => ?_)
                      · have hf := it_f c69 hf
                        exact Jk61 _ _ _ hX hS (lv_sub hl [0, 3, 7] rfl) hf
                      · have hf := it_t c69 hf
                        refine lv_aload hx hb dL_views_876 (lv_at hl 1 rfl) ?_
                        refine lv_iload hx hb dL_views_878 (lv_at hl 7 rfl) ?_
                        obtain ⟨h71, hf⟩ := gd_e hf
                        obtain ⟨z70, hz70, hf⟩ := cb_e hf
                        refine tSi (As := [.ref (ad 1), .int x34]) (rest := []) hAB hC (c_l_keyOf La_a hz70) q_l_keyOf a_608 ⟨Nat.le_of_ble_eq_true rfl, Nat.le_of_ble_eq_true rfl⟩ hX hKX rfl hl.1 (Nat.le_of_ble_eq_true rfl) dL_views_880 ⟨Nat.mul_le_mul_left 20 h71, Nat.mul_le_mul_left 200 h71⟩ hS (fun _ z => z) (fun H locs hX hS => ?_)
                        change ZX D cA A B x0 ad S57 H at hX
                        change W p l e (RM 8 (20 * 16) (200 * 16)) s m args below meth c H locs (20 * S57.2.2) (200 * S57.2.2) (MQ below (CtQ (AB A B) (some (.int r)) (ZX D cA A B x0 ad T')) args s (20 * 16) (200 * 16) (AB A B)) (F0 m 883 ls [.int z70])
                        refine lv_iload hx hb dL_views_883 (lv_at hl 5 rfl) ?_
                        refine lv_iconst (v := (-1)) hx hb dL_views_885 (by decide) ?_
                        refine lv_ixor hx hb dL_views_886 ?_
                        refine lv_iand hx hb dL_views_887 ?_
                        refine lv_if_eq (tgt := 911) hx hb dL_views_888 (by decide) (fun c72 => ?_) (fun c72 => ?_)
                        · have hf := it_t c72 hf
                          refine lv_aload hx hb dL_views_911 (lv_at hl 2 rfl) ?_
                          refine lv_iconst (v := 1) hx hb dL_views_913 (by decide) ?_
                          obtain ⟨h74, j73, ej73, hf⟩ := rd_e hf
                          refine tald hx hb hKX.1 hX (by decide) h74 ej73 dL_views_914 ?_
                          refine lv_bipush (v := 10) hx hb dL_views_915 (by decide) ?_
                          refine lv_icmp_ne (tgt := 940) hx hb dL_views_917 (by decide) (fun c75 => ?_) (fun c75 => ?_)
                          · have hf := it_f c75 hf
                            refine lv_aload hx hb dL_views_940 (lv_at hl 1 rfl) ?_
                            refine lv_aload hx hb dL_views_942 (lv_at hl 2 rfl) ?_
                            refine lv_iconst (v := 1) hx hb dL_views_944 (by decide) ?_
                            obtain ⟨h77, j76, ej76, hf⟩ := rd_e hf
                            refine tald hx hb hKX.1 hX (by decide) h77 ej76 dL_views_945 ?_
                            refine lv_iconst (v := 3) hx hb dL_views_946 (by decide) ?_
                            refine lv_iconst (v := 4) hx hb dL_views_947 (by decide) ?_
                            refine lv_iload hx hb dL_views_948 (lv_at hl 3 rfl) ?_
                            refine lv_imul hx hb dL_views_950 ?_
                            refine lv_iadd hx hb dL_views_951 ?_
                            refine lv_bipush (v := 64) hx hb dL_views_952 (by decide) ?_
                            refine lv_iload hx hb dL_views_954 (lv_at hl 7 rfl) ?_
                            refine lv_imul hx hb dL_views_956 ?_
                            refine lv_iadd hx hb dL_views_957 ?_
                            refine lv_iload hx hb dL_views_958 (lv_at hl 5 rfl) ?_
                            refine lv_aload hx hb dL_views_960 (lv_at hl 1 rfl) ?_
                            refine lv_iload hx hb dL_views_962 (lv_at hl 7 rfl) ?_
                            obtain ⟨h79, hf⟩ := gd_e hf
                            obtain ⟨z78, hz78, hf⟩ := cb_e hf
                            refine tSi (As := [.ref (ad 1), .int x34]) (rest := [.int z23, .int (((3 : Int32) + ((4 : Int32) * z15)) + ((64 : Int32) * x34)), .int (S57.2.1 6 j76), .ref (ad 1)]) hAB hC (c_l_columnsOf La_a hz78) q_l_columnsOf a_593 ⟨Nat.le_of_ble_eq_true rfl, Nat.le_of_ble_eq_true rfl⟩ hX hKX rfl hl.1 (Nat.le_of_ble_eq_true rfl) dL_views_964 ⟨Nat.mul_le_mul_left 20 h79, Nat.mul_le_mul_left 200 h79⟩ hS (fun _ z => z) (fun H locs hX hS => ?_)
                            change ZX D cA A B x0 ad S57 H at hX
                            change W p l e (RM 8 (20 * 16) (200 * 16)) s m args below meth c H locs (20 * S57.2.2) (200 * S57.2.2) (MQ below (CtQ (AB A B) (some (.int r)) (ZX D cA A B x0 ad T')) args s (20 * 16) (200 * 16) (AB A B)) (F0 m 967 ls [.int z78, .int z23, .int (((3 : Int32) + ((4 : Int32) * z15)) + ((64 : Int32) * x34)), .int (S57.2.1 6 j76), .ref (ad 1)])
                            refine lv_ior hx hb dL_views_967 ?_
                            refine lv_bipush (v := 15) hx hb dL_views_968 (by decide) ?_
                            refine lv_ishl hx hb dL_views_970 ?_
                            refine lv_iadd hx hb dL_views_971 ?_
                            refine lv_iload hx hb dL_views_972 (lv_at hl 4 rfl) ?_
                            refine lv_bipush (v := 18) hx hb dL_views_974 (by decide) ?_
                            refine lv_ishl hx hb dL_views_976 ?_
                            refine lv_iadd hx hb dL_views_977 ?_
                            refine lv_iload hx hb dL_views_978 (lv_at hl 6 rfl) ?_
                            refine lv_aload hx hb dL_views_980 (lv_at hl 1 rfl) ?_
                            refine lv_iload hx hb dL_views_982 (lv_at hl 7 rfl) ?_
                            obtain ⟨h81, j80, ej80, hf⟩ := rd_e hf
                            refine tald hx hb hKX.1 hX (by decide) h81 ej80 dL_views_984 ?_
                            refine lv_bipush (v := 21) hx hb dL_views_985 (by decide) ?_
                            refine lv_ishr hx hb dL_views_987 ?_
                            refine lv_bipush (v := 7) hx hb dL_views_988 (by decide) ?_
                            refine lv_iand hx hb dL_views_990 ?_
                            refine lv_ior hx hb dL_views_991 ?_
                            refine lv_bipush (v := 21) hx hb dL_views_992 (by decide) ?_
                            refine lv_ishl hx hb dL_views_994 ?_
                            refine lv_iadd hx hb dL_views_995 ?_
                            obtain ⟨h83, j82, ej82, hf⟩ := rd_e hf
                            refine tasv hx hb hAB hKX.1 hX hS (by decide) h83 ej82 dL_views_996 (fun H locs hX hS => ?_)
                            obtain ⟨S84, eS84, hf⟩ := lt_e hf
                            rw [← eS84] at hX ⊢
                            refine lv_aload hx hb dL_views_997 (lv_at hl 2 rfl) ?_
                            refine lv_iconst (v := 1) hx hb dL_views_999 (by decide) ?_
                            refine lv_dup2_11 hx hb dL_views_1000 rfl rfl ?_
                            obtain ⟨h86, j85, ej85, hf⟩ := rd_e hf
                            refine tald hx hb hKX.1 hX (by decide) h86 ej85 dL_views_1001 ?_
                            refine lv_iconst (v := 1) hx hb dL_views_1002 (by decide) ?_
                            refine lv_iadd hx hb dL_views_1003 ?_
                            obtain ⟨h88, j87, ej87, hf⟩ := rd_e hf
                            refine tasv hx hb hAB hKX.1 hX hS (by decide) h88 ej87 dL_views_1004 (fun H locs hX hS => ?_)
                            obtain ⟨S89, eS89, hf⟩ := lt_e hf
                            rw [← eS89] at hX ⊢
                            refine lv_aload_n hx hb dL_views_1005 rfl (lv_at hl 0 rfl) ?_
                            refine lv_iload hx hb dL_views_1006 (lv_at hl 3 rfl) ?_
                            refine lv_iload hx hb dL_views_1008 (lv_at hl 7 rfl) ?_
                            obtain ⟨h91, hf⟩ := gd_e hf
                            obtain ⟨z90, C92, hz90, hf⟩ := cb2_e hf
                            refine tW (As := [.ref x0, .int z15, .int x34]) (rest := []) hAB hC (v_join hfl hz90) qw_join a_830 ⟨Nat.le_of_ble_eq_true rfl, Nat.le_of_ble_eq_true rfl⟩ hX (fun q hq => hAs q (Nat.le_trans hS.1 hq)) hKX hTX hNX rfl hl.1 (Nat.le_of_ble_eq_true rfl) dL_views_1010 ⟨Nat.mul_le_mul_left 20 h91, Nat.mul_le_mul_left 200 h91⟩ hS (fun _ z => z) (fun H locs hX hS => ?_)
                            obtain ⟨S93, eS93, hf⟩ := lt_e hf
                            rw [← eS93] at hX ⊢
                            refine lv_aload hx hb dL_views_1013 (lv_at hl 2 rfl) ?_
                            refine lv_iconst (v := 1) hx hb dL_views_1015 (by decide) ?_
                            obtain ⟨h95, j94, ej94, hf⟩ := rd_e hf
                            refine tald hx hb hKX.1 hX (by decide) h95 ej94 dL_views_1016 ?_
                            refine lv_iconst (v := 1) hx hb dL_views_1017 (by decide) ?_
                            refine lv_isub hx hb dL_views_1018 ?_
                            refine lv_icmp_ne (tgt := 1026) hx hb dL_views_1019 (by decide) (fun c96 => ?_) (fun c96 => ?_)
                            · have hf := it_f c96 hf
                              refine lv_iconst (v := 0) hx hb dL_views_1026 (by decide) ?_
                              obtain ⟨h97, hf⟩ := gd_e hf
                              cases hf
                              exact CtT_rz hx hb hr hlk nz0 hX hS (Nat.mul_le_mul_left 20 h97) (Nat.mul_le_mul_left 200 h97) dL_views_1027
                            · have hf := it_t c96 hf
                              refine lv_iconst (v := 1) hx hb dL_views_1022 (by decide) ?_
                              refine lv_goto (tgt := 1027) hx hb dL_views_1023 (by decide) ?_
                              obtain ⟨h98, hf⟩ := gd_e hf
                              cases hf
                              exact CtT_rz hx hb hr hlk nz1 hX hS (Nat.mul_le_mul_left 20 h98) (Nat.mul_le_mul_left 200 h98) dL_views_1027
                          · have hf := it_t c75 hf
                            refine lv_aload_n hx hb dL_views_920 rfl (lv_at hl 0 rfl) ?_
                            refine lv_iload hx hb dL_views_921 (lv_at hl 3 rfl) ?_
                            refine lv_iload hx hb dL_views_923 (lv_at hl 7 rfl) ?_
                            obtain ⟨h100, hf⟩ := gd_e hf
                            obtain ⟨z99, C101, hz99, hf⟩ := cb2_e hf
                            refine tW (As := [.ref x0, .int z15, .int x34]) (rest := []) hAB hC (v_join hfl hz99) qw_join a_830 ⟨Nat.le_of_ble_eq_true rfl, Nat.le_of_ble_eq_true rfl⟩ hX (fun q hq => hAs q (Nat.le_trans hS.1 hq)) hKX hTX hNX rfl hl.1 (Nat.le_of_ble_eq_true rfl) dL_views_925 ⟨Nat.mul_le_mul_left 20 h100, Nat.mul_le_mul_left 200 h100⟩ hS (fun _ z => z) (fun H locs hX hS => ?_)
                            obtain ⟨S102, eS102, hf⟩ := lt_e hf
                            rw [← eS102] at hX ⊢
                            refine lv_sipush (v := (-7300)) hx hb dL_views_928 (by decide) ?_
                            refine lv_icmp_ne (tgt := 938) hx hb dL_views_931 (by decide) (fun c103 => ?_) (fun c103 => ?_)
                            · have hf := it_f c103 hf
                              refine lv_iconst (v := 0) hx hb dL_views_938 (by decide) ?_
                              obtain ⟨h104, hf⟩ := gd_e hf
                              cases hf
                              exact CtT_rz hx hb hr hlk nz0 hX hS (Nat.mul_le_mul_left 20 h104) (Nat.mul_le_mul_left 200 h104) dL_views_939
                            · have hf := it_t c103 hf
                              refine lv_iconst (v := 1) hx hb dL_views_934 (by decide) ?_
                              refine lv_goto (tgt := 939) hx hb dL_views_935 (by decide) ?_
                              obtain ⟨h105, hf⟩ := gd_e hf
                              cases hf
                              exact CtT_rz hx hb hr hlk nz1 hX hS (Nat.mul_le_mul_left 20 h105) (Nat.mul_le_mul_left 200 h105) dL_views_939
                        · have hf := it_f c72 hf
                          exact Jk61 _ _ _ hX hS (lv_sub hl [0, 3, 7] rfl) hf
                    · have hf := it_f c58 hf
                      refine lv_iconst (v := 0) hx hb dL_views_860 (by decide) ?_
                      obtain ⟨h106, hf⟩ := gd_e hf
                      cases hf
                      exact CtT_rz hx hb hr hlk nz0 hX hS (Nat.mul_le_mul_left 20 h106) (Nat.mul_le_mul_left 200 h106) dL_views_861
              refine lv_icmp_ge (tgt := 817) hx hb dL_views_768 (by decide) (fun c107 => ?_) (fun c107 => ?_)
              · have hf := it_t c107 hf
                exact Jk39 _ _ _ hX hS (lv_sub hl [0, 1, 2, 3, 4, 5, 6, 7] rfl) hf
              · have hf := it_f c107 hf
                refine lv_aload hx hb dL_views_771 (lv_at hl 1 rfl) ?_
                refine lv_iload hx hb dL_views_773 (lv_at hl 7 rfl) ?_
                obtain ⟨h109, j108, ej108, hf⟩ := rd_e hf
                refine tald hx hb hKX.1 hX (by decide) h109 ej108 dL_views_775 ?_
                refine lv_bipush (v := 21) hx hb dL_views_776 (by decide) ?_
                refine lv_ishr hx hb dL_views_778 ?_
                refine lv_iload hx hb dL_views_779 (lv_at hl 6 rfl) ?_
                refine lv_iand hx hb dL_views_781 ?_
                obtain ⟨k110, hk110, hf⟩ := jn0_e hf
                have Jk110 : ∀  (H : Heap) (locs : List Loc) (ls : Array Slot), ZX D cA A B x0 ad T H → va_S (AB A B) s.heap H locs → lv_has ls 15 [(0, .ref x0), (5, .ref (ad 1)), (6, .ref (ad 6)), (7, .int z15), (10, .int z21), (11, .int z23), (12, .int x27), (13, .int x34), (14, .int x35)] → k110 = some (r, T') → W p l e (RM 8 (20 * 16) (200 * 16)) s m args below meth c H locs (20 * T.2.2) (200 * T.2.2) (MQ below (CtQ (AB A B) (some (.int r)) (ZX D cA A B x0 ad T')) args s (20 * 16) (200 * 16) (AB A B)) (F0 m 800 ls []) := by
                  intro  H locs ls hX hS hl hf
                  rw [hk110] at hf
                  refine lv_iload hx hb dL_views_800 (lv_at hl 7 rfl) ?_
                  refine lv_iconst (v := 1) hx hb dL_views_802 (by decide) ?_
                  refine lv_iadd hx hb dL_views_803 ?_
                  refine lv_aload hx hb dL_views_804 (lv_at hl 2 rfl) ?_
                  refine lv_iconst (v := 1) hx hb dL_views_806 (by decide) ?_
                  obtain ⟨h112, j111, ej111, hf⟩ := rd_e hf
                  refine tald hx hb hKX.1 hX (by decide) h112 ej111 dL_views_807 ?_
                  obtain ⟨h113, hf⟩ := dv_e hf
                  refine lv_irem hx hb dL_views_808 h113 ?_
                  refine lv_topi (fun x114 ex114 => ?_)
                  have hf := lt_at ex114 hf
                  refine lv_istore (lv' := [(13, .int x114), (0, .ref x0), (5, .ref (ad 1)), (6, .ref (ad 6)), (7, .int z15), (10, .int z21), (11, .int z23), (12, .int x27), (14, .int x35)]) hx hb dL_views_809 hl (by decide) rfl (fun ls hl => ?_)
                  refine lv_iinc (v := (x35 + 1)) (lv' := [(14, .int (x35 + 1)), (13, .int x114), (0, .ref x0), (5, .ref (ad 1)), (6, .ref (ad 6)), (7, .int z15), (10, .int z21), (11, .int z23), (12, .int x27)]) hx hb dL_views_811 hl (k := 8) rfl rfl (by decide) rfl (fun ls hl => ?_)
                  refine lv_goto (tgt := 762) hx hb dL_views_814 (by decide) ?_
                  exact ihg36 _ _ _ _ _ hX hS (lv_sub hl [2, 3, 4, 5, 6, 7, 8, 1, 0] rfl) hf
                refine lv_if_ne (tgt := 800) hx hb dL_views_782 (by decide) (fun c115 => ?_) (fun c115 => ?_)
                · have hf := it_f c115 hf
                  exact Jk110 _ _ _ hX hS (lv_sub hl [0, 1, 2, 3, 4, 5, 6, 7, 8] rfl) hf
                · have hf := it_t c115 hf
                  refine lv_aload hx hb dL_views_785 (lv_at hl 1 rfl) ?_
                  refine lv_iload hx hb dL_views_787 (lv_at hl 7 rfl) ?_
                  obtain ⟨h117, hf⟩ := gd_e hf
                  obtain ⟨z116, hz116, hf⟩ := cb_e hf
                  refine tSi (As := [.ref (ad 1), .int x34]) (rest := []) hAB hC (c_l_keyOf La_a hz116) q_l_keyOf a_608 ⟨Nat.le_of_ble_eq_true rfl, Nat.le_of_ble_eq_true rfl⟩ hX hKX rfl hl.1 (Nat.le_of_ble_eq_true rfl) dL_views_789 ⟨Nat.mul_le_mul_left 20 h117, Nat.mul_le_mul_left 200 h117⟩ hS (fun _ z => z) (fun H locs hX hS => ?_)
                  change ZX D cA A B x0 ad T H at hX
                  change W p l e (RM 8 (20 * 16) (200 * 16)) s m args below meth c H locs (20 * T.2.2) (200 * T.2.2) (MQ below (CtQ (AB A B) (some (.int r)) (ZX D cA A B x0 ad T')) args s (20 * 16) (200 * 16) (AB A B)) (F0 m 792 ls [.int z116])
                  refine lv_iload hx hb dL_views_792 (lv_at hl 5 rfl) ?_
                  refine lv_iconst (v := (-1)) hx hb dL_views_794 (by decide) ?_
                  refine lv_ixor hx hb dL_views_795 ?_
                  refine lv_iand hx hb dL_views_796 ?_
                  refine lv_if_eq (tgt := 817) hx hb dL_views_797 (by decide) (fun c118 => ?_) (fun c118 => ?_)
                  · have hf := it_t c118 hf
                    exact Jk39 _ _ _ hX hS (lv_sub hl [0, 1, 2, 3, 4, 5, 6, 7] rfl) hf
                  · have hf := it_f c118 hf
                    exact Jk110 _ _ _ hX hS (lv_sub hl [0, 1, 2, 3, 4, 5, 6, 7, 8] rfl) hf
          exact Lg36 FU _ _ _ _ _ hX hS (lv_sub hl [8, 13, 14, 7, 4, 3, 2, 1, 0] rfl) hf
        · have hf := it_t c29 hf
          refine lv_aload_n hx hb dL_views_545 rfl (lv_at hl 6 rfl) ?_
          refine lv_aload hx hb dL_views_546 (lv_at hl 12 rfl) ?_
          refine lv_iconst (v := 1) hx hb dL_views_548 (by decide) ?_
          obtain ⟨h120, j119, ej119, hf⟩ := rd_e hf
          refine tald hx hb hKX.1 hX (by decide) h120 ej119 dL_views_549 ?_
          refine lv_iload hx hb dL_views_550 (lv_at hl 4 rfl) ?_
          refine lv_iload hx hb dL_views_552 (lv_at hl 3 rfl) ?_
          obtain ⟨h122, hf⟩ := gd_e hf
          obtain ⟨z121, C123, hz121, hf⟩ := cb2_e hf
          refine tW (As := [.ref x0, .int (T.2.1 6 j119), .int z17, .int z19]) (rest := []) hAB hC (v_drop hfl hz121) qw_drop a_800 ⟨Nat.le_of_ble_eq_true rfl, Nat.le_of_ble_eq_true rfl⟩ hX (fun q hq => hAs q (Nat.le_trans hS.1 hq)) hKX hTX hNX rfl hl.1 (Nat.le_of_ble_eq_true rfl) dL_views_554 ⟨Nat.mul_le_mul_left 20 h122, Nat.mul_le_mul_left 200 h122⟩ hS (fun _ z => z) (fun H locs hX hS => ?_)
          obtain ⟨S124, eS124, hf⟩ := lt_e hf
          rw [← eS124] at hX ⊢
          refine lv_sipush (v := (-7100)) hx hb dL_views_557 (by decide) ?_
          refine lv_icmp_ne (tgt := 594) hx hb dL_views_560 (by decide) (fun c125 => ?_) (fun c125 => ?_)
          · have hf := it_f c125 hf
            refine lv_iconst (v := 0) hx hb dL_views_594 (by decide) ?_
            obtain ⟨h126, hf⟩ := gd_e hf
            cases hf
            exact CtT_rz hx hb hr hlk nz0 hX hS (Nat.mul_le_mul_left 20 h126) (Nat.mul_le_mul_left 200 h126) dL_views_595
          · have hf := it_t c125 hf
            refine lv_aload_n hx hb dL_views_563 rfl (lv_at hl 6 rfl) ?_
            refine lv_iload hx hb dL_views_564 (lv_at hl 5 rfl) ?_
            refine lv_iload hx hb dL_views_566 (lv_at hl 4 rfl) ?_
            refine lv_bipush (v := 10) hx hb dL_views_568 (by decide) ?_
            obtain ⟨h128, hf⟩ := gd_e hf
            obtain ⟨z127, C129, hz127, hf⟩ := cb2_e hf
            refine tW (As := [.ref x0, .int z15, .int z17, .int 10]) (rest := []) hAB hC (v_drop hfl hz127) qw_drop a_800 ⟨Nat.le_of_ble_eq_true rfl, Nat.le_of_ble_eq_true rfl⟩ hX (fun q hq => hAs q (Nat.le_trans hS.1 hq)) hKX hTX hNX rfl hl.1 (Nat.le_of_ble_eq_true rfl) dL_views_570 ⟨Nat.mul_le_mul_left 20 h128, Nat.mul_le_mul_left 200 h128⟩ hS (fun _ z => z) (fun H locs hX hS => ?_)
            obtain ⟨S130, eS130, hf⟩ := lt_e hf
            rw [← eS130] at hX ⊢
            refine lv_sipush (v := (-7200)) hx hb dL_views_573 (by decide) ?_
            refine lv_icmp_ne (tgt := 594) hx hb dL_views_576 (by decide) (fun c131 => ?_) (fun c131 => ?_)
            · have hf := it_f c131 hf
              refine lv_iconst (v := 0) hx hb dL_views_594 (by decide) ?_
              obtain ⟨h132, hf⟩ := gd_e hf
              cases hf
              exact CtT_rz hx hb hr hlk nz0 hX hS (Nat.mul_le_mul_left 20 h132) (Nat.mul_le_mul_left 200 h132) dL_views_595
            · have hf := it_t c131 hf
              refine lv_aload_n hx hb dL_views_579 rfl (lv_at hl 6 rfl) ?_
              refine lv_iload hx hb dL_views_580 (lv_at hl 5 rfl) ?_
              refine lv_iconst (v := 3) hx hb dL_views_582 (by decide) ?_
              refine lv_iload hx hb dL_views_583 (lv_at hl 3 rfl) ?_
              obtain ⟨h134, hf⟩ := gd_e hf
              obtain ⟨z133, C135, hz133, hf⟩ := cb2_e hf
              refine tW (As := [.ref x0, .int z15, .int 3, .int z19]) (rest := []) hAB hC (v_drop hfl hz133) qw_drop a_800 ⟨Nat.le_of_ble_eq_true rfl, Nat.le_of_ble_eq_true rfl⟩ hX (fun q hq => hAs q (Nat.le_trans hS.1 hq)) hKX hTX hNX rfl hl.1 (Nat.le_of_ble_eq_true rfl) dL_views_585 ⟨Nat.mul_le_mul_left 20 h134, Nat.mul_le_mul_left 200 h134⟩ hS (fun _ z => z) (fun H locs hX hS => ?_)
              obtain ⟨S136, eS136, hf⟩ := lt_e hf
              rw [← eS136] at hX ⊢
              refine lv_sipush (v := (-7200)) hx hb dL_views_588 (by decide) ?_
              refine lv_icmp_eq (tgt := 596) hx hb dL_views_591 (by decide) (fun c137 => ?_) (fun c137 => ?_)
              · have hf := it_t c137 hf
                refine lv_iload hx hb dL_views_596 (lv_at hl 1 rfl) ?_
                refine lv_iload hx hb dL_views_598 (lv_at hl 2 rfl) ?_
                refine lv_iconst (v := (-1)) hx hb dL_views_600 (by decide) ?_
                refine lv_ixor hx hb dL_views_601 ?_
                refine lv_iand hx hb dL_views_602 ?_
                refine lv_iload hx hb dL_views_603 (lv_at hl 4 rfl) ?_
                refine lv_ishr hx hb dL_views_605 ?_
                refine lv_iconst (v := 1) hx hb dL_views_606 (by decide) ?_
                refine lv_iand hx hb dL_views_607 ?_
                refine lv_if_ne (tgt := 633) hx hb dL_views_608 (by decide) (fun c138 => ?_) (fun c138 => ?_)
                · have hf := it_f c138 hf
                  refine lv_aload hx hb dL_views_633 (lv_at hl 12 rfl) ?_
                  refine lv_iconst (v := 1) hx hb dL_views_635 (by decide) ?_
                  obtain ⟨h140, j139, ej139, hf⟩ := rd_e hf
                  refine tald hx hb hKX.1 hX (by decide) h140 ej139 dL_views_636 ?_
                  refine lv_bipush (v := 10) hx hb dL_views_637 (by decide) ?_
                  refine lv_icmp_ne (tgt := 664) hx hb dL_views_639 (by decide) (fun c141 => ?_) (fun c141 => ?_)
                  · have hf := it_f c141 hf
                    refine lv_aload hx hb dL_views_664 (lv_at hl 11 rfl) ?_
                    refine lv_aload hx hb dL_views_666 (lv_at hl 12 rfl) ?_
                    refine lv_iconst (v := 1) hx hb dL_views_668 (by decide) ?_
                    obtain ⟨h143, j142, ej142, hf⟩ := rd_e hf
                    refine tald hx hb hKX.1 hX (by decide) h143 ej142 dL_views_669 ?_
                    refine lv_iconst (v := 2) hx hb dL_views_670 (by decide) ?_
                    refine lv_iconst (v := 4) hx hb dL_views_671 (by decide) ?_
                    refine lv_iload hx hb dL_views_672 (lv_at hl 5 rfl) ?_
                    refine lv_imul hx hb dL_views_674 ?_
                    refine lv_iadd hx hb dL_views_675 ?_
                    refine lv_sipush (v := 1024) hx hb dL_views_676 (by decide) ?_
                    refine lv_iload hx hb dL_views_679 (lv_at hl 4 rfl) ?_
                    refine lv_imul hx hb dL_views_681 ?_
                    refine lv_iadd hx hb dL_views_682 ?_
                    refine lv_sipush (v := 4096) hx hb dL_views_683 (by decide) ?_
                    refine lv_iload hx hb dL_views_686 (lv_at hl 3 rfl) ?_
                    refine lv_imul hx hb dL_views_688 ?_
                    refine lv_iadd hx hb dL_views_689 ?_
                    refine lv_iload hx hb dL_views_690 (lv_at hl 1 rfl) ?_
                    refine lv_iconst (v := 1) hx hb dL_views_692 (by decide) ?_
                    refine lv_iload hx hb dL_views_693 (lv_at hl 4 rfl) ?_
                    refine lv_ishl hx hb dL_views_695 ?_
                    refine lv_iconst (v := (-1)) hx hb dL_views_696 (by decide) ?_
                    refine lv_ixor hx hb dL_views_697 ?_
                    refine lv_iand hx hb dL_views_698 ?_
                    refine lv_bipush (v := 15) hx hb dL_views_699 (by decide) ?_
                    refine lv_ishl hx hb dL_views_701 ?_
                    refine lv_iadd hx hb dL_views_702 ?_
                    refine lv_iload hx hb dL_views_703 (lv_at hl 2 rfl) ?_
                    refine lv_bipush (v := 18) hx hb dL_views_705 (by decide) ?_
                    refine lv_ishl hx hb dL_views_707 ?_
                    refine lv_iadd hx hb dL_views_708 ?_
                    refine lv_iload hx hb dL_views_709 (lv_at hl 0 rfl) ?_
                    refine lv_bipush (v := 21) hx hb dL_views_711 (by decide) ?_
                    refine lv_ishl hx hb dL_views_713 ?_
                    refine lv_iadd hx hb dL_views_714 ?_
                    obtain ⟨h145, j144, ej144, hf⟩ := rd_e hf
                    refine tasv hx hb hAB hKX.1 hX hS (by decide) h145 ej144 dL_views_715 (fun H locs hX hS => ?_)
                    obtain ⟨S146, eS146, hf⟩ := lt_e hf
                    rw [← eS146] at hX ⊢
                    refine lv_aload hx hb dL_views_716 (lv_at hl 12 rfl) ?_
                    refine lv_iconst (v := 1) hx hb dL_views_718 (by decide) ?_
                    refine lv_dup2_11 hx hb dL_views_719 rfl rfl ?_
                    obtain ⟨h148, j147, ej147, hf⟩ := rd_e hf
                    refine tald hx hb hKX.1 hX (by decide) h148 ej147 dL_views_720 ?_
                    refine lv_iconst (v := 1) hx hb dL_views_721 (by decide) ?_
                    refine lv_iadd hx hb dL_views_722 ?_
                    obtain ⟨h150, j149, ej149, hf⟩ := rd_e hf
                    refine tasv hx hb hAB hKX.1 hX hS (by decide) h150 ej149 dL_views_723 (fun H locs hX hS => ?_)
                    obtain ⟨S151, eS151, hf⟩ := lt_e hf
                    rw [← eS151] at hX ⊢
                    refine lv_aload_n hx hb dL_views_724 rfl (lv_at hl 6 rfl) ?_
                    refine lv_iload hx hb dL_views_725 (lv_at hl 5 rfl) ?_
                    refine lv_iload hx hb dL_views_727 (lv_at hl 4 rfl) ?_
                    refine lv_iload hx hb dL_views_729 (lv_at hl 3 rfl) ?_
                    obtain ⟨h153, hf⟩ := gd_e hf
                    obtain ⟨z152, C154, hz152, hf⟩ := cb2_e hf
                    refine tW (As := [.ref x0, .int z15, .int z17, .int z19]) (rest := []) hAB hC (v_drop hfl hz152) qw_drop a_800 ⟨Nat.le_of_ble_eq_true rfl, Nat.le_of_ble_eq_true rfl⟩ hX (fun q hq => hAs q (Nat.le_trans hS.1 hq)) hKX hTX hNX rfl hl.1 (Nat.le_of_ble_eq_true rfl) dL_views_731 ⟨Nat.mul_le_mul_left 20 h153, Nat.mul_le_mul_left 200 h153⟩ hS (fun _ z => z) (fun H locs hX hS => ?_)
                    obtain ⟨S155, eS155, hf⟩ := lt_e hf
                    rw [← eS155] at hX ⊢
                    refine lv_aload hx hb dL_views_734 (lv_at hl 12 rfl) ?_
                    refine lv_iconst (v := 1) hx hb dL_views_736 (by decide) ?_
                    obtain ⟨h157, j156, ej156, hf⟩ := rd_e hf
                    refine tald hx hb hKX.1 hX (by decide) h157 ej156 dL_views_737 ?_
                    refine lv_iconst (v := 1) hx hb dL_views_738 (by decide) ?_
                    refine lv_isub hx hb dL_views_739 ?_
                    refine lv_icmp_ne (tgt := 747) hx hb dL_views_740 (by decide) (fun c158 => ?_) (fun c158 => ?_)
                    · have hf := it_f c158 hf
                      refine lv_iconst (v := 0) hx hb dL_views_747 (by decide) ?_
                      obtain ⟨h159, hf⟩ := gd_e hf
                      cases hf
                      exact CtT_rz hx hb hr hlk nz0 hX hS (Nat.mul_le_mul_left 20 h159) (Nat.mul_le_mul_left 200 h159) dL_views_748
                    · have hf := it_t c158 hf
                      refine lv_iconst (v := 1) hx hb dL_views_743 (by decide) ?_
                      refine lv_goto (tgt := 748) hx hb dL_views_744 (by decide) ?_
                      obtain ⟨h160, hf⟩ := gd_e hf
                      cases hf
                      exact CtT_rz hx hb hr hlk nz1 hX hS (Nat.mul_le_mul_left 20 h160) (Nat.mul_le_mul_left 200 h160) dL_views_748
                  · have hf := it_t c141 hf
                    refine lv_aload_n hx hb dL_views_642 rfl (lv_at hl 6 rfl) ?_
                    refine lv_iload hx hb dL_views_643 (lv_at hl 5 rfl) ?_
                    refine lv_iload hx hb dL_views_645 (lv_at hl 4 rfl) ?_
                    refine lv_iload hx hb dL_views_647 (lv_at hl 3 rfl) ?_
                    obtain ⟨h162, hf⟩ := gd_e hf
                    obtain ⟨z161, C163, hz161, hf⟩ := cb2_e hf
                    refine tW (As := [.ref x0, .int z15, .int z17, .int z19]) (rest := []) hAB hC (v_drop hfl hz161) qw_drop a_800 ⟨Nat.le_of_ble_eq_true rfl, Nat.le_of_ble_eq_true rfl⟩ hX (fun q hq => hAs q (Nat.le_trans hS.1 hq)) hKX hTX hNX rfl hl.1 (Nat.le_of_ble_eq_true rfl) dL_views_649 ⟨Nat.mul_le_mul_left 20 h162, Nat.mul_le_mul_left 200 h162⟩ hS (fun _ z => z) (fun H locs hX hS => ?_)
                    obtain ⟨S164, eS164, hf⟩ := lt_e hf
                    rw [← eS164] at hX ⊢
                    refine lv_sipush (v := (-7300)) hx hb dL_views_652 (by decide) ?_
                    refine lv_icmp_ne (tgt := 662) hx hb dL_views_655 (by decide) (fun c165 => ?_) (fun c165 => ?_)
                    · have hf := it_f c165 hf
                      refine lv_iconst (v := 0) hx hb dL_views_662 (by decide) ?_
                      obtain ⟨h166, hf⟩ := gd_e hf
                      cases hf
                      exact CtT_rz hx hb hr hlk nz0 hX hS (Nat.mul_le_mul_left 20 h166) (Nat.mul_le_mul_left 200 h166) dL_views_663
                    · have hf := it_t c165 hf
                      refine lv_iconst (v := 1) hx hb dL_views_658 (by decide) ?_
                      refine lv_goto (tgt := 663) hx hb dL_views_659 (by decide) ?_
                      obtain ⟨h167, hf⟩ := gd_e hf
                      cases hf
                      exact CtT_rz hx hb hr hlk nz1 hX hS (Nat.mul_le_mul_left 20 h167) (Nat.mul_le_mul_left 200 h167) dL_views_663
                · have hf := it_t c138 hf
                  refine lv_aload_n hx hb dL_views_611 rfl (lv_at hl 6 rfl) ?_
                  refine lv_iload hx hb dL_views_612 (lv_at hl 5 rfl) ?_
                  refine lv_iload hx hb dL_views_614 (lv_at hl 4 rfl) ?_
                  refine lv_iload hx hb dL_views_616 (lv_at hl 3 rfl) ?_
                  obtain ⟨h169, hf⟩ := gd_e hf
                  obtain ⟨z168, C170, hz168, hf⟩ := cb2_e hf
                  refine tW (As := [.ref x0, .int z15, .int z17, .int z19]) (rest := []) hAB hC (v_drop hfl hz168) qw_drop a_800 ⟨Nat.le_of_ble_eq_true rfl, Nat.le_of_ble_eq_true rfl⟩ hX (fun q hq => hAs q (Nat.le_trans hS.1 hq)) hKX hTX hNX rfl hl.1 (Nat.le_of_ble_eq_true rfl) dL_views_618 ⟨Nat.mul_le_mul_left 20 h169, Nat.mul_le_mul_left 200 h169⟩ hS (fun _ z => z) (fun H locs hX hS => ?_)
                  obtain ⟨S171, eS171, hf⟩ := lt_e hf
                  rw [← eS171] at hX ⊢
                  refine lv_sipush (v := (-7200)) hx hb dL_views_621 (by decide) ?_
                  refine lv_icmp_ne (tgt := 631) hx hb dL_views_624 (by decide) (fun c172 => ?_) (fun c172 => ?_)
                  · have hf := it_f c172 hf
                    refine lv_iconst (v := 0) hx hb dL_views_631 (by decide) ?_
                    obtain ⟨h173, hf⟩ := gd_e hf
                    cases hf
                    exact CtT_rz hx hb hr hlk nz0 hX hS (Nat.mul_le_mul_left 20 h173) (Nat.mul_le_mul_left 200 h173) dL_views_632
                  · have hf := it_t c172 hf
                    refine lv_iconst (v := 1) hx hb dL_views_627 (by decide) ?_
                    refine lv_goto (tgt := 632) hx hb dL_views_628 (by decide) ?_
                    obtain ⟨h174, hf⟩ := gd_e hf
                    cases hf
                    exact CtT_rz hx hb hr hlk nz1 hX hS (Nat.mul_le_mul_left 20 h174) (Nat.mul_le_mul_left 200 h174) dL_views_632
              · have hf := it_f c137 hf
                refine lv_iconst (v := 0) hx hb dL_views_594 (by decide) ?_
                obtain ⟨h175, hf⟩ := gd_e hf
                cases hf
                exact CtT_rz hx hb hr hlk nz0 hX hS (Nat.mul_le_mul_left 20 h175) (Nat.mul_le_mul_left 200 h175) dL_views_595
      · have hf := it_t c28 hf
        refine lv_iload_n hx hb dL_views_270 rfl (lv_at hl 9 rfl) ?_
        refine lv_sipush (v := 768) hx hb dL_views_271 (by decide) ?_
        refine lv_iand hx hb dL_views_274 ?_
        refine lv_sipush (v := 256) hx hb dL_views_275 (by decide) ?_
        obtain ⟨k177, hk177, hf⟩ := jn1_e hf
        have Jk177 : ∀ (x176 : Int32) (H : Heap) (locs : List Loc) (ls : Array Slot), ZX D cA A B x0 ad T H → va_S (AB A B) s.heap H locs → lv_has ls 15 [(0, .ref x0), (5, .ref (ad 1)), (6, .ref (ad 6)), (7, .int z15), (8, .int z17), (9, .int z19), (10, .int z21), (11, .int z23), (12, .int x27)] → k177 x176 = some (r, T') → W p l e (RM 8 (20 * 16) (200 * 16)) s m args below meth c H locs (20 * T.2.2) (200 * T.2.2) (MQ below (CtQ (AB A B) (some (.int r)) (ZX D cA A B x0 ad T')) args s (20 * 16) (200 * 16) (AB A B)) (F0 m 286 ls [.int x176]) := by
          intro x176 H locs ls hX hS hl hf
          rw [hk177] at hf
          refine lv_istore (lv' := [(13, .int x176), (0, .ref x0), (5, .ref (ad 1)), (6, .ref (ad 6)), (7, .int z15), (8, .int z17), (9, .int z19), (10, .int z21), (11, .int z23), (12, .int x27)]) hx hb dL_views_286 hl (by decide) rfl (fun ls hl => ?_)
          refine lv_aload_n hx hb dL_views_288 rfl (lv_at hl 1 rfl) ?_
          refine lv_aload hx hb dL_views_289 (lv_at hl 3 rfl) ?_
          refine lv_iconst (v := 1) hx hb dL_views_291 (by decide) ?_
          obtain ⟨h179, j178, ej178, hf⟩ := rd_e hf
          refine tald hx hb hKX.1 hX (by decide) h179 ej178 dL_views_292 ?_
          refine lv_iload hx hb dL_views_293 (lv_at hl 5 rfl) ?_
          refine lv_iload hx hb dL_views_295 (lv_at hl 6 rfl) ?_
          refine lv_iload hx hb dL_views_297 (lv_at hl 0 rfl) ?_
          obtain ⟨h181, hf⟩ := gd_e hf
          obtain ⟨z180, C182, hz180, hf⟩ := cb2_e hf
          refine tW (As := [.ref x0, .int (T.2.1 6 j178), .int z17, .int z19, .int x176]) (rest := []) hAB hC (v_select hfl hz180) qw_select a_670 ⟨Nat.le_of_ble_eq_true rfl, Nat.le_of_ble_eq_true rfl⟩ hX (fun q hq => hAs q (Nat.le_trans hS.1 hq)) hKX hTX hNX rfl hl.1 (Nat.le_of_ble_eq_true rfl) dL_views_299 ⟨Nat.mul_le_mul_left 20 h181, Nat.mul_le_mul_left 200 h181⟩ hS (fun _ z => z) (fun H locs hX hS => ?_)
          obtain ⟨S183, eS183, hf⟩ := lt_e hf
          rw [← eS183] at hX ⊢
          refine lv_sipush (v := (-7100)) hx hb dL_views_302 (by decide) ?_
          refine lv_icmp_ne (tgt := 378) hx hb dL_views_305 (by decide) (fun c184 => ?_) (fun c184 => ?_)
          · have hf := it_f c184 hf
            refine lv_iconst (v := 0) hx hb dL_views_378 (by decide) ?_
            obtain ⟨h185, hf⟩ := gd_e hf
            cases hf
            exact CtT_rz hx hb hr hlk nz0 hX hS (Nat.mul_le_mul_left 20 h185) (Nat.mul_le_mul_left 200 h185) dL_views_379
          · have hf := it_t c184 hf
            refine lv_aload_n hx hb dL_views_308 rfl (lv_at hl 1 rfl) ?_
            refine lv_iload hx hb dL_views_309 (lv_at hl 4 rfl) ?_
            refine lv_bipush (v := 6) hx hb dL_views_311 (by decide) ?_
            refine lv_iload hx hb dL_views_313 (lv_at hl 6 rfl) ?_
            refine lv_iload hx hb dL_views_315 (lv_at hl 0 rfl) ?_
            obtain ⟨h187, hf⟩ := gd_e hf
            obtain ⟨z186, C188, hz186, hf⟩ := cb2_e hf
            refine tW (As := [.ref x0, .int z15, .int 6, .int z19, .int x176]) (rest := []) hAB hC (v_select hfl hz186) qw_select a_670 ⟨Nat.le_of_ble_eq_true rfl, Nat.le_of_ble_eq_true rfl⟩ hX (fun q hq => hAs q (Nat.le_trans hS.1 hq)) hKX hTX hNX rfl hl.1 (Nat.le_of_ble_eq_true rfl) dL_views_317 ⟨Nat.mul_le_mul_left 20 h187, Nat.mul_le_mul_left 200 h187⟩ hS (fun _ z => z) (fun H locs hX hS => ?_)
            obtain ⟨S189, eS189, hf⟩ := lt_e hf
            rw [← eS189] at hX ⊢
            refine lv_sipush (v := (-7200)) hx hb dL_views_320 (by decide) ?_
            refine lv_icmp_ne (tgt := 378) hx hb dL_views_323 (by decide) (fun c190 => ?_) (fun c190 => ?_)
            · have hf := it_f c190 hf
              refine lv_iconst (v := 0) hx hb dL_views_378 (by decide) ?_
              obtain ⟨h191, hf⟩ := gd_e hf
              cases hf
              exact CtT_rz hx hb hr hlk nz0 hX hS (Nat.mul_le_mul_left 20 h191) (Nat.mul_le_mul_left 200 h191) dL_views_379
            · have hf := it_t c190 hf
              refine lv_aload_n hx hb dL_views_326 rfl (lv_at hl 1 rfl) ?_
              refine lv_iload hx hb dL_views_327 (lv_at hl 4 rfl) ?_
              refine lv_iconst (v := (-1)) hx hb dL_views_329 (by decide) ?_
              refine lv_iload hx hb dL_views_330 (lv_at hl 6 rfl) ?_
              refine lv_iload hx hb dL_views_332 (lv_at hl 0 rfl) ?_
              obtain ⟨h193, hf⟩ := gd_e hf
              obtain ⟨z192, C194, hz192, hf⟩ := cb2_e hf
              refine tW (As := [.ref x0, .int z15, .int (-1), .int z19, .int x176]) (rest := []) hAB hC (v_select hfl hz192) qw_select a_670 ⟨Nat.le_of_ble_eq_true rfl, Nat.le_of_ble_eq_true rfl⟩ hX (fun q hq => hAs q (Nat.le_trans hS.1 hq)) hKX hTX hNX rfl hl.1 (Nat.le_of_ble_eq_true rfl) dL_views_334 ⟨Nat.mul_le_mul_left 20 h193, Nat.mul_le_mul_left 200 h193⟩ hS (fun _ z => z) (fun H locs hX hS => ?_)
              obtain ⟨S195, eS195, hf⟩ := lt_e hf
              rw [← eS195] at hX ⊢
              refine lv_sipush (v := (-7200)) hx hb dL_views_337 (by decide) ?_
              refine lv_icmp_ne (tgt := 378) hx hb dL_views_340 (by decide) (fun c196 => ?_) (fun c196 => ?_)
              · have hf := it_f c196 hf
                refine lv_iconst (v := 0) hx hb dL_views_378 (by decide) ?_
                obtain ⟨h197, hf⟩ := gd_e hf
                cases hf
                exact CtT_rz hx hb hr hlk nz0 hX hS (Nat.mul_le_mul_left 20 h197) (Nat.mul_le_mul_left 200 h197) dL_views_379
              · have hf := it_t c196 hf
                refine lv_aload_n hx hb dL_views_343 rfl (lv_at hl 1 rfl) ?_
                refine lv_iload hx hb dL_views_344 (lv_at hl 4 rfl) ?_
                refine lv_iload hx hb dL_views_346 (lv_at hl 5 rfl) ?_
                refine lv_bipush (v := 10) hx hb dL_views_348 (by decide) ?_
                refine lv_iload hx hb dL_views_350 (lv_at hl 0 rfl) ?_
                obtain ⟨h199, hf⟩ := gd_e hf
                obtain ⟨z198, C200, hz198, hf⟩ := cb2_e hf
                refine tW (As := [.ref x0, .int z15, .int z17, .int 10, .int x176]) (rest := []) hAB hC (v_select hfl hz198) qw_select a_670 ⟨Nat.le_of_ble_eq_true rfl, Nat.le_of_ble_eq_true rfl⟩ hX (fun q hq => hAs q (Nat.le_trans hS.1 hq)) hKX hTX hNX rfl hl.1 (Nat.le_of_ble_eq_true rfl) dL_views_352 ⟨Nat.mul_le_mul_left 20 h199, Nat.mul_le_mul_left 200 h199⟩ hS (fun _ z => z) (fun H locs hX hS => ?_)
                obtain ⟨S201, eS201, hf⟩ := lt_e hf
                rw [← eS201] at hX ⊢
                refine lv_sipush (v := (-7200)) hx hb dL_views_355 (by decide) ?_
                refine lv_icmp_ne (tgt := 378) hx hb dL_views_358 (by decide) (fun c202 => ?_) (fun c202 => ?_)
                · have hf := it_f c202 hf
                  refine lv_iconst (v := 0) hx hb dL_views_378 (by decide) ?_
                  obtain ⟨h203, hf⟩ := gd_e hf
                  cases hf
                  exact CtT_rz hx hb hr hlk nz0 hX hS (Nat.mul_le_mul_left 20 h203) (Nat.mul_le_mul_left 200 h203) dL_views_379
                · have hf := it_t c202 hf
                  refine lv_aload_n hx hb dL_views_361 rfl (lv_at hl 1 rfl) ?_
                  refine lv_iload hx hb dL_views_362 (lv_at hl 4 rfl) ?_
                  refine lv_iload hx hb dL_views_364 (lv_at hl 5 rfl) ?_
                  refine lv_iconst (v := (-1)) hx hb dL_views_366 (by decide) ?_
                  refine lv_iload hx hb dL_views_367 (lv_at hl 0 rfl) ?_
                  obtain ⟨h205, hf⟩ := gd_e hf
                  obtain ⟨z204, C206, hz204, hf⟩ := cb2_e hf
                  refine tW (As := [.ref x0, .int z15, .int z17, .int (-1), .int x176]) (rest := []) hAB hC (v_select hfl hz204) qw_select a_670 ⟨Nat.le_of_ble_eq_true rfl, Nat.le_of_ble_eq_true rfl⟩ hX (fun q hq => hAs q (Nat.le_trans hS.1 hq)) hKX hTX hNX rfl hl.1 (Nat.le_of_ble_eq_true rfl) dL_views_369 ⟨Nat.mul_le_mul_left 20 h205, Nat.mul_le_mul_left 200 h205⟩ hS (fun _ z => z) (fun H locs hX hS => ?_)
                  obtain ⟨S207, eS207, hf⟩ := lt_e hf
                  rw [← eS207] at hX ⊢
                  refine lv_sipush (v := (-7200)) hx hb dL_views_372 (by decide) ?_
                  refine lv_icmp_eq (tgt := 380) hx hb dL_views_375 (by decide) (fun c208 => ?_) (fun c208 => ?_)
                  · have hf := it_t c208 hf
                    refine lv_iload hx hb dL_views_380 (lv_at hl 8 rfl) ?_
                    refine lv_iload hx hb dL_views_382 (lv_at hl 5 rfl) ?_
                    refine lv_ishr hx hb dL_views_384 ?_
                    refine lv_iconst (v := 1) hx hb dL_views_385 (by decide) ?_
                    refine lv_iand hx hb dL_views_386 ?_
                    refine lv_if_ne (tgt := 414) hx hb dL_views_387 (by decide) (fun c209 => ?_) (fun c209 => ?_)
                    · have hf := it_f c209 hf
                      refine lv_aload hx hb dL_views_414 (lv_at hl 3 rfl) ?_
                      refine lv_iconst (v := 1) hx hb dL_views_416 (by decide) ?_
                      obtain ⟨h211, j210, ej210, hf⟩ := rd_e hf
                      refine tald hx hb hKX.1 hX (by decide) h211 ej210 dL_views_417 ?_
                      refine lv_bipush (v := 10) hx hb dL_views_418 (by decide) ?_
                      refine lv_icmp_ne (tgt := 447) hx hb dL_views_420 (by decide) (fun c212 => ?_) (fun c212 => ?_)
                      · have hf := it_f c212 hf
                        refine lv_aload hx hb dL_views_447 (lv_at hl 2 rfl) ?_
                        refine lv_aload hx hb dL_views_449 (lv_at hl 3 rfl) ?_
                        refine lv_iconst (v := 1) hx hb dL_views_451 (by decide) ?_
                        obtain ⟨h214, j213, ej213, hf⟩ := rd_e hf
                        refine tald hx hb hKX.1 hX (by decide) h214 ej213 dL_views_452 ?_
                        refine lv_iconst (v := 1) hx hb dL_views_453 (by decide) ?_
                        refine lv_iconst (v := 4) hx hb dL_views_454 (by decide) ?_
                        refine lv_iload hx hb dL_views_455 (lv_at hl 4 rfl) ?_
                        refine lv_imul hx hb dL_views_457 ?_
                        refine lv_iadd hx hb dL_views_458 ?_
                        refine lv_sipush (v := 1024) hx hb dL_views_459 (by decide) ?_
                        refine lv_iload hx hb dL_views_462 (lv_at hl 5 rfl) ?_
                        refine lv_imul hx hb dL_views_464 ?_
                        refine lv_iadd hx hb dL_views_465 ?_
                        refine lv_sipush (v := 4096) hx hb dL_views_466 (by decide) ?_
                        refine lv_iload hx hb dL_views_469 (lv_at hl 6 rfl) ?_
                        refine lv_imul hx hb dL_views_471 ?_
                        refine lv_iadd hx hb dL_views_472 ?_
                        refine lv_iload hx hb dL_views_473 (lv_at hl 0 rfl) ?_
                        obtain ⟨k216, hk216, hf⟩ := jn1_e hf
                        have Jk216 : ∀ (x215 : Int32) (H : Heap) (locs : List Loc) (ls : Array Slot), ZX D cA A B x0 ad S207 H → va_S (AB A B) s.heap H locs → lv_has ls 15 [(0, .ref x0), (6, .ref (ad 6)), (7, .int z15), (8, .int z17), (9, .int z19), (10, .int z21), (11, .int z23), (12, .int x27), (13, .int x176)] → k216 x215 = some (r, T') → W p l e (RM 8 (20 * 16) (200 * 16)) s m args below meth c H locs (20 * S207.2.2) (200 * S207.2.2) (MQ below (CtQ (AB A B) (some (.int r)) (ZX D cA A B x0 ad T')) args s (20 * 16) (200 * 16) (AB A B)) (F0 m 485 ls [.int x215, .int ((((1 : Int32) + ((4 : Int32) * z15)) + ((1024 : Int32) * z17)) + ((4096 : Int32) * z19)), .int (S207.2.1 6 j213), .ref (ad 1)]) := by
                          intro x215 H locs ls hX hS hl hf
                          rw [hk216] at hf
                          refine lv_iadd hx hb dL_views_485 ?_
                          refine lv_iload hx hb dL_views_486 (lv_at hl 6 rfl) ?_
                          refine lv_bipush (v := 15) hx hb dL_views_488 (by decide) ?_
                          refine lv_ishl hx hb dL_views_490 ?_
                          refine lv_iadd hx hb dL_views_491 ?_
                          refine lv_iload hx hb dL_views_492 (lv_at hl 5 rfl) ?_
                          refine lv_bipush (v := 18) hx hb dL_views_494 (by decide) ?_
                          refine lv_ishl hx hb dL_views_496 ?_
                          refine lv_iadd hx hb dL_views_497 ?_
                          refine lv_iload hx hb dL_views_498 (lv_at hl 7 rfl) ?_
                          refine lv_bipush (v := 21) hx hb dL_views_500 (by decide) ?_
                          refine lv_ishl hx hb dL_views_502 ?_
                          refine lv_iadd hx hb dL_views_503 ?_
                          obtain ⟨h218, j217, ej217, hf⟩ := rd_e hf
                          refine tasv hx hb hAB hKX.1 hX hS (by decide) h218 ej217 dL_views_504 (fun H locs hX hS => ?_)
                          obtain ⟨S219, eS219, hf⟩ := lt_e hf
                          rw [← eS219] at hX ⊢
                          refine lv_aload hx hb dL_views_505 (lv_at hl 1 rfl) ?_
                          refine lv_iconst (v := 1) hx hb dL_views_507 (by decide) ?_
                          refine lv_dup2_11 hx hb dL_views_508 rfl rfl ?_
                          obtain ⟨h221, j220, ej220, hf⟩ := rd_e hf
                          refine tald hx hb hKX.1 hX (by decide) h221 ej220 dL_views_509 ?_
                          refine lv_iconst (v := 1) hx hb dL_views_510 (by decide) ?_
                          refine lv_iadd hx hb dL_views_511 ?_
                          obtain ⟨h223, j222, ej222, hf⟩ := rd_e hf
                          refine tasv hx hb hAB hKX.1 hX hS (by decide) h223 ej222 dL_views_512 (fun H locs hX hS => ?_)
                          obtain ⟨S224, eS224, hf⟩ := lt_e hf
                          rw [← eS224] at hX ⊢
                          refine lv_aload_n hx hb dL_views_513 rfl (lv_at hl 0 rfl) ?_
                          refine lv_iload hx hb dL_views_514 (lv_at hl 2 rfl) ?_
                          refine lv_iload hx hb dL_views_516 (lv_at hl 3 rfl) ?_
                          refine lv_iload hx hb dL_views_518 (lv_at hl 4 rfl) ?_
                          refine lv_iload hx hb dL_views_520 (lv_at hl 8 rfl) ?_
                          obtain ⟨h226, hf⟩ := gd_e hf
                          obtain ⟨z225, C227, hz225, hf⟩ := cb2_e hf
                          refine tW (As := [.ref x0, .int z15, .int z17, .int z19, .int x176]) (rest := []) hAB hC (v_select hfl hz225) qw_select a_670 ⟨Nat.le_of_ble_eq_true rfl, Nat.le_of_ble_eq_true rfl⟩ hX (fun q hq => hAs q (Nat.le_trans hS.1 hq)) hKX hTX hNX rfl hl.1 (Nat.le_of_ble_eq_true rfl) dL_views_522 ⟨Nat.mul_le_mul_left 20 h226, Nat.mul_le_mul_left 200 h226⟩ hS (fun _ z => z) (fun H locs hX hS => ?_)
                          obtain ⟨S228, eS228, hf⟩ := lt_e hf
                          rw [← eS228] at hX ⊢
                          refine lv_aload hx hb dL_views_525 (lv_at hl 1 rfl) ?_
                          refine lv_iconst (v := 1) hx hb dL_views_527 (by decide) ?_
                          obtain ⟨h230, j229, ej229, hf⟩ := rd_e hf
                          refine tald hx hb hKX.1 hX (by decide) h230 ej229 dL_views_528 ?_
                          refine lv_iconst (v := 1) hx hb dL_views_529 (by decide) ?_
                          refine lv_isub hx hb dL_views_530 ?_
                          refine lv_icmp_ne (tgt := 538) hx hb dL_views_531 (by decide) (fun c231 => ?_) (fun c231 => ?_)
                          · have hf := it_f c231 hf
                            refine lv_iconst (v := 0) hx hb dL_views_538 (by decide) ?_
                            obtain ⟨h232, hf⟩ := gd_e hf
                            cases hf
                            exact CtT_rz hx hb hr hlk nz0 hX hS (Nat.mul_le_mul_left 20 h232) (Nat.mul_le_mul_left 200 h232) dL_views_539
                          · have hf := it_t c231 hf
                            refine lv_iconst (v := 1) hx hb dL_views_534 (by decide) ?_
                            refine lv_goto (tgt := 539) hx hb dL_views_535 (by decide) ?_
                            obtain ⟨h233, hf⟩ := gd_e hf
                            cases hf
                            exact CtT_rz hx hb hr hlk nz1 hX hS (Nat.mul_le_mul_left 20 h233) (Nat.mul_le_mul_left 200 h233) dL_views_539
                        refine lv_if_eq (tgt := 484) hx hb dL_views_475 (by decide) (fun c234 => ?_) (fun c234 => ?_)
                        · have hf := it_t c234 hf
                          refine lv_iconst (v := 0) hx hb dL_views_484 (by decide) ?_
                          exact Jk216 _ _ _ _ hX hS (lv_sub hl [1, 3, 4, 5, 6, 7, 8, 9, 0] rfl) hf
                        · have hf := it_f c234 hf
                          refine lv_sipush (v := 16384) hx hb dL_views_478 (by decide) ?_
                          refine lv_goto (tgt := 485) hx hb dL_views_481 (by decide) ?_
                          exact Jk216 _ _ _ _ hX hS (lv_sub hl [1, 3, 4, 5, 6, 7, 8, 9, 0] rfl) hf
                      · have hf := it_t c212 hf
                        refine lv_aload_n hx hb dL_views_423 rfl (lv_at hl 1 rfl) ?_
                        refine lv_iload hx hb dL_views_424 (lv_at hl 4 rfl) ?_
                        refine lv_iload hx hb dL_views_426 (lv_at hl 5 rfl) ?_
                        refine lv_iload hx hb dL_views_428 (lv_at hl 6 rfl) ?_
                        refine lv_iload hx hb dL_views_430 (lv_at hl 0 rfl) ?_
                        obtain ⟨h236, hf⟩ := gd_e hf
                        obtain ⟨z235, C237, hz235, hf⟩ := cb2_e hf
                        refine tW (As := [.ref x0, .int z15, .int z17, .int z19, .int x176]) (rest := []) hAB hC (v_select hfl hz235) qw_select a_670 ⟨Nat.le_of_ble_eq_true rfl, Nat.le_of_ble_eq_true rfl⟩ hX (fun q hq => hAs q (Nat.le_trans hS.1 hq)) hKX hTX hNX rfl hl.1 (Nat.le_of_ble_eq_true rfl) dL_views_432 ⟨Nat.mul_le_mul_left 20 h236, Nat.mul_le_mul_left 200 h236⟩ hS (fun _ z => z) (fun H locs hX hS => ?_)
                        obtain ⟨S238, eS238, hf⟩ := lt_e hf
                        rw [← eS238] at hX ⊢
                        refine lv_sipush (v := (-7300)) hx hb dL_views_435 (by decide) ?_
                        refine lv_icmp_ne (tgt := 445) hx hb dL_views_438 (by decide) (fun c239 => ?_) (fun c239 => ?_)
                        · have hf := it_f c239 hf
                          refine lv_iconst (v := 0) hx hb dL_views_445 (by decide) ?_
                          obtain ⟨h240, hf⟩ := gd_e hf
                          cases hf
                          exact CtT_rz hx hb hr hlk nz0 hX hS (Nat.mul_le_mul_left 20 h240) (Nat.mul_le_mul_left 200 h240) dL_views_446
                        · have hf := it_t c239 hf
                          refine lv_iconst (v := 1) hx hb dL_views_441 (by decide) ?_
                          refine lv_goto (tgt := 446) hx hb dL_views_442 (by decide) ?_
                          obtain ⟨h241, hf⟩ := gd_e hf
                          cases hf
                          exact CtT_rz hx hb hr hlk nz1 hX hS (Nat.mul_le_mul_left 20 h241) (Nat.mul_le_mul_left 200 h241) dL_views_446
                    · have hf := it_t c209 hf
                      refine lv_aload_n hx hb dL_views_390 rfl (lv_at hl 1 rfl) ?_
                      refine lv_iload hx hb dL_views_391 (lv_at hl 4 rfl) ?_
                      refine lv_iload hx hb dL_views_393 (lv_at hl 5 rfl) ?_
                      refine lv_iload hx hb dL_views_395 (lv_at hl 6 rfl) ?_
                      refine lv_iload hx hb dL_views_397 (lv_at hl 0 rfl) ?_
                      obtain ⟨h243, hf⟩ := gd_e hf
                      obtain ⟨z242, C244, hz242, hf⟩ := cb2_e hf
                      refine tW (As := [.ref x0, .int z15, .int z17, .int z19, .int x176]) (rest := []) hAB hC (v_select hfl hz242) qw_select a_670 ⟨Nat.le_of_ble_eq_true rfl, Nat.le_of_ble_eq_true rfl⟩ hX (fun q hq => hAs q (Nat.le_trans hS.1 hq)) hKX hTX hNX rfl hl.1 (Nat.le_of_ble_eq_true rfl) dL_views_399 ⟨Nat.mul_le_mul_left 20 h243, Nat.mul_le_mul_left 200 h243⟩ hS (fun _ z => z) (fun H locs hX hS => ?_)
                      obtain ⟨S245, eS245, hf⟩ := lt_e hf
                      rw [← eS245] at hX ⊢
                      refine lv_sipush (v := (-7200)) hx hb dL_views_402 (by decide) ?_
                      refine lv_icmp_ne (tgt := 412) hx hb dL_views_405 (by decide) (fun c246 => ?_) (fun c246 => ?_)
                      · have hf := it_f c246 hf
                        refine lv_iconst (v := 0) hx hb dL_views_412 (by decide) ?_
                        obtain ⟨h247, hf⟩ := gd_e hf
                        cases hf
                        exact CtT_rz hx hb hr hlk nz0 hX hS (Nat.mul_le_mul_left 20 h247) (Nat.mul_le_mul_left 200 h247) dL_views_413
                      · have hf := it_t c246 hf
                        refine lv_iconst (v := 1) hx hb dL_views_408 (by decide) ?_
                        refine lv_goto (tgt := 413) hx hb dL_views_409 (by decide) ?_
                        obtain ⟨h248, hf⟩ := gd_e hf
                        cases hf
                        exact CtT_rz hx hb hr hlk nz1 hX hS (Nat.mul_le_mul_left 20 h248) (Nat.mul_le_mul_left 200 h248) dL_views_413
                  · have hf := it_f c208 hf
                    refine lv_iconst (v := 0) hx hb dL_views_378 (by decide) ?_
                    obtain ⟨h249, hf⟩ := gd_e hf
                    cases hf
                    exact CtT_rz hx hb hr hlk nz0 hX hS (Nat.mul_le_mul_left 20 h249) (Nat.mul_le_mul_left 200 h249) dL_views_379
        refine lv_icmp_le (tgt := 285) hx hb dL_views_278 (by decide) (fun c250 => ?_) (fun c250 => ?_)
        · have hf := it_t c250 hf
          refine lv_iconst (v := 0) hx hb dL_views_285 (by decide) ?_
          exact Jk177 _ _ _ _ hX hS (lv_sub hl [6, 11, 12, 5, 4, 3, 2, 1, 0] rfl) hf
        · have hf := it_f c250 hf
          refine lv_iconst (v := 1) hx hb dL_views_281 (by decide) ?_
          refine lv_goto (tgt := 286) hx hb dL_views_282 (by decide) ?_
          exact Jk177 _ _ _ _ hX hS (lv_sub hl [6, 11, 12, 5, 4, 3, 2, 1, 0] rfl) hf
    · have hf := it_t c12 hf
      refine lv_iload_n hx hb dL_views_60 rfl (lv_at hl 2 rfl) ?_
      refine lv_aload hx hb dL_views_61 (lv_at hl 6 rfl) ?_
      refine lv_iconst (v := 0) hx hb dL_views_63 (by decide) ?_
      obtain ⟨h252, j251, ej251, hf⟩ := rd_e hf
      refine tald hx hb hKX.1 hX (by decide) h252 ej251 dL_views_64 ?_
      refine lv_iconst (v := 1) hx hb dL_views_65 (by decide) ?_
      refine lv_iadd hx hb dL_views_66 ?_
      obtain ⟨h254, hf⟩ := gd_e hf
      obtain ⟨z253, hz253, hf⟩ := cb_e hf
      refine tSi (As := [.int x3, .int ((T.2.1 6 j251) + 1)]) (rest := []) hAB hC (c_l_low La_a hz253) q_l_low a_138 ⟨Nat.le_of_ble_eq_true rfl, Nat.le_of_ble_eq_true rfl⟩ hX hKX rfl hl.1 (Nat.le_of_ble_eq_true rfl) dL_views_67 ⟨Nat.mul_le_mul_left 20 h254, Nat.mul_le_mul_left 200 h254⟩ hS (fun _ z => z) (fun H locs hX hS => ?_)
      change ZX D cA A B x0 ad T H at hX
      change W p l e (RM 8 (20 * 16) (200 * 16)) s m args below meth c H locs (20 * T.2.2) (200 * T.2.2) (MQ below (CtQ (AB A B) (some (.int r)) (ZX D cA A B x0 ad T')) args s (20 * 16) (200 * 16) (AB A B)) (F0 m 70 ls [.int z253])
      refine lv_istore (lv' := [(7, .int z253), (0, .ref x0), (1, .int x2), (2, .int x3), (3, .int x4), (4, .ref (ad 0)), (5, .ref (ad 1)), (6, .ref (ad 6))]) hx hb dL_views_70 hl (by decide) rfl (fun ls hl => ?_)
      refine lv_iload hx hb dL_views_72 (lv_at hl 0 rfl) ?_
      refine lv_aload hx hb dL_views_74 (lv_at hl 7 rfl) ?_
      refine lv_iconst (v := 0) hx hb dL_views_76 (by decide) ?_
      obtain ⟨h256, j255, ej255, hf⟩ := rd_e hf
      refine tald hx hb hKX.1 hX (by decide) h256 ej255 dL_views_77 ?_
      refine lv_icmp_ne (tgt := 110) hx hb dL_views_78 (by decide) (fun c257 => ?_) (fun c257 => ?_)
      · have hf := it_f c257 hf
        refine lv_aload hx hb dL_views_110 (lv_at hl 7 rfl) ?_
        refine lv_iconst (v := 1) hx hb dL_views_112 (by decide) ?_
        obtain ⟨h259, j258, ej258, hf⟩ := rd_e hf
        refine tald hx hb hKX.1 hX (by decide) h259 ej258 dL_views_113 ?_
        refine lv_bipush (v := 10) hx hb dL_views_114 (by decide) ?_
        refine lv_icmp_ne (tgt := 137) hx hb dL_views_116 (by decide) (fun c260 => ?_) (fun c260 => ?_)
        · have hf := it_f c260 hf
          refine lv_aload hx hb dL_views_137 (lv_at hl 6 rfl) ?_
          refine lv_aload hx hb dL_views_139 (lv_at hl 7 rfl) ?_
          refine lv_iconst (v := 1) hx hb dL_views_141 (by decide) ?_
          obtain ⟨h262, j261, ej261, hf⟩ := rd_e hf
          refine tald hx hb hKX.1 hX (by decide) h262 ej261 dL_views_142 ?_
          refine lv_iconst (v := 4) hx hb dL_views_143 (by decide) ?_
          refine lv_iload hx hb dL_views_144 (lv_at hl 0 rfl) ?_
          refine lv_imul hx hb dL_views_146 ?_
          refine lv_aload hx hb dL_views_147 (lv_at hl 5 rfl) ?_
          refine lv_iload hx hb dL_views_149 (lv_at hl 0 rfl) ?_
          obtain ⟨h264, j263, ej263, hf⟩ := rd_e hf
          refine tald hx hb hKX.1 hX (by decide) h264 ej263 dL_views_151 ?_
          refine lv_bipush (v := 7) hx hb dL_views_152 (by decide) ?_
          refine lv_iand hx hb dL_views_154 ?_
          refine lv_bipush (v := 15) hx hb dL_views_155 (by decide) ?_
          refine lv_ishl hx hb dL_views_157 ?_
          refine lv_iadd hx hb dL_views_158 ?_
          refine lv_aload hx hb dL_views_159 (lv_at hl 5 rfl) ?_
          refine lv_iload hx hb dL_views_161 (lv_at hl 0 rfl) ?_
          obtain ⟨h266, j265, ej265, hf⟩ := rd_e hf
          refine tald hx hb hKX.1 hX (by decide) h266 ej265 dL_views_163 ?_
          refine lv_iconst (v := 3) hx hb dL_views_164 (by decide) ?_
          refine lv_ishr hx hb dL_views_165 ?_
          refine lv_bipush (v := 18) hx hb dL_views_166 (by decide) ?_
          refine lv_ishl hx hb dL_views_168 ?_
          refine lv_iadd hx hb dL_views_169 ?_
          refine lv_iconst (v := 1) hx hb dL_views_170 (by decide) ?_
          refine lv_bipush (v := 21) hx hb dL_views_171 (by decide) ?_
          refine lv_iload hx hb dL_views_173 (lv_at hl 0 rfl) ?_
          refine lv_iadd hx hb dL_views_175 ?_
          refine lv_ishl hx hb dL_views_176 ?_
          refine lv_iadd hx hb dL_views_177 ?_
          obtain ⟨h268, j267, ej267, hf⟩ := rd_e hf
          refine tasv hx hb hAB hKX.1 hX hS (by decide) h268 ej267 dL_views_178 (fun H locs hX hS => ?_)
          obtain ⟨S269, eS269, hf⟩ := lt_e hf
          rw [← eS269] at hX ⊢
          refine lv_aload hx hb dL_views_179 (lv_at hl 7 rfl) ?_
          refine lv_iconst (v := 1) hx hb dL_views_181 (by decide) ?_
          refine lv_dup2_11 hx hb dL_views_182 rfl rfl ?_
          obtain ⟨h271, j270, ej270, hf⟩ := rd_e hf
          refine tald hx hb hKX.1 hX (by decide) h271 ej270 dL_views_183 ?_
          refine lv_iconst (v := 1) hx hb dL_views_184 (by decide) ?_
          refine lv_iadd hx hb dL_views_185 ?_
          obtain ⟨h273, j272, ej272, hf⟩ := rd_e hf
          refine tasv hx hb hAB hKX.1 hX hS (by decide) h273 ej272 dL_views_186 (fun H locs hX hS => ?_)
          obtain ⟨S274, eS274, hf⟩ := lt_e hf
          rw [← eS274] at hX ⊢
          refine lv_aload_n hx hb dL_views_187 rfl (lv_at hl 1 rfl) ?_
          refine lv_iload hx hb dL_views_188 (lv_at hl 0 rfl) ?_
          obtain ⟨h276, hf⟩ := gd_e hf
          obtain ⟨z275, C277, hz275, hf⟩ := cb2_e hf
          refine tW (As := [.ref x0, .int z253]) (rest := []) hAB hC (v_of hfl hz275) qw_of a_862 ⟨Nat.le_of_ble_eq_true rfl, Nat.le_of_ble_eq_true rfl⟩ hX (fun q hq => hAs q (Nat.le_trans hS.1 hq)) hKX hTX hNX rfl hl.1 (Nat.le_of_ble_eq_true rfl) dL_views_190 ⟨Nat.mul_le_mul_left 20 h276, Nat.mul_le_mul_left 200 h276⟩ hS (fun _ z => z) (fun H locs hX hS => ?_)
          obtain ⟨S278, eS278, hf⟩ := lt_e hf
          rw [← eS278] at hX ⊢
          refine lv_aload hx hb dL_views_193 (lv_at hl 7 rfl) ?_
          refine lv_iconst (v := 1) hx hb dL_views_195 (by decide) ?_
          obtain ⟨h280, j279, ej279, hf⟩ := rd_e hf
          refine tald hx hb hKX.1 hX (by decide) h280 ej279 dL_views_196 ?_
          refine lv_iconst (v := 1) hx hb dL_views_197 (by decide) ?_
          refine lv_isub hx hb dL_views_198 ?_
          refine lv_icmp_ne (tgt := 206) hx hb dL_views_199 (by decide) (fun c281 => ?_) (fun c281 => ?_)
          · have hf := it_f c281 hf
            refine lv_iconst (v := 0) hx hb dL_views_206 (by decide) ?_
            obtain ⟨h282, hf⟩ := gd_e hf
            cases hf
            exact CtT_rz hx hb hr hlk nz0 hX hS (Nat.mul_le_mul_left 20 h282) (Nat.mul_le_mul_left 200 h282) dL_views_207
          · have hf := it_t c281 hf
            refine lv_iconst (v := 1) hx hb dL_views_202 (by decide) ?_
            refine lv_goto (tgt := 207) hx hb dL_views_203 (by decide) ?_
            obtain ⟨h283, hf⟩ := gd_e hf
            cases hf
            exact CtT_rz hx hb hr hlk nz1 hX hS (Nat.mul_le_mul_left 20 h283) (Nat.mul_le_mul_left 200 h283) dL_views_207
        · have hf := it_t c260 hf
          refine lv_aload_n hx hb dL_views_119 rfl (lv_at hl 1 rfl) ?_
          refine lv_iload hx hb dL_views_120 (lv_at hl 0 rfl) ?_
          obtain ⟨h285, hf⟩ := gd_e hf
          obtain ⟨z284, C286, hz284, hf⟩ := cb2_e hf
          refine tW (As := [.ref x0, .int z253]) (rest := []) hAB hC (v_of hfl hz284) qw_of a_862 ⟨Nat.le_of_ble_eq_true rfl, Nat.le_of_ble_eq_true rfl⟩ hX (fun q hq => hAs q (Nat.le_trans hS.1 hq)) hKX hTX hNX rfl hl.1 (Nat.le_of_ble_eq_true rfl) dL_views_122 ⟨Nat.mul_le_mul_left 20 h285, Nat.mul_le_mul_left 200 h285⟩ hS (fun _ z => z) (fun H locs hX hS => ?_)
          obtain ⟨S287, eS287, hf⟩ := lt_e hf
          rw [← eS287] at hX ⊢
          refine lv_sipush (v := (-7300)) hx hb dL_views_125 (by decide) ?_
          refine lv_icmp_ne (tgt := 135) hx hb dL_views_128 (by decide) (fun c288 => ?_) (fun c288 => ?_)
          · have hf := it_f c288 hf
            refine lv_iconst (v := 0) hx hb dL_views_135 (by decide) ?_
            obtain ⟨h289, hf⟩ := gd_e hf
            cases hf
            exact CtT_rz hx hb hr hlk nz0 hX hS (Nat.mul_le_mul_left 20 h289) (Nat.mul_le_mul_left 200 h289) dL_views_136
          · have hf := it_t c288 hf
            refine lv_iconst (v := 1) hx hb dL_views_131 (by decide) ?_
            refine lv_goto (tgt := 136) hx hb dL_views_132 (by decide) ?_
            obtain ⟨h290, hf⟩ := gd_e hf
            cases hf
            exact CtT_rz hx hb hr hlk nz1 hX hS (Nat.mul_le_mul_left 20 h290) (Nat.mul_le_mul_left 200 h290) dL_views_136
      · have hf := it_t c257 hf
        refine lv_aload_n hx hb dL_views_81 rfl (lv_at hl 1 rfl) ?_
        refine lv_iload hx hb dL_views_82 (lv_at hl 0 rfl) ?_
        obtain ⟨h292, hf⟩ := gd_e hf
        obtain ⟨z291, C293, hz291, hf⟩ := cb2_e hf
        refine tW (As := [.ref x0, .int z253]) (rest := []) hAB hC (v_of hfl hz291) qw_of a_862 ⟨Nat.le_of_ble_eq_true rfl, Nat.le_of_ble_eq_true rfl⟩ hX (fun q hq => hAs q (Nat.le_trans hS.1 hq)) hKX hTX hNX rfl hl.1 (Nat.le_of_ble_eq_true rfl) dL_views_84 ⟨Nat.mul_le_mul_left 20 h292, Nat.mul_le_mul_left 200 h292⟩ hS (fun _ z => z) (fun H locs hX hS => ?_)
        obtain ⟨S294, eS294, hf⟩ := lt_e hf
        rw [← eS294] at hX ⊢
        refine lv_sipush (v := (-7100)) hx hb dL_views_87 (by decide) ?_
        refine lv_icmp_ne (tgt := 108) hx hb dL_views_90 (by decide) (fun c295 => ?_) (fun c295 => ?_)
        · have hf := it_f c295 hf
          refine lv_iconst (v := 0) hx hb dL_views_108 (by decide) ?_
          obtain ⟨h296, hf⟩ := gd_e hf
          cases hf
          exact CtT_rz hx hb hr hlk nz0 hX hS (Nat.mul_le_mul_left 20 h296) (Nat.mul_le_mul_left 200 h296) dL_views_109
        · have hf := it_t c295 hf
          refine lv_aload_n hx hb dL_views_93 rfl (lv_at hl 1 rfl) ?_
          refine lv_iconst (v := (-1)) hx hb dL_views_94 (by decide) ?_
          obtain ⟨h298, hf⟩ := gd_e hf
          obtain ⟨z297, C299, hz297, hf⟩ := cb2_e hf
          refine tW (As := [.ref x0, .int (-1)]) (rest := []) hAB hC (v_of hfl hz297) qw_of a_862 ⟨Nat.le_of_ble_eq_true rfl, Nat.le_of_ble_eq_true rfl⟩ hX (fun q hq => hAs q (Nat.le_trans hS.1 hq)) hKX hTX hNX rfl hl.1 (Nat.le_of_ble_eq_true rfl) dL_views_95 ⟨Nat.mul_le_mul_left 20 h298, Nat.mul_le_mul_left 200 h298⟩ hS (fun _ z => z) (fun H locs hX hS => ?_)
          obtain ⟨S300, eS300, hf⟩ := lt_e hf
          rw [← eS300] at hX ⊢
          refine lv_sipush (v := (-7100)) hx hb dL_views_98 (by decide) ?_
          refine lv_icmp_ne (tgt := 108) hx hb dL_views_101 (by decide) (fun c301 => ?_) (fun c301 => ?_)
          · have hf := it_f c301 hf
            refine lv_iconst (v := 0) hx hb dL_views_108 (by decide) ?_
            obtain ⟨h302, hf⟩ := gd_e hf
            cases hf
            exact CtT_rz hx hb hr hlk nz0 hX hS (Nat.mul_le_mul_left 20 h302) (Nat.mul_le_mul_left 200 h302) dL_views_109
          · have hf := it_t c301 hf
            refine lv_iconst (v := 1) hx hb dL_views_104 (by decide) ?_
            refine lv_goto (tgt := 109) hx hb dL_views_105 (by decide) ?_
            obtain ⟨h303, hf⟩ := gd_e hf
            cases hf
            exact CtT_rz hx hb hr hlk nz1 hX hS (Nat.mul_le_mul_left 20 h303) (Nat.mul_le_mul_left 200 h303) dL_views_109
  refine lv_if_ne (tgt := 56) hx hb dL_views_4 (by decide) (fun c304 => ?_) (fun c304 => ?_)
  · have hf := it_f c304 hf
    exact Jk11 _ _ _ hX hS (lv_sub hl [0, 1, 2, 3, 4, 5, 6] rfl) hf
  · have hf := it_t c304 hf
    refine lv_iload_n hx hb dL_views_7 rfl (lv_at hl 1 rfl) ?_
    refine lv_if_le (tgt := 56) hx hb dL_views_8 (by decide) (fun c305 => ?_) (fun c305 => ?_)
    · have hf := it_t c305 hf
      exact Jk11 _ _ _ hX hS (lv_sub hl [0, 1, 2, 3, 4, 5, 6] rfl) hf
    · have hf := it_f c305 hf
      refine lv_aload_n hx hb dL_views_11 rfl (lv_at hl 0 rfl) ?_
      refine lv_iconst (v := 0) hx hb dL_views_12 (by decide) ?_
      refine lv_iconst (v := 0) hx hb dL_views_13 (by decide) ?_
      refine lv_iconst (v := 0) hx hb dL_views_14 (by decide) ?_
      refine lv_iconst (v := 1) hx hb dL_views_15 (by decide) ?_
      obtain ⟨h307, hf⟩ := gd_e hf
      obtain ⟨z306, C308, hz306, hf⟩ := cb2_e hf
      refine tW (As := [.ref x0, .int 0, .int 0, .int 0, .int 1]) (rest := []) hAB hC (v_select hfl hz306) qw_select a_670 ⟨Nat.le_of_ble_eq_true rfl, Nat.le_of_ble_eq_true rfl⟩ hX (fun q hq => hAs q (Nat.le_trans hS.1 hq)) hKX hTX hNX rfl hl.1 (Nat.le_of_ble_eq_true rfl) dL_views_16 ⟨Nat.mul_le_mul_left 20 h307, Nat.mul_le_mul_left 200 h307⟩ hS (fun _ z => z) (fun H locs hX hS => ?_)
      obtain ⟨S309, eS309, hf⟩ := lt_e hf
      rw [← eS309] at hX ⊢
      refine lv_sipush (v := (-7100)) hx hb dL_views_19 (by decide) ?_
      refine lv_icmp_ne (tgt := 54) hx hb dL_views_22 (by decide) (fun c310 => ?_) (fun c310 => ?_)
      · have hf := it_f c310 hf
        refine lv_iconst (v := 0) hx hb dL_views_54 (by decide) ?_
        obtain ⟨h311, hf⟩ := gd_e hf
        cases hf
        exact CtT_rz hx hb hr hlk nz0 hX hS (Nat.mul_le_mul_left 20 h311) (Nat.mul_le_mul_left 200 h311) dL_views_55
      · have hf := it_t c310 hf
        refine lv_aload_n hx hb dL_views_25 rfl (lv_at hl 0 rfl) ?_
        refine lv_iconst (v := 0) hx hb dL_views_26 (by decide) ?_
        refine lv_iconst (v := 0) hx hb dL_views_27 (by decide) ?_
        refine lv_iconst (v := 0) hx hb dL_views_28 (by decide) ?_
        obtain ⟨h313, hf⟩ := gd_e hf
        obtain ⟨z312, C314, hz312, hf⟩ := cb2_e hf
        refine tW (As := [.ref x0, .int 0, .int 0, .int 0]) (rest := []) hAB hC (v_drop hfl hz312) qw_drop a_800 ⟨Nat.le_of_ble_eq_true rfl, Nat.le_of_ble_eq_true rfl⟩ hX (fun q hq => hAs q (Nat.le_trans hS.1 hq)) hKX hTX hNX rfl hl.1 (Nat.le_of_ble_eq_true rfl) dL_views_29 ⟨Nat.mul_le_mul_left 20 h313, Nat.mul_le_mul_left 200 h313⟩ hS (fun _ z => z) (fun H locs hX hS => ?_)
        obtain ⟨S315, eS315, hf⟩ := lt_e hf
        rw [← eS315] at hX ⊢
        refine lv_sipush (v := (-7100)) hx hb dL_views_32 (by decide) ?_
        refine lv_icmp_ne (tgt := 54) hx hb dL_views_35 (by decide) (fun c316 => ?_) (fun c316 => ?_)
        · have hf := it_f c316 hf
          refine lv_iconst (v := 0) hx hb dL_views_54 (by decide) ?_
          obtain ⟨h317, hf⟩ := gd_e hf
          cases hf
          exact CtT_rz hx hb hr hlk nz0 hX hS (Nat.mul_le_mul_left 20 h317) (Nat.mul_le_mul_left 200 h317) dL_views_55
        · have hf := it_t c316 hf
          refine lv_aload_n hx hb dL_views_38 rfl (lv_at hl 0 rfl) ?_
          refine lv_iconst (v := 0) hx hb dL_views_39 (by decide) ?_
          refine lv_iconst (v := 0) hx hb dL_views_40 (by decide) ?_
          obtain ⟨h319, hf⟩ := gd_e hf
          obtain ⟨z318, C320, hz318, hf⟩ := cb2_e hf
          refine tW (As := [.ref x0, .int 0, .int 0]) (rest := []) hAB hC (v_join hfl hz318) qw_join a_830 ⟨Nat.le_of_ble_eq_true rfl, Nat.le_of_ble_eq_true rfl⟩ hX (fun q hq => hAs q (Nat.le_trans hS.1 hq)) hKX hTX hNX rfl hl.1 (Nat.le_of_ble_eq_true rfl) dL_views_41 ⟨Nat.mul_le_mul_left 20 h319, Nat.mul_le_mul_left 200 h319⟩ hS (fun _ z => z) (fun H locs hX hS => ?_)
          obtain ⟨S321, eS321, hf⟩ := lt_e hf
          rw [← eS321] at hX ⊢
          refine lv_sipush (v := (-7100)) hx hb dL_views_44 (by decide) ?_
          refine lv_icmp_ne (tgt := 54) hx hb dL_views_47 (by decide) (fun c322 => ?_) (fun c322 => ?_)
          · have hf := it_f c322 hf
            refine lv_iconst (v := 0) hx hb dL_views_54 (by decide) ?_
            obtain ⟨h323, hf⟩ := gd_e hf
            cases hf
            exact CtT_rz hx hb hr hlk nz0 hX hS (Nat.mul_le_mul_left 20 h323) (Nat.mul_le_mul_left 200 h323) dL_views_55
          · have hf := it_t c322 hf
            refine lv_iconst (v := 1) hx hb dL_views_50 (by decide) ?_
            refine lv_goto (tgt := 55) hx hb dL_views_51 (by decide) ?_
            obtain ⟨h324, hf⟩ := gd_e hf
            cases hf
            exact CtT_rz hx hb hr hlk nz1 hX hS (Nat.mul_le_mul_left 20 h324) (Nat.mul_le_mul_left 200 h324) dL_views_55
