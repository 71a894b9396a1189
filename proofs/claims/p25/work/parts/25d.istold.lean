theorem q_p_isTold : VWs yL_isTold cL_isTold 8 (some .boolean) 5 := ⟨a_625, a_15, a_624, by decide +kernel⟩
set_option maxRecDepth 100000 in
set_option maxHeartbeats 8000000 in
theorem c_p_isTold {l : Launch} {D : va_G} {cA : Nat → ClassId} {A B : Nat → Prop} {x0 : Nat} {ad : Nat → Nat} (hAB : ∀ q, A q → ¬ B q) (hfl : l.stackTraces = false)  {T T' : Tt} {r : Int32} (hf : p_isTold T = some (r, T')) (h0 : T.2.2 = 0 := by rfl) : CtT l D cA A B yL_isTold cL_isTold 8 (some .boolean) 8 340 [.ref x0, .ref (ad 0), .ref (ad 1), .ref (ad 2), .ref (ad 6)] x0 ad T r T' := by
  refine CtT_of (by decide +kernel) (Nat.le_of_ble_eq_true rfl) ?_
  intro p e s m args below meth c ls hC hr hlk hX hAs hKX hTX hNX hl
  have hx := hC.1
  have hb := hC.2.1
  have hS : va_S (AB A B) s.heap s.heap [] := va_S.rf
  refine W.eqc (c2 := 20 * T.2.2) (s2 := 200 * T.2.2) (by omega) (by omega) ?_
  have hl : lv_has ls 8 [(0, .ref x0), (1, .ref (ad 0)), (2, .ref (ad 1)), (3, .ref (ad 2)), (4, .ref (ad 6))] := hl
  unfold p_isTold at hf
  refine lv_aload_n hx hb dL_isTold_0 rfl (lv_at hl 1 rfl) ?_
  refine lv_aload_n hx hb dL_isTold_1 rfl (lv_at hl 2 rfl) ?_
  refine lv_aload_n hx hb dL_isTold_2 rfl (lv_at hl 3 rfl) ?_
  refine lv_aload hx hb dL_isTold_3 (lv_at hl 4 rfl) ?_
  obtain ⟨h8, hf⟩ := gd_e hf
  obtain ⟨M9, hz7, hf⟩ := cb_e hf
  refine tSv (As := [.ref (ad 0), .ref (ad 1), .ref (ad 2), .ref (ad 6)]) (rest := []) hAB hC (c_l_lay La_a hz7) q_l_lay a_584 ⟨Nat.le_of_ble_eq_true rfl, Nat.le_of_ble_eq_true rfl⟩ hX hKX rfl hl.1 (Nat.le_of_ble_eq_true rfl) dL_isTold_5 ⟨Nat.mul_le_mul_left 20 h8, Nat.mul_le_mul_left 200 h8⟩ hS (fun _ z => z) (fun H locs hX hS => ?_)
  obtain ⟨S10, eS10, hf⟩ := lt_e hf
  rw [← eS10] at hX ⊢
  refine lv_iconst (v := 0) hx hb dL_isTold_8 (by decide) ?_
  refine lv_istore (lv' := [(5, .int 0), (0, .ref x0), (1, .ref (ad 0)), (2, .ref (ad 1)), (3, .ref (ad 2)), (4, .ref (ad 6))]) hx hb dL_isTold_9 hl (by decide) rfl (fun ls hl => ?_)
  obtain ⟨g13, g130, g13s, hf⟩ := lp2_e hf
  have Lg13 : ∀ (n : Nat) (x11 : Int32) (S12 : Tt) (H : Heap) (locs : List Loc) (ls : Array Slot), ZX D cA A B x0 ad S12 H → va_S (AB A B) s.heap H locs → lv_has ls 8 [(0, .ref x0), (2, .ref (ad 1)), (3, .ref (ad 2)), (4, .ref (ad 6)), (5, .int x11)] → g13 n x11 S12 = some (r, T') → W p l e (RM 8 (20 * 340) (200 * 340)) s m args below meth c H locs (20 * S12.2.2) (200 * S12.2.2) (MQ below (CtQ (AB A B) (some (.int r)) (ZX D cA A B x0 ad T')) args s (20 * 340) (200 * 340) (AB A B)) (F0 m 11 ls []) := by
    intro n
    induction n with
    | zero => intro x11 S12 H locs ls hX hS hl hf; rw [g130] at hf; cases hf
    | succ n ihg13 =>
      intro x11 S12 H locs ls hX hS hl hf
      rw [g13s] at hf
      refine lv_iload hx hb dL_isTold_11 (lv_at hl 4 rfl) ?_
      refine lv_aload hx hb dL_isTold_13 (lv_at hl 3 rfl) ?_
      refine lv_iconst (v := 1) hx hb dL_isTold_15 (by decide) ?_
      obtain ⟨h15, j14, ej14, hf⟩ := rd_e hf
      refine tald hx hb hKX.1 hX (by decide) h15 ej14 dL_isTold_16 ?_
      refine lv_icmp_ge (tgt := 151) hx hb dL_isTold_17 (by decide) (fun c16 => ?_) (fun c16 => ?_)
      · have hf := it_t c16 hf
        refine lv_aload_n hx hb dL_isTold_151 rfl (lv_at hl 0 rfl) ?_
        refine lv_aload hx hb dL_isTold_152 (lv_at hl 3 rfl) ?_
        refine lv_iconst (v := 1) hx hb dL_isTold_154 (by decide) ?_
        obtain ⟨h18, j17, ej17, hf⟩ := rd_e hf
        refine tald hx hb hKX.1 hX (by decide) h18 ej17 dL_isTold_155 ?_
        obtain ⟨h20, hf⟩ := gd_e hf
        obtain ⟨z19, C21, hz19, hf⟩ := cb2_e hf
        refine tW (As := [.ref x0, .int (S12.2.1 6 j17)]) (rest := []) hAB hC (v_rows hfl hz19) qw_rows a_638 ⟨Nat.le_of_ble_eq_true rfl, Nat.le_of_ble_eq_true rfl⟩ hX (fun q hq => hAs q (Nat.le_trans hS.1 hq)) hKX hTX hNX rfl hl.1 (Nat.le_of_ble_eq_true rfl) dL_isTold_156 ⟨Nat.mul_le_mul_left 20 h20, Nat.mul_le_mul_left 200 h20⟩ hS (fun _ z => z) (fun H locs hX hS => ?_)
        obtain ⟨S22, eS22, hf⟩ := lt_e hf
        rw [← eS22] at hX ⊢
        refine lv_sipush (v := (-7100)) hx hb dL_isTold_159 (by decide) ?_
        refine lv_icmp_ne (tgt := 208) hx hb dL_isTold_162 (by decide) (fun c23 => ?_) (fun c23 => ?_)
        · have hf := it_f c23 hf
          refine lv_iconst (v := 0) hx hb dL_isTold_208 (by decide) ?_
          obtain ⟨h24, hf⟩ := gd_e hf
          cases hf
          exact CtT_rz hx hb hr hlk nz0 hX hS (Nat.mul_le_mul_left 20 h24) (Nat.mul_le_mul_left 200 h24) dL_isTold_209
        · have hf := it_t c23 hf
          refine lv_aload_n hx hb dL_isTold_165 rfl (lv_at hl 0 rfl) ?_
          refine lv_iconst (v := (-1)) hx hb dL_isTold_166 (by decide) ?_
          obtain ⟨h26, hf⟩ := gd_e hf
          obtain ⟨z25, C27, hz25, hf⟩ := cb2_e hf
          refine tW (As := [.ref x0, .int (-1)]) (rest := []) hAB hC (v_columns hfl hz25) qw_columns a_646 ⟨Nat.le_of_ble_eq_true rfl, Nat.le_of_ble_eq_true rfl⟩ hX (fun q hq => hAs q (Nat.le_trans hS.1 hq)) hKX hTX hNX rfl hl.1 (Nat.le_of_ble_eq_true rfl) dL_isTold_167 ⟨Nat.mul_le_mul_left 20 h26, Nat.mul_le_mul_left 200 h26⟩ hS (fun _ z => z) (fun H locs hX hS => ?_)
          obtain ⟨S28, eS28, hf⟩ := lt_e hf
          rw [← eS28] at hX ⊢
          refine lv_sipush (v := (-7100)) hx hb dL_isTold_170 (by decide) ?_
          refine lv_icmp_ne (tgt := 208) hx hb dL_isTold_173 (by decide) (fun c29 => ?_) (fun c29 => ?_)
          · have hf := it_f c29 hf
            refine lv_iconst (v := 0) hx hb dL_isTold_208 (by decide) ?_
            obtain ⟨h30, hf⟩ := gd_e hf
            cases hf
            exact CtT_rz hx hb hr hlk nz0 hX hS (Nat.mul_le_mul_left 20 h30) (Nat.mul_le_mul_left 200 h30) dL_isTold_209
          · have hf := it_t c29 hf
            refine lv_aload_n hx hb dL_isTold_176 rfl (lv_at hl 0 rfl) ?_
            refine lv_aload hx hb dL_isTold_177 (lv_at hl 3 rfl) ?_
            refine lv_iconst (v := 1) hx hb dL_isTold_179 (by decide) ?_
            obtain ⟨h32, j31, ej31, hf⟩ := rd_e hf
            refine tald hx hb hKX.1 hX (by decide) h32 ej31 dL_isTold_180 ?_
            obtain ⟨h34, hf⟩ := gd_e hf
            obtain ⟨z33, C35, hz33, hf⟩ := cb2_e hf
            refine tW (As := [.ref x0, .int (S28.2.1 6 j31)]) (rest := []) hAB hC (v_key hfl hz33) qw_key a_653 ⟨Nat.le_of_ble_eq_true rfl, Nat.le_of_ble_eq_true rfl⟩ hX (fun q hq => hAs q (Nat.le_trans hS.1 hq)) hKX hTX hNX rfl hl.1 (Nat.le_of_ble_eq_true rfl) dL_isTold_181 ⟨Nat.mul_le_mul_left 20 h34, Nat.mul_le_mul_left 200 h34⟩ hS (fun _ z => z) (fun H locs hX hS => ?_)
            obtain ⟨S36, eS36, hf⟩ := lt_e hf
            rw [← eS36] at hX ⊢
            refine lv_sipush (v := (-7100)) hx hb dL_isTold_184 (by decide) ?_
            refine lv_icmp_ne (tgt := 208) hx hb dL_isTold_187 (by decide) (fun c37 => ?_) (fun c37 => ?_)
            · have hf := it_f c37 hf
              refine lv_iconst (v := 0) hx hb dL_isTold_208 (by decide) ?_
              obtain ⟨h38, hf⟩ := gd_e hf
              cases hf
              exact CtT_rz hx hb hr hlk nz0 hX hS (Nat.mul_le_mul_left 20 h38) (Nat.mul_le_mul_left 200 h38) dL_isTold_209
            · have hf := it_t c37 hf
              refine lv_aload_n hx hb dL_isTold_190 rfl (lv_at hl 0 rfl) ?_
              refine lv_aload hx hb dL_isTold_191 (lv_at hl 3 rfl) ?_
              refine lv_iconst (v := 1) hx hb dL_isTold_193 (by decide) ?_
              obtain ⟨h40, j39, ej39, hf⟩ := rd_e hf
              refine tald hx hb hKX.1 hX (by decide) h40 ej39 dL_isTold_194 ?_
              obtain ⟨h42, hf⟩ := gd_e hf
              obtain ⟨z41, C43, hz41, hf⟩ := cb2_e hf
              refine tW (As := [.ref x0, .int (S36.2.1 6 j39)]) (rest := []) hAB hC (v_open hfl hz41) qw_open a_660 ⟨Nat.le_of_ble_eq_true rfl, Nat.le_of_ble_eq_true rfl⟩ hX (fun q hq => hAs q (Nat.le_trans hS.1 hq)) hKX hTX hNX rfl hl.1 (Nat.le_of_ble_eq_true rfl) dL_isTold_195 ⟨Nat.mul_le_mul_left 20 h42, Nat.mul_le_mul_left 200 h42⟩ hS (fun _ z => z) (fun H locs hX hS => ?_)
              obtain ⟨S44, eS44, hf⟩ := lt_e hf
              rw [← eS44] at hX ⊢
              refine lv_sipush (v := (-7100)) hx hb dL_isTold_198 (by decide) ?_
              refine lv_icmp_ne (tgt := 208) hx hb dL_isTold_201 (by decide) (fun c45 => ?_) (fun c45 => ?_)
              · have hf := it_f c45 hf
                refine lv_iconst (v := 0) hx hb dL_isTold_208 (by decide) ?_
                obtain ⟨h46, hf⟩ := gd_e hf
                cases hf
                exact CtT_rz hx hb hr hlk nz0 hX hS (Nat.mul_le_mul_left 20 h46) (Nat.mul_le_mul_left 200 h46) dL_isTold_209
              · have hf := it_t c45 hf
                refine lv_iconst (v := 1) hx hb dL_isTold_204 (by decide) ?_
                refine lv_goto (tgt := 209) hx hb dL_isTold_205 (by decide) ?_
                obtain ⟨h47, hf⟩ := gd_e hf
                cases hf
                exact CtT_rz hx hb hr hlk nz1 hX hS (Nat.mul_le_mul_left 20 h47) (Nat.mul_le_mul_left 200 h47) dL_isTold_209
      · have hf := it_f c16 hf
        refine lv_iconst (v := 0) hx hb dL_isTold_20 (by decide) ?_
        refine lv_istore (lv' := [(6, .int 0), (0, .ref x0), (2, .ref (ad 1)), (3, .ref (ad 2)), (4, .ref (ad 6)), (5, .int x11)]) hx hb dL_isTold_21 hl (by decide) rfl (fun ls hl => ?_)
        refine lv_iconst (v := 0) hx hb dL_isTold_23 (by decide) ?_
        refine lv_istore (lv' := [(7, .int 0), (6, .int 0), (0, .ref x0), (2, .ref (ad 1)), (3, .ref (ad 2)), (4, .ref (ad 6)), (5, .int x11)]) hx hb dL_isTold_24 hl (by decide) rfl (fun ls hl => ?_)
        obtain ⟨g51, g510, g51s, hf⟩ := lp3_e hf
        have Lg51 : ∀ (n : Nat) (x48 : Int32) (x49 : Int32) (S50 : Tt) (H : Heap) (locs : List Loc) (ls : Array Slot), ZX D cA A B x0 ad S50 H → va_S (AB A B) s.heap H locs → lv_has ls 8 [(0, .ref x0), (2, .ref (ad 1)), (3, .ref (ad 2)), (4, .ref (ad 6)), (5, .int x11), (6, .int x48), (7, .int x49)] → g51 n x48 x49 S50 = some (r, T') → W p l e (RM 8 (20 * 340) (200 * 340)) s m args below meth c H locs (20 * S50.2.2) (200 * S50.2.2) (MQ below (CtQ (AB A B) (some (.int r)) (ZX D cA A B x0 ad T')) args s (20 * 340) (200 * 340) (AB A B)) (F0 m 26 ls []) := by
          intro n
          induction n with
          | zero => intro x48 x49 S50 H locs ls hX hS hl hf; rw [g510] at hf; cases hf
          | succ n ihg51 =>
            intro x48 x49 S50 H locs ls hX hS hl hf
            rw [g51s] at hf
            refine lv_iload hx hb dL_isTold_26 (lv_at hl 6 rfl) ?_
            refine lv_bipush (v := 27) hx hb dL_isTold_28 (by decide) ?_
            refine lv_icmp_ge (tgt := 75) hx hb dL_isTold_30 (by decide) (fun c52 => ?_) (fun c52 => ?_)
            · have hf := it_t c52 hf
              refine lv_aload_n hx hb dL_isTold_75 rfl (lv_at hl 0 rfl) ?_
              refine lv_iload hx hb dL_isTold_76 (lv_at hl 4 rfl) ?_
              obtain ⟨h54, hf⟩ := gd_e hf
              obtain ⟨z53, C55, hz53, hf⟩ := cb2_e hf
              refine tW (As := [.ref x0, .int x11]) (rest := []) hAB hC (v_rows hfl hz53) qw_rows a_638 ⟨Nat.le_of_ble_eq_true rfl, Nat.le_of_ble_eq_true rfl⟩ hX (fun q hq => hAs q (Nat.le_trans hS.1 hq)) hKX hTX hNX rfl hl.1 (Nat.le_of_ble_eq_true rfl) dL_isTold_78 ⟨Nat.mul_le_mul_left 20 h54, Nat.mul_le_mul_left 200 h54⟩ hS (fun _ z => z) (fun H locs hX hS => ?_)
              obtain ⟨S56, eS56, hf⟩ := lt_e hf
              rw [← eS56] at hX ⊢
              refine lv_iload hx hb dL_isTold_81 (lv_at hl 5 rfl) ?_
              refine lv_icmp_ne (tgt := 143) hx hb dL_isTold_83 (by decide) (fun c57 => ?_) (fun c57 => ?_)
              · have hf := it_f c57 hf
                refine lv_iconst (v := 0) hx hb dL_isTold_143 (by decide) ?_
                obtain ⟨h58, hf⟩ := gd_e hf
                cases hf
                exact CtT_rz hx hb hr hlk nz0 hX hS (Nat.mul_le_mul_left 20 h58) (Nat.mul_le_mul_left 200 h58) dL_isTold_144
              · have hf := it_t c57 hf
                refine lv_aload_n hx hb dL_isTold_86 rfl (lv_at hl 0 rfl) ?_
                refine lv_iload hx hb dL_isTold_87 (lv_at hl 4 rfl) ?_
                refine lv_iload hx hb dL_isTold_89 (lv_at hl 5 rfl) ?_
                obtain ⟨h60, hf⟩ := gd_e hf
                obtain ⟨z59, C61, hz59, hf⟩ := cb2_e hf
                refine tW (As := [.ref x0, .int x11, .int x48]) (rest := []) hAB hC (v_row hfl hz59) qw_row a_626 ⟨Nat.le_of_ble_eq_true rfl, Nat.le_of_ble_eq_true rfl⟩ hX (fun q hq => hAs q (Nat.le_trans hS.1 hq)) hKX hTX hNX rfl hl.1 (Nat.le_of_ble_eq_true rfl) dL_isTold_91 ⟨Nat.mul_le_mul_left 20 h60, Nat.mul_le_mul_left 200 h60⟩ hS (fun _ z => z) (fun H locs hX hS => ?_)
                obtain ⟨S62, eS62, hf⟩ := lt_e hf
                rw [← eS62] at hX ⊢
                refine lv_sipush (v := (-7100)) hx hb dL_isTold_94 (by decide) ?_
                refine lv_icmp_ne (tgt := 143) hx hb dL_isTold_97 (by decide) (fun c63 => ?_) (fun c63 => ?_)
                · have hf := it_f c63 hf
                  refine lv_iconst (v := 0) hx hb dL_isTold_143 (by decide) ?_
                  obtain ⟨h64, hf⟩ := gd_e hf
                  cases hf
                  exact CtT_rz hx hb hr hlk nz0 hX hS (Nat.mul_le_mul_left 20 h64) (Nat.mul_le_mul_left 200 h64) dL_isTold_144
                · have hf := it_t c63 hf
                  refine lv_aload_n hx hb dL_isTold_100 rfl (lv_at hl 0 rfl) ?_
                  refine lv_iload hx hb dL_isTold_101 (lv_at hl 4 rfl) ?_
                  refine lv_iconst (v := (-1)) hx hb dL_isTold_103 (by decide) ?_
                  obtain ⟨h66, hf⟩ := gd_e hf
                  obtain ⟨z65, C67, hz65, hf⟩ := cb2_e hf
                  refine tW (As := [.ref x0, .int x11, .int (-1)]) (rest := []) hAB hC (v_row hfl hz65) qw_row a_626 ⟨Nat.le_of_ble_eq_true rfl, Nat.le_of_ble_eq_true rfl⟩ hX (fun q hq => hAs q (Nat.le_trans hS.1 hq)) hKX hTX hNX rfl hl.1 (Nat.le_of_ble_eq_true rfl) dL_isTold_104 ⟨Nat.mul_le_mul_left 20 h66, Nat.mul_le_mul_left 200 h66⟩ hS (fun _ z => z) (fun H locs hX hS => ?_)
                  obtain ⟨S68, eS68, hf⟩ := lt_e hf
                  rw [← eS68] at hX ⊢
                  refine lv_sipush (v := (-7100)) hx hb dL_isTold_107 (by decide) ?_
                  refine lv_icmp_ne (tgt := 143) hx hb dL_isTold_110 (by decide) (fun c69 => ?_) (fun c69 => ?_)
                  · have hf := it_f c69 hf
                    refine lv_iconst (v := 0) hx hb dL_isTold_143 (by decide) ?_
                    obtain ⟨h70, hf⟩ := gd_e hf
                    cases hf
                    exact CtT_rz hx hb hr hlk nz0 hX hS (Nat.mul_le_mul_left 20 h70) (Nat.mul_le_mul_left 200 h70) dL_isTold_144
                  · have hf := it_t c69 hf
                    refine lv_aload_n hx hb dL_isTold_113 rfl (lv_at hl 0 rfl) ?_
                    refine lv_iload hx hb dL_isTold_114 (lv_at hl 4 rfl) ?_
                    obtain ⟨h72, hf⟩ := gd_e hf
                    obtain ⟨z71, C73, hz71, hf⟩ := cb2_e hf
                    refine tW (As := [.ref x0, .int x11]) (rest := []) hAB hC (v_columns hfl hz71) qw_columns a_646 ⟨Nat.le_of_ble_eq_true rfl, Nat.le_of_ble_eq_true rfl⟩ hX (fun q hq => hAs q (Nat.le_trans hS.1 hq)) hKX hTX hNX rfl hl.1 (Nat.le_of_ble_eq_true rfl) dL_isTold_116 ⟨Nat.mul_le_mul_left 20 h72, Nat.mul_le_mul_left 200 h72⟩ hS (fun _ z => z) (fun H locs hX hS => ?_)
                    obtain ⟨S74, eS74, hf⟩ := lt_e hf
                    rw [← eS74] at hX ⊢
                    refine lv_aload_n hx hb dL_isTold_119 rfl (lv_at hl 1 rfl) ?_
                    refine lv_iload hx hb dL_isTold_120 (lv_at hl 4 rfl) ?_
                    obtain ⟨h76, hf⟩ := gd_e hf
                    obtain ⟨z75, hz75, hf⟩ := cb_e hf
                    refine tSi (As := [.ref (ad 1), .int x11]) (rest := [.int z71]) hAB hC (c_l_columnsOf La_a hz75) q_l_columnsOf a_593 ⟨Nat.le_of_ble_eq_true rfl, Nat.le_of_ble_eq_true rfl⟩ hX hKX rfl hl.1 (Nat.le_of_ble_eq_true rfl) dL_isTold_122 ⟨Nat.mul_le_mul_left 20 h76, Nat.mul_le_mul_left 200 h76⟩ hS (fun _ z => z) (fun H locs hX hS => ?_)
                    change ZX D cA A B x0 ad S74 H at hX
                    change W p l e (RM 8 (20 * 340) (200 * 340)) s m args below meth c H locs (20 * S74.2.2) (200 * S74.2.2) (MQ below (CtQ (AB A B) (some (.int r)) (ZX D cA A B x0 ad T')) args s (20 * 340) (200 * 340) (AB A B)) (F0 m 125 ls [.int z75, .int z71])
                    refine lv_icmp_ne (tgt := 143) hx hb dL_isTold_125 (by decide) (fun c77 => ?_) (fun c77 => ?_)
                    · have hf := it_f c77 hf
                      refine lv_iconst (v := 0) hx hb dL_isTold_143 (by decide) ?_
                      obtain ⟨h78, hf⟩ := gd_e hf
                      cases hf
                      exact CtT_rz hx hb hr hlk nz0 hX hS (Nat.mul_le_mul_left 20 h78) (Nat.mul_le_mul_left 200 h78) dL_isTold_144
                    · have hf := it_t c77 hf
                      refine lv_aload_n hx hb dL_isTold_128 rfl (lv_at hl 0 rfl) ?_
                      refine lv_iload hx hb dL_isTold_129 (lv_at hl 4 rfl) ?_
                      obtain ⟨h80, hf⟩ := gd_e hf
                      obtain ⟨z79, C81, hz79, hf⟩ := cb2_e hf
                      refine tW (As := [.ref x0, .int x11]) (rest := []) hAB hC (v_key hfl hz79) qw_key a_653 ⟨Nat.le_of_ble_eq_true rfl, Nat.le_of_ble_eq_true rfl⟩ hX (fun q hq => hAs q (Nat.le_trans hS.1 hq)) hKX hTX hNX rfl hl.1 (Nat.le_of_ble_eq_true rfl) dL_isTold_131 ⟨Nat.mul_le_mul_left 20 h80, Nat.mul_le_mul_left 200 h80⟩ hS (fun _ z => z) (fun H locs hX hS => ?_)
                      obtain ⟨S82, eS82, hf⟩ := lt_e hf
                      rw [← eS82] at hX ⊢
                      refine lv_aload_n hx hb dL_isTold_134 rfl (lv_at hl 1 rfl) ?_
                      refine lv_iload hx hb dL_isTold_135 (lv_at hl 4 rfl) ?_
                      obtain ⟨h84, hf⟩ := gd_e hf
                      obtain ⟨z83, hz83, hf⟩ := cb_e hf
                      refine tSi (As := [.ref (ad 1), .int x11]) (rest := [.int z79]) hAB hC (c_l_keyOf La_a hz83) q_l_keyOf a_608 ⟨Nat.le_of_ble_eq_true rfl, Nat.le_of_ble_eq_true rfl⟩ hX hKX rfl hl.1 (Nat.le_of_ble_eq_true rfl) dL_isTold_137 ⟨Nat.mul_le_mul_left 20 h84, Nat.mul_le_mul_left 200 h84⟩ hS (fun _ z => z) (fun H locs hX hS => ?_)
                      change ZX D cA A B x0 ad S82 H at hX
                      change W p l e (RM 8 (20 * 340) (200 * 340)) s m args below meth c H locs (20 * S82.2.2) (200 * S82.2.2) (MQ below (CtQ (AB A B) (some (.int r)) (ZX D cA A B x0 ad T')) args s (20 * 340) (200 * 340) (AB A B)) (F0 m 140 ls [.int z83, .int z79])
                      refine lv_icmp_eq (tgt := 145) hx hb dL_isTold_140 (by decide) (fun c85 => ?_) (fun c85 => ?_)
                      · have hf := it_t c85 hf
                        refine lv_iinc (v := (x11 + 1)) (lv' := [(5, .int (x11 + 1)), (0, .ref x0), (2, .ref (ad 1)), (3, .ref (ad 2)), (4, .ref (ad 6)), (6, .int x48), (7, .int x49)]) hx hb dL_isTold_145 hl (k := 4) rfl rfl (by decide) rfl (fun ls hl => ?_)
                        refine lv_goto (tgt := 11) hx hb dL_isTold_148 (by decide) ?_
                        exact ihg13 _ _ _ _ _ hX hS (lv_sub hl [1, 2, 3, 4, 0] rfl) hf
                      · have hf := it_f c85 hf
                        refine lv_iconst (v := 0) hx hb dL_isTold_143 (by decide) ?_
                        obtain ⟨h86, hf⟩ := gd_e hf
                        cases hf
                        exact CtT_rz hx hb hr hlk nz0 hX hS (Nat.mul_le_mul_left 20 h86) (Nat.mul_le_mul_left 200 h86) dL_isTold_144
            · have hf := it_f c52 hf
              refine lv_aload_n hx hb dL_isTold_33 rfl (lv_at hl 2 rfl) ?_
              refine lv_iload hx hb dL_isTold_34 (lv_at hl 4 rfl) ?_
              obtain ⟨h88, j87, ej87, hf⟩ := rd_e hf
              refine tald hx hb hKX.1 hX (by decide) h88 ej87 dL_isTold_36 ?_
              refine lv_iload hx hb dL_isTold_37 (lv_at hl 6 rfl) ?_
              refine lv_ishr hx hb dL_isTold_39 ?_
              refine lv_iconst (v := 1) hx hb dL_isTold_40 (by decide) ?_
              refine lv_iand hx hb dL_isTold_41 ?_
              refine lv_if_ne (tgt := 48) hx hb dL_isTold_42 (by decide) (fun c89 => ?_) (fun c89 => ?_)
              · have hf := it_f c89 hf
                refine lv_aload_n hx hb dL_isTold_48 rfl (lv_at hl 0 rfl) ?_
                refine lv_iload hx hb dL_isTold_49 (lv_at hl 4 rfl) ?_
                refine lv_iload hx hb dL_isTold_51 (lv_at hl 5 rfl) ?_
                obtain ⟨h91, hf⟩ := gd_e hf
                obtain ⟨z90, C92, hz90, hf⟩ := cb2_e hf
                refine tW (As := [.ref x0, .int x11, .int x48]) (rest := []) hAB hC (v_row hfl hz90) qw_row a_626 ⟨Nat.le_of_ble_eq_true rfl, Nat.le_of_ble_eq_true rfl⟩ hX (fun q hq => hAs q (Nat.le_trans hS.1 hq)) hKX hTX hNX rfl hl.1 (Nat.le_of_ble_eq_true rfl) dL_isTold_53 ⟨Nat.mul_le_mul_left 20 h91, Nat.mul_le_mul_left 200 h91⟩ hS (fun _ z => z) (fun H locs hX hS => ?_)
                obtain ⟨S93, eS93, hf⟩ := lt_e hf
                rw [← eS93] at hX ⊢
                refine lv_iload hx hb dL_isTold_56 (lv_at hl 6 rfl) ?_
                obtain ⟨h95, hf⟩ := gd_e hf
                obtain ⟨z94, hz94, hf⟩ := cb_e hf
                refine tSi (As := [.int x49]) (rest := [.int z90]) hAB hC (c_l_number La_a hz94) q_l_number a_578 ⟨Nat.le_of_ble_eq_true rfl, Nat.le_of_ble_eq_true rfl⟩ hX hKX rfl hl.1 (Nat.le_of_ble_eq_true rfl) dL_isTold_58 ⟨Nat.mul_le_mul_left 20 h95, Nat.mul_le_mul_left 200 h95⟩ hS (fun _ z => z) (fun H locs hX hS => ?_)
                change ZX D cA A B x0 ad S93 H at hX
                change W p l e (RM 8 (20 * 340) (200 * 340)) s m args below meth c H locs (20 * S93.2.2) (200 * S93.2.2) (MQ below (CtQ (AB A B) (some (.int r)) (ZX D cA A B x0 ad T')) args s (20 * 340) (200 * 340) (AB A B)) (F0 m 61 ls [.int z94, .int z90])
                refine lv_icmp_eq (tgt := 66) hx hb dL_isTold_61 (by decide) (fun c96 => ?_) (fun c96 => ?_)
                · have hf := it_t c96 hf
                  refine lv_iinc (v := (x48 + 1)) (lv' := [(6, .int (x48 + 1)), (0, .ref x0), (2, .ref (ad 1)), (3, .ref (ad 2)), (4, .ref (ad 6)), (5, .int x11), (7, .int x49)]) hx hb dL_isTold_66 hl (k := 5) rfl rfl (by decide) rfl (fun ls hl => ?_)
                  refine lv_iinc (v := (x49 + 1)) (lv' := [(7, .int (x49 + 1)), (6, .int (x48 + 1)), (0, .ref x0), (2, .ref (ad 1)), (3, .ref (ad 2)), (4, .ref (ad 6)), (5, .int x11)]) hx hb dL_isTold_69 hl (k := 6) rfl rfl (by decide) rfl (fun ls hl => ?_)
                  refine lv_goto (tgt := 26) hx hb dL_isTold_72 (by decide) ?_
                  exact ihg51 _ _ _ _ _ _ hX hS (lv_sub hl [2, 3, 4, 5, 6, 1, 0] rfl) hf
                · have hf := it_f c96 hf
                  refine lv_iconst (v := 0) hx hb dL_isTold_64 (by decide) ?_
                  obtain ⟨h97, hf⟩ := gd_e hf
                  cases hf
                  exact CtT_rz hx hb hr hlk nz0 hX hS (Nat.mul_le_mul_left 20 h97) (Nat.mul_le_mul_left 200 h97) dL_isTold_65
              · have hf := it_t c89 hf
                refine lv_goto (tgt := 69) hx hb dL_isTold_45 (by decide) ?_
                refine lv_iinc (v := (x49 + 1)) (lv' := [(7, .int (x49 + 1)), (0, .ref x0), (2, .ref (ad 1)), (3, .ref (ad 2)), (4, .ref (ad 6)), (5, .int x11), (6, .int x48)]) hx hb dL_isTold_69 hl (k := 6) rfl rfl (by decide) rfl (fun ls hl => ?_)
                refine lv_goto (tgt := 26) hx hb dL_isTold_72 (by decide) ?_
                exact ihg51 _ _ _ _ _ _ hX hS (lv_sub hl [1, 2, 3, 4, 5, 6, 0] rfl) hf
        exact Lg51 FU _ _ _ _ _ _ hX hS (lv_sub hl [2, 3, 4, 5, 6, 1, 0] rfl) hf
  exact Lg13 FU _ _ _ _ _ hX hS (lv_sub hl [1, 3, 4, 5, 0] rfl) hf
