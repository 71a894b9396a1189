theorem q_p_draftTold : VWs yL_draftTold cL_draftTold 13 (some .boolean) 8 := ⟨a_143, a_15, a_142, by decide +kernel⟩
set_option maxRecDepth 100000 in
set_option maxHeartbeats 8000000 in
theorem c_p_draftTold {l : Launch} {D : va_G} {cA : Nat → ClassId} {A B : Nat → Prop} {x0 : Nat} {ad : Nat → Nat} (hAB : ∀ q, A q → ¬ B q) (hfl : l.stackTraces = false) {x8 : Int32} {T T' : Tt} {r : Int32} (hf : p_draftTold x8 T = some (r, T')) (h0 : T.2.2 = 0 := by rfl) : CtT l D cA A B yL_draftTold cL_draftTold 13 (some .boolean) 21 60 [.ref x0, .ref (ad 0), .ref (ad 1), .ref (ad 2), .ref (ad 3), .ref (ad 4), .ref (ad 6), .int x8] x0 ad T r T' := by
  refine CtT_of (by decide +kernel) (Nat.le_of_ble_eq_true rfl) ?_
  intro p e s m args below meth c ls hC hr hlk hX hAs hKX hTX hNX hl
  have hx := hC.1
  have hb := hC.2.1
  have hS : va_S (AB A B) s.heap s.heap [] := va_S.rf
  refine W.eqc (c2 := 20 * T.2.2) (s2 := 200 * T.2.2) (by omega) (by omega) ?_
  have hl : lv_has ls 13 [(0, .ref x0), (1, .ref (ad 0)), (2, .ref (ad 1)), (3, .ref (ad 2)), (4, .ref (ad 3)), (5, .ref (ad 4)), (6, .ref (ad 6)), (7, .int x8)] := hl
  unfold p_draftTold at hf
  refine lv_aload hx hb dL_draftTold_0 (lv_at hl 6 rfl) ?_
  refine lv_iconst (v := 2) hx hb dL_draftTold_2 (by decide) ?_
  obtain ⟨h11, j10, ej10, hf⟩ := rd_e hf
  refine tald hx hb hKX.1 hX (by decide) h11 ej10 dL_draftTold_3 ?_
  refine lv_if_ne (tgt := 102) hx hb dL_draftTold_4 (by decide) (fun c12 => ?_) (fun c12 => ?_)
  · have hf := it_f c12 hf
    refine lv_iconst (v := 0) hx hb dL_draftTold_102 (by decide) ?_
    refine lv_istore (lv' := [(8, .int 0), (0, .ref x0), (1, .ref (ad 0)), (2, .ref (ad 1)), (3, .ref (ad 2)), (4, .ref (ad 3)), (5, .ref (ad 4)), (6, .ref (ad 6)), (7, .int x8)]) hx hb dL_draftTold_103 hl (by decide) rfl (fun ls hl => ?_)
    refine lv_iconst (v := 0) hx hb dL_draftTold_105 (by decide) ?_
    refine lv_istore (lv' := [(9, .int 0), (8, .int 0), (0, .ref x0), (1, .ref (ad 0)), (2, .ref (ad 1)), (3, .ref (ad 2)), (4, .ref (ad 3)), (5, .ref (ad 4)), (6, .ref (ad 6)), (7, .int x8)]) hx hb dL_draftTold_106 hl (by decide) rfl (fun ls hl => ?_)
    obtain ⟨g16, g160, g16s, hf⟩ := lp3_e hf
    have Lg16 : ∀ (n : Nat) (x13 : Int32) (x14 : Int32) (S15 : Tt) (H : Heap) (locs : List Loc) (ls : Array Slot), ZX D cA A B x0 ad S15 H → va_S (AB A B) s.heap H locs → lv_has ls 13 [(0, .ref x0), (1, .ref (ad 0)), (2, .ref (ad 1)), (3, .ref (ad 2)), (4, .ref (ad 3)), (5, .ref (ad 4)), (6, .ref (ad 6)), (7, .int x8), (8, .int x13), (9, .int x14)] → g16 n x13 x14 S15 = some (r, T') → W p l e (RM 21 (20 * 60) (200 * 60)) s m args below meth c H locs (20 * S15.2.2) (200 * S15.2.2) (MQ below (CtQ (AB A B) (some (.int r)) (ZX D cA A B x0 ad T')) args s (20 * 60) (200 * 60) (AB A B)) (F0 m 108 ls []) := by
      intro n
      induction n with
      | zero => intro x13 x14 S15 H locs ls hX hS hl hf; rw [g160] at hf; cases hf
      | succ n ihg16 =>
        intro x13 x14 S15 H locs ls hX hS hl hf
        rw [g16s] at hf
        refine lv_iload hx hb dL_draftTold_108 (lv_at hl 9 rfl) ?_
        refine lv_bipush (v := 27) hx hb dL_draftTold_110 (by decide) ?_
        refine lv_icmp_ge (tgt := 155) hx hb dL_draftTold_112 (by decide) (fun c17 => ?_) (fun c17 => ?_)
        · have hf := it_t c17 hf
          refine lv_aload_n hx hb dL_draftTold_155 rfl (lv_at hl 1 rfl) ?_
          refine lv_aload_n hx hb dL_draftTold_156 rfl (lv_at hl 2 rfl) ?_
          refine lv_aload_n hx hb dL_draftTold_157 rfl (lv_at hl 3 rfl) ?_
          refine lv_aload hx hb dL_draftTold_158 (lv_at hl 4 rfl) ?_
          refine lv_aload hx hb dL_draftTold_160 (lv_at hl 5 rfl) ?_
          refine lv_aload hx hb dL_draftTold_162 (lv_at hl 6 rfl) ?_
          obtain ⟨h19, hf⟩ := gd_e hf
          obtain ⟨M20, hz18, hf⟩ := cb_e hf
          refine tPut (As := [.ref (ad 0), .ref (ad 1), .ref (ad 2), .ref (ad 3), .ref (ad 4), .ref (ad 6)]) (rest := []) hAB hC (fun B' => c_l_put La_a hz18) q_l_put a_581 ⟨Nat.le_of_ble_eq_true rfl, Nat.le_of_ble_eq_true rfl⟩ hX (fun q hq => hAs q (Nat.le_trans hS.1 hq)) hKX rfl hl.1 (Nat.le_of_ble_eq_true rfl) dL_draftTold_164 ⟨Nat.mul_le_mul_left 20 h19, Nat.mul_le_mul_left 200 h19⟩ hS (fun _ z => z) (fun H locs hX hS => ?_)
          obtain ⟨S21, eS21, hf⟩ := lt_e hf
          rw [← eS21] at hX ⊢
          refine lv_iconst (v := 0) hx hb dL_draftTold_167 (by decide) ?_
          refine lv_istore (lv' := [(9, .int 0), (0, .ref x0), (1, .ref (ad 0)), (2, .ref (ad 1)), (3, .ref (ad 2)), (4, .ref (ad 3)), (5, .ref (ad 4)), (6, .ref (ad 6)), (7, .int x8), (8, .int x13)]) hx hb dL_draftTold_168 hl (by decide) rfl (fun ls hl => ?_)
          refine lv_iconst (v := 0) hx hb dL_draftTold_170 (by decide) ?_
          refine lv_istore (lv' := [(10, .int 0), (9, .int 0), (0, .ref x0), (1, .ref (ad 0)), (2, .ref (ad 1)), (3, .ref (ad 2)), (4, .ref (ad 3)), (5, .ref (ad 4)), (6, .ref (ad 6)), (7, .int x8), (8, .int x13)]) hx hb dL_draftTold_171 hl (by decide) rfl (fun ls hl => ?_)
          obtain ⟨g24, g240, g24s, hf⟩ := lp2_e hf
          have Lg24 : ∀ (n : Nat) (x22 : Int32) (x23 : Int32) (H : Heap) (locs : List Loc) (ls : Array Slot), ZX D cA A B x0 ad S21 H → va_S (AB A B) s.heap H locs → lv_has ls 13 [(0, .ref x0), (1, .ref (ad 0)), (2, .ref (ad 1)), (3, .ref (ad 2)), (5, .ref (ad 4)), (6, .ref (ad 6)), (7, .int x8), (8, .int x13), (9, .int x22), (10, .int x23)] → g24 n x22 x23 = some (r, T') → W p l e (RM 21 (20 * 60) (200 * 60)) s m args below meth c H locs (20 * S21.2.2) (200 * S21.2.2) (MQ below (CtQ (AB A B) (some (.int r)) (ZX D cA A B x0 ad T')) args s (20 * 60) (200 * 60) (AB A B)) (F0 m 173 ls []) := by
            intro n
            induction n with
            | zero => intro x22 x23 H locs ls hX hS hl hf; rw [g240] at hf; cases hf
            | succ n ihg24 =>
              intro x22 x23 H locs ls hX hS hl hf
              rw [g24s] at hf
              refine lv_iload hx hb dL_draftTold_173 (lv_at hl 9 rfl) ?_
              refine lv_iconst (v := 3) hx hb dL_draftTold_175 (by decide) ?_
              refine lv_icmp_ge (tgt := 205) hx hb dL_draftTold_176 (by decide) (fun c25 => ?_) (fun c25 => ?_)
              · have hf := it_t c25 hf
                refine lv_aload_n hx hb dL_draftTold_205 rfl (lv_at hl 0 rfl) ?_
                refine lv_iload hx hb dL_draftTold_206 (lv_at hl 7 rfl) ?_
                obtain ⟨h27, hf⟩ := gd_e hf
                obtain ⟨z26, C28, hz26, hf⟩ := cb2_e hf
                refine tW (As := [.ref x0, .int x13]) (rest := []) hAB hC (v_draftRow hfl hz26) qw_draftRow a_492 ⟨Nat.le_of_ble_eq_true rfl, Nat.le_of_ble_eq_true rfl⟩ hX (fun q hq => hAs q (Nat.le_trans hS.1 hq)) hKX hTX hNX rfl hl.1 (Nat.le_of_ble_eq_true rfl) dL_draftTold_208 ⟨Nat.mul_le_mul_left 20 h27, Nat.mul_le_mul_left 200 h27⟩ hS (fun _ z => z) (fun H locs hX hS => ?_)
                obtain ⟨S29, eS29, hf⟩ := lt_e hf
                rw [← eS29] at hX ⊢
                refine lv_iconst (v := (-1)) hx hb dL_draftTold_211 (by decide) ?_
                refine lv_icmp_ne (tgt := 304) hx hb dL_draftTold_212 (by decide) (fun c30 => ?_) (fun c30 => ?_)
                · have hf := it_f c30 hf
                  refine lv_iconst (v := 0) hx hb dL_draftTold_304 (by decide) ?_
                  obtain ⟨h31, hf⟩ := gd_e hf
                  cases hf
                  exact CtT_rz hx hb hr hlk nz0 hX hS (Nat.mul_le_mul_left 20 h31) (Nat.mul_le_mul_left 200 h31) dL_draftTold_305
                · have hf := it_t c30 hf
                  refine lv_aload_n hx hb dL_draftTold_215 rfl (lv_at hl 0 rfl) ?_
                  refine lv_iconst (v := (-1)) hx hb dL_draftTold_216 (by decide) ?_
                  obtain ⟨h33, hf⟩ := gd_e hf
                  obtain ⟨z32, C34, hz32, hf⟩ := cb2_e hf
                  refine tW (As := [.ref x0, .int (-1)]) (rest := []) hAB hC (v_draftRow hfl hz32) qw_draftRow a_492 ⟨Nat.le_of_ble_eq_true rfl, Nat.le_of_ble_eq_true rfl⟩ hX (fun q hq => hAs q (Nat.le_trans hS.1 hq)) hKX hTX hNX rfl hl.1 (Nat.le_of_ble_eq_true rfl) dL_draftTold_217 ⟨Nat.mul_le_mul_left 20 h33, Nat.mul_le_mul_left 200 h33⟩ hS (fun _ z => z) (fun H locs hX hS => ?_)
                  obtain ⟨S35, eS35, hf⟩ := lt_e hf
                  rw [← eS35] at hX ⊢
                  refine lv_sipush (v := (-7100)) hx hb dL_draftTold_220 (by decide) ?_
                  refine lv_icmp_ne (tgt := 304) hx hb dL_draftTold_223 (by decide) (fun c36 => ?_) (fun c36 => ?_)
                  · have hf := it_f c36 hf
                    refine lv_iconst (v := 0) hx hb dL_draftTold_304 (by decide) ?_
                    obtain ⟨h37, hf⟩ := gd_e hf
                    cases hf
                    exact CtT_rz hx hb hr hlk nz0 hX hS (Nat.mul_le_mul_left 20 h37) (Nat.mul_le_mul_left 200 h37) dL_draftTold_305
                  · have hf := it_t c36 hf
                    refine lv_aload_n hx hb dL_draftTold_226 rfl (lv_at hl 0 rfl) ?_
                    obtain ⟨h39, hf⟩ := gd_e hf
                    obtain ⟨z38, C40, hz38, hf⟩ := cb2_e hf
                    refine tW (As := [.ref x0]) (rest := []) hAB hC (v_conflict hfl hz38) qw_conflict a_144 ⟨Nat.le_of_ble_eq_true rfl, Nat.le_of_ble_eq_true rfl⟩ hX (fun q hq => hAs q (Nat.le_trans hS.1 hq)) hKX hTX hNX rfl hl.1 (Nat.le_of_ble_eq_true rfl) dL_draftTold_227 ⟨Nat.mul_le_mul_left 20 h39, Nat.mul_le_mul_left 200 h39⟩ hS (fun _ z => z) (fun H locs hX hS => ?_)
                    obtain ⟨S41, eS41, hf⟩ := lt_e hf
                    rw [← eS41] at hX ⊢
                    refine lv_aload hx hb dL_draftTold_230 (lv_at hl 5 rfl) ?_
                    refine lv_iconst (v := 4) hx hb dL_draftTold_232 (by decide) ?_
                    obtain ⟨h43, j42, ej42, hf⟩ := rd_e hf
                    refine tald hx hb hKX.1 hX (by decide) h43 ej42 dL_draftTold_233 ?_
                    refine lv_icmp_ne (tgt := 304) hx hb dL_draftTold_234 (by decide) (fun c44 => ?_) (fun c44 => ?_)
                    · have hf := it_f c44 hf
                      refine lv_iconst (v := 0) hx hb dL_draftTold_304 (by decide) ?_
                      obtain ⟨h45, hf⟩ := gd_e hf
                      cases hf
                      exact CtT_rz hx hb hr hlk nz0 hX hS (Nat.mul_le_mul_left 20 h45) (Nat.mul_le_mul_left 200 h45) dL_draftTold_305
                    · have hf := it_t c44 hf
                      refine lv_aload_n hx hb dL_draftTold_237 rfl (lv_at hl 0 rfl) ?_
                      refine lv_iconst (v := 0) hx hb dL_draftTold_238 (by decide) ?_
                      obtain ⟨h47, hf⟩ := gd_e hf
                      obtain ⟨z46, C48, hz46, hf⟩ := cb2_e hf
                      refine tW (As := [.ref x0, .int 0]) (rest := []) hAB hC (v_conflictRow hfl hz46) qw_conflictRow a_389 ⟨Nat.le_of_ble_eq_true rfl, Nat.le_of_ble_eq_true rfl⟩ hX (fun q hq => hAs q (Nat.le_trans hS.1 hq)) hKX hTX hNX rfl hl.1 (Nat.le_of_ble_eq_true rfl) dL_draftTold_239 ⟨Nat.mul_le_mul_left 20 h47, Nat.mul_le_mul_left 200 h47⟩ hS (fun _ z => z) (fun H locs hX hS => ?_)
                      obtain ⟨S49, eS49, hf⟩ := lt_e hf
                      rw [← eS49] at hX ⊢
                      refine lv_aload hx hb dL_draftTold_242 (lv_at hl 5 rfl) ?_
                      refine lv_iconst (v := 5) hx hb dL_draftTold_244 (by decide) ?_
                      obtain ⟨h51, j50, ej50, hf⟩ := rd_e hf
                      refine tald hx hb hKX.1 hX (by decide) h51 ej50 dL_draftTold_245 ?_
                      refine lv_sipush (v := 1000) hx hb dL_draftTold_246 (by decide) ?_
                      have h52 : ¬ (1000 : Int32) = 0 := by decide
                      refine lv_irem hx hb dL_draftTold_249 h52 ?_
                      refine lv_iconst (v := 1) hx hb dL_draftTold_250 (by decide) ?_
                      refine lv_isub hx hb dL_draftTold_251 ?_
                      refine lv_icmp_ne (tgt := 304) hx hb dL_draftTold_252 (by decide) (fun c53 => ?_) (fun c53 => ?_)
                      · have hf := it_f c53 hf
                        refine lv_iconst (v := 0) hx hb dL_draftTold_304 (by decide) ?_
                        obtain ⟨h54, hf⟩ := gd_e hf
                        cases hf
                        exact CtT_rz hx hb hr hlk nz0 hX hS (Nat.mul_le_mul_left 20 h54) (Nat.mul_le_mul_left 200 h54) dL_draftTold_305
                      · have hf := it_t c53 hf
                        refine lv_aload_n hx hb dL_draftTold_255 rfl (lv_at hl 0 rfl) ?_
                        refine lv_iconst (v := 1) hx hb dL_draftTold_256 (by decide) ?_
                        obtain ⟨h56, hf⟩ := gd_e hf
                        obtain ⟨z55, C57, hz55, hf⟩ := cb2_e hf
                        refine tW (As := [.ref x0, .int 1]) (rest := []) hAB hC (v_conflictRow hfl hz55) qw_conflictRow a_389 ⟨Nat.le_of_ble_eq_true rfl, Nat.le_of_ble_eq_true rfl⟩ hX (fun q hq => hAs q (Nat.le_trans hS.1 hq)) hKX hTX hNX rfl hl.1 (Nat.le_of_ble_eq_true rfl) dL_draftTold_257 ⟨Nat.mul_le_mul_left 20 h56, Nat.mul_le_mul_left 200 h56⟩ hS (fun _ z => z) (fun H locs hX hS => ?_)
                        obtain ⟨S58, eS58, hf⟩ := lt_e hf
                        rw [← eS58] at hX ⊢
                        refine lv_aload hx hb dL_draftTold_260 (lv_at hl 5 rfl) ?_
                        refine lv_iconst (v := 5) hx hb dL_draftTold_262 (by decide) ?_
                        obtain ⟨h60, j59, ej59, hf⟩ := rd_e hf
                        refine tald hx hb hKX.1 hX (by decide) h60 ej59 dL_draftTold_263 ?_
                        refine lv_sipush (v := 1000) hx hb dL_draftTold_264 (by decide) ?_
                        have h61 : ¬ (1000 : Int32) = 0 := by decide
                        refine lv_idiv hx hb dL_draftTold_267 h61 ?_
                        refine lv_iconst (v := 1) hx hb dL_draftTold_268 (by decide) ?_
                        refine lv_isub hx hb dL_draftTold_269 ?_
                        refine lv_icmp_ne (tgt := 304) hx hb dL_draftTold_270 (by decide) (fun c62 => ?_) (fun c62 => ?_)
                        · have hf := it_f c62 hf
                          refine lv_iconst (v := 0) hx hb dL_draftTold_304 (by decide) ?_
                          obtain ⟨h63, hf⟩ := gd_e hf
                          cases hf
                          exact CtT_rz hx hb hr hlk nz0 hX hS (Nat.mul_le_mul_left 20 h63) (Nat.mul_le_mul_left 200 h63) dL_draftTold_305
                        · have hf := it_t c62 hf
                          refine lv_aload_n hx hb dL_draftTold_273 rfl (lv_at hl 0 rfl) ?_
                          refine lv_iconst (v := 2) hx hb dL_draftTold_274 (by decide) ?_
                          obtain ⟨h65, hf⟩ := gd_e hf
                          obtain ⟨z64, C66, hz64, hf⟩ := cb2_e hf
                          refine tW (As := [.ref x0, .int 2]) (rest := []) hAB hC (v_conflictRow hfl hz64) qw_conflictRow a_389 ⟨Nat.le_of_ble_eq_true rfl, Nat.le_of_ble_eq_true rfl⟩ hX (fun q hq => hAs q (Nat.le_trans hS.1 hq)) hKX hTX hNX rfl hl.1 (Nat.le_of_ble_eq_true rfl) dL_draftTold_275 ⟨Nat.mul_le_mul_left 20 h65, Nat.mul_le_mul_left 200 h65⟩ hS (fun _ z => z) (fun H locs hX hS => ?_)
                          obtain ⟨S67, eS67, hf⟩ := lt_e hf
                          rw [← eS67] at hX ⊢
                          refine lv_sipush (v := (-7200)) hx hb dL_draftTold_278 (by decide) ?_
                          refine lv_icmp_ne (tgt := 304) hx hb dL_draftTold_281 (by decide) (fun c68 => ?_) (fun c68 => ?_)
                          · have hf := it_f c68 hf
                            refine lv_iconst (v := 0) hx hb dL_draftTold_304 (by decide) ?_
                            obtain ⟨h69, hf⟩ := gd_e hf
                            cases hf
                            exact CtT_rz hx hb hr hlk nz0 hX hS (Nat.mul_le_mul_left 20 h69) (Nat.mul_le_mul_left 200 h69) dL_draftTold_305
                          · have hf := it_t c68 hf
                            refine lv_aload_n hx hb dL_draftTold_284 rfl (lv_at hl 0 rfl) ?_
                            obtain ⟨h71, hf⟩ := gd_e hf
                            obtain ⟨z70, C72, hz70, hf⟩ := cb2_e hf
                            refine tW (As := [.ref x0]) (rest := []) hAB hC (v_changes hfl hz70) qw_changes a_413 ⟨Nat.le_of_ble_eq_true rfl, Nat.le_of_ble_eq_true rfl⟩ hX (fun q hq => hAs q (Nat.le_trans hS.1 hq)) hKX hTX hNX rfl hl.1 (Nat.le_of_ble_eq_true rfl) dL_draftTold_285 ⟨Nat.mul_le_mul_left 20 h71, Nat.mul_le_mul_left 200 h71⟩ hS (fun _ z => z) (fun H locs hX hS => ?_)
                            obtain ⟨S73, eS73, hf⟩ := lt_e hf
                            rw [← eS73] at hX ⊢
                            refine lv_aload hx hb dL_draftTold_288 (lv_at hl 5 rfl) ?_
                            refine lv_iconst (v := 4) hx hb dL_draftTold_290 (by decide) ?_
                            obtain ⟨h75, j74, ej74, hf⟩ := rd_e hf
                            refine tald hx hb hKX.1 hX (by decide) h75 ej74 dL_draftTold_291 ?_
                            obtain ⟨k77, hk77, hf⟩ := jn1_e hf
                            have Jk77 : ∀ (x76 : Int32) (H : Heap) (locs : List Loc) (ls : Array Slot), ZX D cA A B x0 ad S73 H → va_S (AB A B) s.heap H locs → lv_has ls 13 [(0, .ref x0), (1, .ref (ad 0)), (2, .ref (ad 1)), (3, .ref (ad 2)), (6, .ref (ad 6)), (7, .int x8)] → k77 x76 = some (r, T') → W p l e (RM 21 (20 * 60) (200 * 60)) s m args below meth c H locs (20 * S73.2.2) (200 * S73.2.2) (MQ below (CtQ (AB A B) (some (.int r)) (ZX D cA A B x0 ad T')) args s (20 * 60) (200 * 60) (AB A B)) (F0 m 301 ls [.int x76, .int z70]) := by
                              intro x76 H locs ls hX hS hl hf
                              rw [hk77] at hf
                              refine lv_icmp_eq (tgt := 306) hx hb dL_draftTold_301 (by decide) (fun c78 => ?_) (fun c78 => ?_)
                              · have hf := it_t c78 hf
                                refine lv_aload_n hx hb dL_draftTold_306 rfl (lv_at hl 2 rfl) ?_
                                refine lv_aload hx hb dL_draftTold_307 (lv_at hl 4 rfl) ?_
                                refine lv_iconst (v := 2) hx hb dL_draftTold_309 (by decide) ?_
                                obtain ⟨h80, j79, ej79, hf⟩ := rd_e hf
                                refine tald hx hb hKX.1 hX (by decide) h80 ej79 dL_draftTold_310 ?_
                                refine lv_iconst (v := 1) hx hb dL_draftTold_311 (by decide) ?_
                                refine lv_isub hx hb dL_draftTold_312 ?_
                                obtain ⟨h82, j81, ej81, hf⟩ := rd_e hf
                                refine tald hx hb hKX.1 hX (by decide) h82 ej81 dL_draftTold_313 ?_
                                refine lv_bipush (v := 21) hx hb dL_draftTold_314 (by decide) ?_
                                refine lv_ishr hx hb dL_draftTold_316 ?_
                                refine lv_bipush (v := 7) hx hb dL_draftTold_317 (by decide) ?_
                                refine lv_iand hx hb dL_draftTold_319 ?_
                                refine lv_topi (fun x83 ex83 => ?_)
                                have hf := lt_at ex83 hf
                                refine lv_istore (lv' := [(10, .int x83), (0, .ref x0), (1, .ref (ad 0)), (2, .ref (ad 1)), (3, .ref (ad 2)), (6, .ref (ad 6)), (7, .int x8)]) hx hb dL_draftTold_320 hl (by decide) rfl (fun ls hl => ?_)
                                refine lv_iload hx hb dL_draftTold_322 (lv_at hl 0 rfl) ?_
                                refine lv_iconst (v := 4) hx hb dL_draftTold_324 (by decide) ?_
                                obtain ⟨k85, hk85, hf⟩ := jn1_e hf
                                have Jk85 : ∀ (x84 : Int32) (H : Heap) (locs : List Loc) (ls : Array Slot), ZX D cA A B x0 ad S73 H → va_S (AB A B) s.heap H locs → lv_has ls 13 [(0, .ref x0), (1, .ref (ad 0)), (2, .ref (ad 1)), (3, .ref (ad 2)), (6, .ref (ad 6)), (7, .int x8), (10, .int x83)] → k85 x84 = some (r, T') → W p l e (RM 21 (20 * 60) (200 * 60)) s m args below meth c H locs (20 * S73.2.2) (200 * S73.2.2) (MQ below (CtQ (AB A B) (some (.int r)) (ZX D cA A B x0 ad T')) args s (20 * 60) (200 * 60) (AB A B)) (F0 m 336 ls [.int x84]) := by
                                  intro x84 H locs ls hX hS hl hf
                                  rw [hk85] at hf
                                  refine lv_istore (lv' := [(11, .int x84), (0, .ref x0), (1, .ref (ad 0)), (2, .ref (ad 1)), (3, .ref (ad 2)), (6, .ref (ad 6)), (7, .int x8), (10, .int x83)]) hx hb dL_draftTold_336 hl (by decide) rfl (fun ls hl => ?_)
                                  refine lv_iload hx hb dL_draftTold_338 (lv_at hl 7 rfl) ?_
                                  refine lv_iload hx hb dL_draftTold_340 (lv_at hl 7 rfl) ?_
                                  refine lv_iconst (v := 1) hx hb dL_draftTold_342 (by decide) ?_
                                  refine lv_isub hx hb dL_draftTold_343 ?_
                                  refine lv_iand hx hb dL_draftTold_344 ?_
                                  obtain ⟨k87, hk87, hf⟩ := jn1_e hf
                                  have Jk87 : ∀ (x86 : Int32) (H : Heap) (locs : List Loc) (ls : Array Slot), ZX D cA A B x0 ad S73 H → va_S (AB A B) s.heap H locs → lv_has ls 13 [(0, .ref x0), (1, .ref (ad 0)), (2, .ref (ad 1)), (3, .ref (ad 2)), (6, .ref (ad 6)), (7, .int x8), (11, .int x84)] → k87 x86 = some (r, T') → W p l e (RM 21 (20 * 60) (200 * 60)) s m args below meth c H locs (20 * S73.2.2) (200 * S73.2.2) (MQ below (CtQ (AB A B) (some (.int r)) (ZX D cA A B x0 ad T')) args s (20 * 60) (200 * 60) (AB A B)) (F0 m 365 ls [.int x86]) := by
                                    intro x86 H locs ls hX hS hl hf
                                    rw [hk87] at hf
                                    refine lv_istore (lv' := [(12, .int x86), (0, .ref x0), (1, .ref (ad 0)), (2, .ref (ad 1)), (3, .ref (ad 2)), (6, .ref (ad 6)), (7, .int x8), (11, .int x84)]) hx hb dL_draftTold_365 hl (by decide) rfl (fun ls hl => ?_)
                                    refine lv_iload hx hb dL_draftTold_367 (lv_at hl 6 rfl) ?_
                                    obtain ⟨k88, hk88, hf⟩ := jn0_e hf
                                    have Jk88 : ∀  (H : Heap) (locs : List Loc) (ls : Array Slot), ZX D cA A B x0 ad S73 H → va_S (AB A B) s.heap H locs → lv_has ls 13 [(0, .ref x0), (1, .ref (ad 0)), (2, .ref (ad 1)), (3, .ref (ad 2)), (6, .ref (ad 6)), (11, .int x84), (12, .int x86)] → k88 = some (r, T') → W p l e (RM 21 (20 * 60) (200 * 60)) s m args below meth c H locs (20 * S73.2.2) (200 * S73.2.2) (MQ below (CtQ (AB A B) (some (.int r)) (ZX D cA A B x0 ad T')) args s (20 * 60) (200 * 60) (AB A B)) (F0 m 377 ls []) := by
                                      intro  H locs ls hX hS hl hf
                                      rw [hk88] at hf
                                      refine lv_aload_n hx hb dL_draftTold_377 rfl (lv_at hl 0 rfl) ?_
                                      obtain ⟨h90, hf⟩ := gd_e hf
                                      obtain ⟨z89, C91, hz89, hf⟩ := cb2_e hf
                                      refine tW (As := [.ref x0]) (rest := []) hAB hC (v_fewest hfl hz89) qw_fewest a_428 ⟨Nat.le_of_ble_eq_true rfl, Nat.le_of_ble_eq_true rfl⟩ hX (fun q hq => hAs q (Nat.le_trans hS.1 hq)) hKX hTX hNX rfl hl.1 (Nat.le_of_ble_eq_true rfl) dL_draftTold_378 ⟨Nat.mul_le_mul_left 20 h90, Nat.mul_le_mul_left 200 h90⟩ hS (fun _ z => z) (fun H locs hX hS => ?_)
                                      obtain ⟨S92, eS92, hf⟩ := lt_e hf
                                      rw [← eS92] at hX ⊢
                                      refine lv_iload hx hb dL_draftTold_381 (lv_at hl 6 rfl) ?_
                                      obtain ⟨k95, hk95, hf⟩ := jn2_e hf
                                      have Jk95 : ∀ (x93 : Int32) (S94 : Tt) (H : Heap) (locs : List Loc) (ls : Array Slot), ZX D cA A B x0 ad S94 H → va_S (AB A B) s.heap H locs → lv_has ls 13 [] → k95 x93 S94 = some (r, T') → W p l e (RM 21 (20 * 60) (200 * 60)) s m args below meth c H locs (20 * S94.2.2) (200 * S94.2.2) (MQ below (CtQ (AB A B) (some (.int r)) (ZX D cA A B x0 ad T')) args s (20 * 60) (200 * 60) (AB A B)) (F0 m 402 ls [.int x93, .int z89]) := by
                                        intro x93 S94 H locs ls hX hS hl hf
                                        rw [hk95] at hf
                                        refine lv_icmp_ne (tgt := 409) hx hb dL_draftTold_402 (by decide) (fun c96 => ?_) (fun c96 => ?_)
                                        · have hf := it_f c96 hf
                                          refine lv_iconst (v := 0) hx hb dL_draftTold_409 (by decide) ?_
                                          obtain ⟨h97, hf⟩ := gd_e hf
                                          cases hf
                                          exact CtT_rz hx hb hr hlk nz0 hX hS (Nat.mul_le_mul_left 20 h97) (Nat.mul_le_mul_left 200 h97) dL_draftTold_410
                                        · have hf := it_t c96 hf
                                          refine lv_iconst (v := 1) hx hb dL_draftTold_405 (by decide) ?_
                                          refine lv_goto (tgt := 410) hx hb dL_draftTold_406 (by decide) ?_
                                          obtain ⟨h98, hf⟩ := gd_e hf
                                          cases hf
                                          exact CtT_rz hx hb hr hlk nz1 hX hS (Nat.mul_le_mul_left 20 h98) (Nat.mul_le_mul_left 200 h98) dL_draftTold_410
                                      refine lv_if_eq (tgt := 399) hx hb dL_draftTold_383 (by decide) (fun c99 => ?_) (fun c99 => ?_)
                                      · have hf := it_t c99 hf
                                        refine lv_sipush (v := (-7300)) hx hb dL_draftTold_399 (by decide) ?_
                                        exact Jk95 _ _ _ _ _ hX hS (lv_sub hl [] rfl) hf
                                      · have hf := it_f c99 hf
                                        refine lv_aload_n hx hb dL_draftTold_386 rfl (lv_at hl 1 rfl) ?_
                                        refine lv_aload_n hx hb dL_draftTold_387 rfl (lv_at hl 2 rfl) ?_
                                        refine lv_aload_n hx hb dL_draftTold_388 rfl (lv_at hl 3 rfl) ?_
                                        refine lv_aload hx hb dL_draftTold_389 (lv_at hl 4 rfl) ?_
                                        refine lv_iload hx hb dL_draftTold_391 (lv_at hl 5 rfl) ?_
                                        obtain ⟨h101, hf⟩ := gd_e hf
                                        obtain ⟨z100, M102, hz100, hf⟩ := cb2_e hf
                                        refine tSi (As := [.ref (ad 0), .ref (ad 1), .ref (ad 2), .ref (ad 6), .int x84]) (rest := [.int z89]) hAB hC (c_l_least La_a hz100) q_l_least a_620 ⟨Nat.le_of_ble_eq_true rfl, Nat.le_of_ble_eq_true rfl⟩ hX hKX rfl hl.1 (Nat.le_of_ble_eq_true rfl) dL_draftTold_393 ⟨Nat.mul_le_mul_left 20 h101, Nat.mul_le_mul_left 200 h101⟩ hS (fun _ z => z) (fun H locs hX hS => ?_)
                                        obtain ⟨S103, eS103, hf⟩ := lt_e hf
                                        rw [← eS103] at hX ⊢
                                        refine lv_goto (tgt := 402) hx hb dL_draftTold_396 (by decide) ?_
                                        exact Jk95 _ _ _ _ _ hX hS (lv_sub hl [] rfl) hf
                                    refine lv_if_ne (tgt := 377) hx hb dL_draftTold_369 (by decide) (fun c104 => ?_) (fun c104 => ?_)
                                    · have hf := it_f c104 hf
                                      exact Jk88 _ _ _ hX hS (lv_sub hl [1, 2, 3, 4, 5, 7, 0] rfl) hf
                                    · have hf := it_t c104 hf
                                      refine lv_iload hx hb dL_draftTold_372 (lv_at hl 0 rfl) ?_
                                      refine lv_if_ne (tgt := 405) hx hb dL_draftTold_374 (by decide) (fun c105 => ?_) (fun c105 => ?_)
                                      · have hf := it_f c105 hf
                                        refine lv_iconst (v := 1) hx hb dL_draftTold_405 (by decide) ?_
                                        refine lv_goto (tgt := 410) hx hb dL_draftTold_406 (by decide) ?_
                                        obtain ⟨h106, hf⟩ := gd_e hf
                                        cases hf
                                        exact CtT_rz hx hb hr hlk nz1 hX hS (Nat.mul_le_mul_left 20 h106) (Nat.mul_le_mul_left 200 h106) dL_draftTold_410
                                      · have hf := it_t c105 hf
                                        exact Jk88 _ _ _ hX hS (lv_sub hl [1, 2, 3, 4, 5, 7, 0] rfl) hf
                                  refine lv_if_ne (tgt := 364) hx hb dL_draftTold_345 (by decide) (fun c107 => ?_) (fun c107 => ?_)
                                  · have hf := it_f c107 hf
                                    refine lv_iconst (v := 0) hx hb dL_draftTold_364 (by decide) ?_
                                    exact Jk87 _ _ _ _ hX hS (lv_sub hl [1, 2, 3, 4, 5, 6, 0] rfl) hf
                                  · have hf := it_t c107 hf
                                    refine lv_aload_n hx hb dL_draftTold_348 rfl (lv_at hl 2 rfl) ?_
                                    refine lv_iload hx hb dL_draftTold_349 (lv_at hl 0 rfl) ?_
                                    obtain ⟨h109, j108, ej108, hf⟩ := rd_e hf
                                    refine tald hx hb hKX.1 hX (by decide) h109 ej108 dL_draftTold_351 ?_
                                    refine lv_bipush (v := 7) hx hb dL_draftTold_352 (by decide) ?_
                                    refine lv_iand hx hb dL_draftTold_354 ?_
                                    refine lv_bipush (v := 7) hx hb dL_draftTold_355 (by decide) ?_
                                    refine lv_icmp_eq (tgt := 364) hx hb dL_draftTold_357 (by decide) (fun c110 => ?_) (fun c110 => ?_)
                                    · have hf := it_t c110 hf
                                      refine lv_iconst (v := 0) hx hb dL_draftTold_364 (by decide) ?_
                                      exact Jk87 _ _ _ _ hX hS (lv_sub hl [1, 2, 3, 4, 5, 6, 0] rfl) hf
                                    · have hf := it_f c110 hf
                                      refine lv_iconst (v := 1) hx hb dL_draftTold_360 (by decide) ?_
                                      refine lv_goto (tgt := 365) hx hb dL_draftTold_361 (by decide) ?_
                                      exact Jk87 _ _ _ _ hX hS (lv_sub hl [1, 2, 3, 4, 5, 6, 0] rfl) hf
                                refine lv_icmp_ne (tgt := 332) hx hb dL_draftTold_325 (by decide) (fun c111 => ?_) (fun c111 => ?_)
                                · have hf := it_f c111 hf
                                  refine lv_iload hx hb dL_draftTold_332 (lv_at hl 0 rfl) ?_
                                  refine lv_iconst (v := 1) hx hb dL_draftTold_334 (by decide) ?_
                                  refine lv_isub hx hb dL_draftTold_335 ?_
                                  exact Jk85 _ _ _ _ hX hS (lv_sub hl [1, 2, 3, 4, 5, 6, 0] rfl) hf
                                · have hf := it_t c111 hf
                                  refine lv_iconst (v := 2) hx hb dL_draftTold_328 (by decide) ?_
                                  refine lv_goto (tgt := 336) hx hb dL_draftTold_329 (by decide) ?_
                                  exact Jk85 _ _ _ _ hX hS (lv_sub hl [1, 2, 3, 4, 5, 6, 0] rfl) hf
                              · have hf := it_f c78 hf
                                refine lv_iconst (v := 0) hx hb dL_draftTold_304 (by decide) ?_
                                obtain ⟨h112, hf⟩ := gd_e hf
                                cases hf
                                exact CtT_rz hx hb hr hlk nz0 hX hS (Nat.mul_le_mul_left 20 h112) (Nat.mul_le_mul_left 200 h112) dL_draftTold_305
                            refine lv_if_le (tgt := 299) hx hb dL_draftTold_292 (by decide) (fun c113 => ?_) (fun c113 => ?_)
                            · have hf := it_t c113 hf
                              refine lv_iload hx hb dL_draftTold_299 (lv_at hl 8 rfl) ?_
                              exact Jk77 _ _ _ _ hX hS (lv_sub hl [0, 1, 2, 3, 5, 6] rfl) hf
                            · have hf := it_f c113 hf
                              refine lv_iconst (v := (-1)) hx hb dL_draftTold_295 (by decide) ?_
                              refine lv_goto (tgt := 301) hx hb dL_draftTold_296 (by decide) ?_
                              exact Jk77 _ _ _ _ hX hS (lv_sub hl [0, 1, 2, 3, 5, 6] rfl) hf
              · have hf := it_f c25 hf
                refine lv_iload hx hb dL_draftTold_179 (lv_at hl 8 rfl) ?_
                refine lv_aload hx hb dL_draftTold_181 (lv_at hl 4 rfl) ?_
                refine lv_iload hx hb dL_draftTold_183 (lv_at hl 9 rfl) ?_
                obtain ⟨h115, j114, ej114, hf⟩ := rd_e hf
                refine tald hx hb hKX.1 hX (by decide) h115 ej114 dL_draftTold_185 ?_
                refine lv_aload_n hx hb dL_draftTold_186 rfl (lv_at hl 1 rfl) ?_
                refine lv_iconst (v := 3) hx hb dL_draftTold_187 (by decide) ?_
                refine lv_iload hx hb dL_draftTold_188 (lv_at hl 9 rfl) ?_
                refine lv_iadd hx hb dL_draftTold_190 ?_
                obtain ⟨h117, j116, ej116, hf⟩ := rd_e hf
                refine tald hx hb hKX.1 hX (by decide) h117 ej116 dL_draftTold_191 ?_
                refine lv_ixor hx hb dL_draftTold_192 ?_
                obtain ⟨h119, hf⟩ := gd_e hf
                obtain ⟨z118, hz118, hf⟩ := cb_e hf
                refine tSi (As := [.int ((S21.2.1 4 j114) ^^^ (S21.2.1 0 j116))]) (rest := [.int x22]) hAB hC (c_l_count La_a hz118) q_l_count a_617 ⟨Nat.le_of_ble_eq_true rfl, Nat.le_of_ble_eq_true rfl⟩ hX hKX rfl hl.1 (Nat.le_of_ble_eq_true rfl) dL_draftTold_193 ⟨Nat.mul_le_mul_left 20 h119, Nat.mul_le_mul_left 200 h119⟩ hS (fun _ z => z) (fun H locs hX hS => ?_)
                change ZX D cA A B x0 ad S21 H at hX
                change W p l e (RM 21 (20 * 60) (200 * 60)) s m args below meth c H locs (20 * S21.2.2) (200 * S21.2.2) (MQ below (CtQ (AB A B) (some (.int r)) (ZX D cA A B x0 ad T')) args s (20 * 60) (200 * 60) (AB A B)) (F0 m 196 ls [.int z118, .int x22])
                refine lv_iadd hx hb dL_draftTold_196 ?_
                refine lv_istore (lv' := [(9, .int (x22 + z118)), (0, .ref x0), (1, .ref (ad 0)), (2, .ref (ad 1)), (3, .ref (ad 2)), (5, .ref (ad 4)), (6, .ref (ad 6)), (7, .int x8), (8, .int x13), (10, .int x23)]) hx hb dL_draftTold_197 hl (by decide) rfl (fun ls hl => ?_)
                refine lv_iinc (v := (x23 + 1)) (lv' := [(10, .int (x23 + 1)), (9, .int (x22 + z118)), (0, .ref x0), (1, .ref (ad 0)), (2, .ref (ad 1)), (3, .ref (ad 2)), (5, .ref (ad 4)), (6, .ref (ad 6)), (7, .int x8), (8, .int x13)]) hx hb dL_draftTold_199 hl (k := 9) rfl rfl (by decide) rfl (fun ls hl => ?_)
                refine lv_goto (tgt := 173) hx hb dL_draftTold_202 (by decide) ?_
                exact ihg24 _ _ _ _ _ hX hS (lv_sub hl [2, 3, 4, 5, 6, 7, 8, 9, 1, 0] rfl) hf
          exact Lg24 FU _ _ _ _ _ hX hS (lv_sub hl [2, 3, 4, 5, 7, 8, 9, 10, 1, 0] rfl) hf
        · have hf := it_f c17 hf
          refine lv_aload hx hb dL_draftTold_115 (lv_at hl 6 rfl) ?_
          refine lv_iconst (v := 3) hx hb dL_draftTold_117 (by decide) ?_
          obtain ⟨h121, j120, ej120, hf⟩ := rd_e hf
          refine tald hx hb hKX.1 hX (by decide) h121 ej120 dL_draftTold_118 ?_
          refine lv_iload hx hb dL_draftTold_119 (lv_at hl 9 rfl) ?_
          refine lv_ishr hx hb dL_draftTold_121 ?_
          refine lv_iconst (v := 1) hx hb dL_draftTold_122 (by decide) ?_
          refine lv_iand hx hb dL_draftTold_123 ?_
          refine lv_if_ne (tgt := 130) hx hb dL_draftTold_124 (by decide) (fun c122 => ?_) (fun c122 => ?_)
          · have hf := it_f c122 hf
            refine lv_aload_n hx hb dL_draftTold_130 rfl (lv_at hl 0 rfl) ?_
            refine lv_iload hx hb dL_draftTold_131 (lv_at hl 8 rfl) ?_
            obtain ⟨h124, hf⟩ := gd_e hf
            obtain ⟨z123, C125, hz123, hf⟩ := cb2_e hf
            refine tW (As := [.ref x0, .int x13]) (rest := []) hAB hC (v_draftRow hfl hz123) qw_draftRow a_492 ⟨Nat.le_of_ble_eq_true rfl, Nat.le_of_ble_eq_true rfl⟩ hX (fun q hq => hAs q (Nat.le_trans hS.1 hq)) hKX hTX hNX rfl hl.1 (Nat.le_of_ble_eq_true rfl) dL_draftTold_133 ⟨Nat.mul_le_mul_left 20 h124, Nat.mul_le_mul_left 200 h124⟩ hS (fun _ z => z) (fun H locs hX hS => ?_)
            obtain ⟨S126, eS126, hf⟩ := lt_e hf
            rw [← eS126] at hX ⊢
            refine lv_iload hx hb dL_draftTold_136 (lv_at hl 9 rfl) ?_
            obtain ⟨h128, hf⟩ := gd_e hf
            obtain ⟨z127, hz127, hf⟩ := cb_e hf
            refine tSi (As := [.int x14]) (rest := [.int z123]) hAB hC (c_l_number La_a hz127) q_l_number a_578 ⟨Nat.le_of_ble_eq_true rfl, Nat.le_of_ble_eq_true rfl⟩ hX hKX rfl hl.1 (Nat.le_of_ble_eq_true rfl) dL_draftTold_138 ⟨Nat.mul_le_mul_left 20 h128, Nat.mul_le_mul_left 200 h128⟩ hS (fun _ z => z) (fun H locs hX hS => ?_)
            change ZX D cA A B x0 ad S126 H at hX
            change W p l e (RM 21 (20 * 60) (200 * 60)) s m args below meth c H locs (20 * S126.2.2) (200 * S126.2.2) (MQ below (CtQ (AB A B) (some (.int r)) (ZX D cA A B x0 ad T')) args s (20 * 60) (200 * 60) (AB A B)) (F0 m 141 ls [.int z127, .int z123])
            refine lv_icmp_eq (tgt := 146) hx hb dL_draftTold_141 (by decide) (fun c129 => ?_) (fun c129 => ?_)
            · have hf := it_t c129 hf
              refine lv_iinc (v := (x13 + 1)) (lv' := [(8, .int (x13 + 1)), (0, .ref x0), (1, .ref (ad 0)), (2, .ref (ad 1)), (3, .ref (ad 2)), (4, .ref (ad 3)), (5, .ref (ad 4)), (6, .ref (ad 6)), (7, .int x8), (9, .int x14)]) hx hb dL_draftTold_146 hl (k := 8) rfl rfl (by decide) rfl (fun ls hl => ?_)
              refine lv_iinc (v := (x14 + 1)) (lv' := [(9, .int (x14 + 1)), (8, .int (x13 + 1)), (0, .ref x0), (1, .ref (ad 0)), (2, .ref (ad 1)), (3, .ref (ad 2)), (4, .ref (ad 3)), (5, .ref (ad 4)), (6, .ref (ad 6)), (7, .int x8)]) hx hb dL_draftTold_149 hl (k := 9) rfl rfl (by decide) rfl (fun ls hl => ?_)
              refine lv_goto (tgt := 108) hx hb dL_draftTold_152 (by decide) ?_
              exact ihg16 _ _ _ _ _ _ hX hS (lv_sub hl [2, 3, 4, 5, 6, 7, 8, 9, 1, 0] rfl) hf
            · have hf := it_f c129 hf
              refine lv_iconst (v := 0) hx hb dL_draftTold_144 (by decide) ?_
              obtain ⟨h130, hf⟩ := gd_e hf
              cases hf
              exact CtT_rz hx hb hr hlk nz0 hX hS (Nat.mul_le_mul_left 20 h130) (Nat.mul_le_mul_left 200 h130) dL_draftTold_145
          · have hf := it_t c122 hf
            refine lv_goto (tgt := 149) hx hb dL_draftTold_127 (by decide) ?_
            refine lv_iinc (v := (x14 + 1)) (lv' := [(9, .int (x14 + 1)), (0, .ref x0), (1, .ref (ad 0)), (2, .ref (ad 1)), (3, .ref (ad 2)), (4, .ref (ad 3)), (5, .ref (ad 4)), (6, .ref (ad 6)), (7, .int x8), (8, .int x13)]) hx hb dL_draftTold_149 hl (k := 9) rfl rfl (by decide) rfl (fun ls hl => ?_)
            refine lv_goto (tgt := 108) hx hb dL_draftTold_152 (by decide) ?_
            exact ihg16 _ _ _ _ _ _ hX hS (lv_sub hl [1, 2, 3, 4, 5, 6, 7, 8, 9, 0] rfl) hf
    exact Lg16 FU _ _ _ _ _ _ hX hS (lv_sub hl [2, 3, 4, 5, 6, 7, 8, 9, 1, 0] rfl) hf
  · have hf := it_t c12 hf
    refine lv_aload_n hx hb dL_draftTold_7 rfl (lv_at hl 0 rfl) ?_
    obtain ⟨h132, hf⟩ := gd_e hf
    obtain ⟨z131, C133, hz131, hf⟩ := cb2_e hf
    refine tW (As := [.ref x0]) (rest := []) hAB hC (v_conflict hfl hz131) qw_conflict a_144 ⟨Nat.le_of_ble_eq_true rfl, Nat.le_of_ble_eq_true rfl⟩ hX (fun q hq => hAs q (Nat.le_trans hS.1 hq)) hKX hTX hNX rfl hl.1 (Nat.le_of_ble_eq_true rfl) dL_draftTold_8 ⟨Nat.mul_le_mul_left 20 h132, Nat.mul_le_mul_left 200 h132⟩ hS (fun _ z => z) (fun H locs hX hS => ?_)
    obtain ⟨S134, eS134, hf⟩ := lt_e hf
    rw [← eS134] at hX ⊢
    refine lv_sipush (v := (-7300)) hx hb dL_draftTold_11 (by decide) ?_
    refine lv_icmp_ne (tgt := 100) hx hb dL_draftTold_14 (by decide) (fun c135 => ?_) (fun c135 => ?_)
    · have hf := it_f c135 hf
      refine lv_iconst (v := 0) hx hb dL_draftTold_100 (by decide) ?_
      obtain ⟨h136, hf⟩ := gd_e hf
      cases hf
      exact CtT_rz hx hb hr hlk nz0 hX hS (Nat.mul_le_mul_left 20 h136) (Nat.mul_le_mul_left 200 h136) dL_draftTold_101
    · have hf := it_t c135 hf
      refine lv_aload_n hx hb dL_draftTold_17 rfl (lv_at hl 0 rfl) ?_
      refine lv_iconst (v := 2) hx hb dL_draftTold_18 (by decide) ?_
      obtain ⟨h138, hf⟩ := gd_e hf
      obtain ⟨z137, C139, hz137, hf⟩ := cb2_e hf
      refine tW (As := [.ref x0, .int 2]) (rest := []) hAB hC (v_conflictRow hfl hz137) qw_conflictRow a_389 ⟨Nat.le_of_ble_eq_true rfl, Nat.le_of_ble_eq_true rfl⟩ hX (fun q hq => hAs q (Nat.le_trans hS.1 hq)) hKX hTX hNX rfl hl.1 (Nat.le_of_ble_eq_true rfl) dL_draftTold_19 ⟨Nat.mul_le_mul_left 20 h138, Nat.mul_le_mul_left 200 h138⟩ hS (fun _ z => z) (fun H locs hX hS => ?_)
      obtain ⟨S140, eS140, hf⟩ := lt_e hf
      rw [← eS140] at hX ⊢
      refine lv_sipush (v := (-7300)) hx hb dL_draftTold_22 (by decide) ?_
      refine lv_icmp_ne (tgt := 100) hx hb dL_draftTold_25 (by decide) (fun c141 => ?_) (fun c141 => ?_)
      · have hf := it_f c141 hf
        refine lv_iconst (v := 0) hx hb dL_draftTold_100 (by decide) ?_
        obtain ⟨h142, hf⟩ := gd_e hf
        cases hf
        exact CtT_rz hx hb hr hlk nz0 hX hS (Nat.mul_le_mul_left 20 h142) (Nat.mul_le_mul_left 200 h142) dL_draftTold_101
      · have hf := it_t c141 hf
        refine lv_aload_n hx hb dL_draftTold_28 rfl (lv_at hl 0 rfl) ?_
        obtain ⟨h144, hf⟩ := gd_e hf
        obtain ⟨z143, C145, hz143, hf⟩ := cb2_e hf
        refine tW (As := [.ref x0]) (rest := []) hAB hC (v_changes hfl hz143) qw_changes a_413 ⟨Nat.le_of_ble_eq_true rfl, Nat.le_of_ble_eq_true rfl⟩ hX (fun q hq => hAs q (Nat.le_trans hS.1 hq)) hKX hTX hNX rfl hl.1 (Nat.le_of_ble_eq_true rfl) dL_draftTold_29 ⟨Nat.mul_le_mul_left 20 h144, Nat.mul_le_mul_left 200 h144⟩ hS (fun _ z => z) (fun H locs hX hS => ?_)
        obtain ⟨S146, eS146, hf⟩ := lt_e hf
        rw [← eS146] at hX ⊢
        refine lv_sipush (v := (-7300)) hx hb dL_draftTold_32 (by decide) ?_
        refine lv_icmp_ne (tgt := 100) hx hb dL_draftTold_35 (by decide) (fun c147 => ?_) (fun c147 => ?_)
        · have hf := it_f c147 hf
          refine lv_iconst (v := 0) hx hb dL_draftTold_100 (by decide) ?_
          obtain ⟨h148, hf⟩ := gd_e hf
          cases hf
          exact CtT_rz hx hb hr hlk nz0 hX hS (Nat.mul_le_mul_left 20 h148) (Nat.mul_le_mul_left 200 h148) dL_draftTold_101
        · have hf := it_t c147 hf
          refine lv_aload_n hx hb dL_draftTold_38 rfl (lv_at hl 0 rfl) ?_
          obtain ⟨h150, hf⟩ := gd_e hf
          obtain ⟨z149, C151, hz149, hf⟩ := cb2_e hf
          refine tW (As := [.ref x0]) (rest := []) hAB hC (v_fewest hfl hz149) qw_fewest a_428 ⟨Nat.le_of_ble_eq_true rfl, Nat.le_of_ble_eq_true rfl⟩ hX (fun q hq => hAs q (Nat.le_trans hS.1 hq)) hKX hTX hNX rfl hl.1 (Nat.le_of_ble_eq_true rfl) dL_draftTold_39 ⟨Nat.mul_le_mul_left 20 h150, Nat.mul_le_mul_left 200 h150⟩ hS (fun _ z => z) (fun H locs hX hS => ?_)
          obtain ⟨S152, eS152, hf⟩ := lt_e hf
          rw [← eS152] at hX ⊢
          refine lv_sipush (v := (-7300)) hx hb dL_draftTold_42 (by decide) ?_
          refine lv_icmp_ne (tgt := 100) hx hb dL_draftTold_45 (by decide) (fun c153 => ?_) (fun c153 => ?_)
          · have hf := it_f c153 hf
            refine lv_iconst (v := 0) hx hb dL_draftTold_100 (by decide) ?_
            obtain ⟨h154, hf⟩ := gd_e hf
            cases hf
            exact CtT_rz hx hb hr hlk nz0 hX hS (Nat.mul_le_mul_left 20 h154) (Nat.mul_le_mul_left 200 h154) dL_draftTold_101
          · have hf := it_t c153 hf
            refine lv_aload_n hx hb dL_draftTold_48 rfl (lv_at hl 0 rfl) ?_
            refine lv_iconst (v := (-1)) hx hb dL_draftTold_49 (by decide) ?_
            obtain ⟨h156, hf⟩ := gd_e hf
            obtain ⟨z155, C157, hz155, hf⟩ := cb2_e hf
            refine tW (As := [.ref x0, .int (-1)]) (rest := []) hAB hC (v_draftRow hfl hz155) qw_draftRow a_492 ⟨Nat.le_of_ble_eq_true rfl, Nat.le_of_ble_eq_true rfl⟩ hX (fun q hq => hAs q (Nat.le_trans hS.1 hq)) hKX hTX hNX rfl hl.1 (Nat.le_of_ble_eq_true rfl) dL_draftTold_50 ⟨Nat.mul_le_mul_left 20 h156, Nat.mul_le_mul_left 200 h156⟩ hS (fun _ z => z) (fun H locs hX hS => ?_)
            obtain ⟨S158, eS158, hf⟩ := lt_e hf
            rw [← eS158] at hX ⊢
            refine lv_sipush (v := (-7300)) hx hb dL_draftTold_53 (by decide) ?_
            refine lv_icmp_ne (tgt := 100) hx hb dL_draftTold_56 (by decide) (fun c159 => ?_) (fun c159 => ?_)
            · have hf := it_f c159 hf
              refine lv_iconst (v := 0) hx hb dL_draftTold_100 (by decide) ?_
              obtain ⟨h160, hf⟩ := gd_e hf
              cases hf
              exact CtT_rz hx hb hr hlk nz0 hX hS (Nat.mul_le_mul_left 20 h160) (Nat.mul_le_mul_left 200 h160) dL_draftTold_101
            · have hf := it_t c159 hf
              refine lv_aload_n hx hb dL_draftTold_59 rfl (lv_at hl 0 rfl) ?_
              refine lv_iconst (v := (-1)) hx hb dL_draftTold_60 (by decide) ?_
              obtain ⟨h162, hf⟩ := gd_e hf
              obtain ⟨z161, C163, hz161, hf⟩ := cb2_e hf
              refine tW (As := [.ref x0, .int (-1)]) (rest := []) hAB hC (v_add hfl hz161) qw_add a_517 ⟨Nat.le_of_ble_eq_true rfl, Nat.le_of_ble_eq_true rfl⟩ hX (fun q hq => hAs q (Nat.le_trans hS.1 hq)) hKX hTX hNX rfl hl.1 (Nat.le_of_ble_eq_true rfl) dL_draftTold_61 ⟨Nat.mul_le_mul_left 20 h162, Nat.mul_le_mul_left 200 h162⟩ hS (fun _ z => z) (fun H locs hX hS => ?_)
              obtain ⟨S164, eS164, hf⟩ := lt_e hf
              rw [← eS164] at hX ⊢
              refine lv_sipush (v := (-7300)) hx hb dL_draftTold_64 (by decide) ?_
              refine lv_icmp_ne (tgt := 100) hx hb dL_draftTold_67 (by decide) (fun c165 => ?_) (fun c165 => ?_)
              · have hf := it_f c165 hf
                refine lv_iconst (v := 0) hx hb dL_draftTold_100 (by decide) ?_
                obtain ⟨h166, hf⟩ := gd_e hf
                cases hf
                exact CtT_rz hx hb hr hlk nz0 hX hS (Nat.mul_le_mul_left 20 h166) (Nat.mul_le_mul_left 200 h166) dL_draftTold_101
              · have hf := it_t c165 hf
                refine lv_aload_n hx hb dL_draftTold_70 rfl (lv_at hl 0 rfl) ?_
                refine lv_iconst (v := 0) hx hb dL_draftTold_71 (by decide) ?_
                obtain ⟨h168, hf⟩ := gd_e hf
                obtain ⟨z167, C169, hz167, hf⟩ := cb2_e hf
                refine tW (As := [.ref x0, .int 0]) (rest := []) hAB hC (v_takeOut hfl hz167) qw_takeOut a_534 ⟨Nat.le_of_ble_eq_true rfl, Nat.le_of_ble_eq_true rfl⟩ hX (fun q hq => hAs q (Nat.le_trans hS.1 hq)) hKX hTX hNX rfl hl.1 (Nat.le_of_ble_eq_true rfl) dL_draftTold_72 ⟨Nat.mul_le_mul_left 20 h168, Nat.mul_le_mul_left 200 h168⟩ hS (fun _ z => z) (fun H locs hX hS => ?_)
                obtain ⟨S170, eS170, hf⟩ := lt_e hf
                rw [← eS170] at hX ⊢
                refine lv_sipush (v := (-7300)) hx hb dL_draftTold_75 (by decide) ?_
                refine lv_icmp_ne (tgt := 100) hx hb dL_draftTold_78 (by decide) (fun c171 => ?_) (fun c171 => ?_)
                · have hf := it_f c171 hf
                  refine lv_iconst (v := 0) hx hb dL_draftTold_100 (by decide) ?_
                  obtain ⟨h172, hf⟩ := gd_e hf
                  cases hf
                  exact CtT_rz hx hb hr hlk nz0 hX hS (Nat.mul_le_mul_left 20 h172) (Nat.mul_le_mul_left 200 h172) dL_draftTold_101
                · have hf := it_t c171 hf
                  refine lv_aload_n hx hb dL_draftTold_81 rfl (lv_at hl 0 rfl) ?_
                  refine lv_iconst (v := 0) hx hb dL_draftTold_82 (by decide) ?_
                  refine lv_bipush (v := 9) hx hb dL_draftTold_83 (by decide) ?_
                  refine lv_bipush (v := 9) hx hb dL_draftTold_85 (by decide) ?_
                  obtain ⟨h174, hf⟩ := gd_e hf
                  obtain ⟨z173, C175, hz173, hf⟩ := cb2_e hf
                  refine tW (As := [.ref x0, .int 0, .int 9, .int 9]) (rest := []) hAB hC (v_change hfl hz173) qw_change a_562 ⟨Nat.le_of_ble_eq_true rfl, Nat.le_of_ble_eq_true rfl⟩ hX (fun q hq => hAs q (Nat.le_trans hS.1 hq)) hKX hTX hNX rfl hl.1 (Nat.le_of_ble_eq_true rfl) dL_draftTold_87 ⟨Nat.mul_le_mul_left 20 h174, Nat.mul_le_mul_left 200 h174⟩ hS (fun _ z => z) (fun H locs hX hS => ?_)
                  obtain ⟨S176, eS176, hf⟩ := lt_e hf
                  rw [← eS176] at hX ⊢
                  refine lv_sipush (v := (-7300)) hx hb dL_draftTold_90 (by decide) ?_
                  refine lv_icmp_ne (tgt := 100) hx hb dL_draftTold_93 (by decide) (fun c177 => ?_) (fun c177 => ?_)
                  · have hf := it_f c177 hf
                    refine lv_iconst (v := 0) hx hb dL_draftTold_100 (by decide) ?_
                    obtain ⟨h178, hf⟩ := gd_e hf
                    cases hf
                    exact CtT_rz hx hb hr hlk nz0 hX hS (Nat.mul_le_mul_left 20 h178) (Nat.mul_le_mul_left 200 h178) dL_draftTold_101
                  · have hf := it_t c177 hf
                    refine lv_iconst (v := 1) hx hb dL_draftTold_96 (by decide) ?_
                    refine lv_goto (tgt := 101) hx hb dL_draftTold_97 (by decide) ?_
                    obtain ⟨h179, hf⟩ := gd_e hf
                    cases hf
                    exact CtT_rz hx hb hr hlk nz1 hX hS (Nat.mul_le_mul_left 20 h179) (Nat.mul_le_mul_left 200 h179) dL_draftTold_101
