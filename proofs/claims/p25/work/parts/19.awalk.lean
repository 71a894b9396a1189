/-! ===== the new view, as its class lays it ===== -/
theorem nv_1 {cA : Nat → ClassId} {ad : Cd → Nat} {L : List Cd} {G : Gt} {S : St} {nt nv : Nat} {q0 q1 q2 q3 q4 : Nat} {a0 a1 a2 a3 x3 x4 : Int32} {v2 : Nat} (hG : WF L G nt nv) (hv2 : v2 < nv) : (.inr (1, [.int a0, .int a1, .int a2, .int a3, rO ad 4 (some v2), rO ad 4 none, .ref q1, .ref q3, .ref (ad (4, v2)), .int x3, .int x4]) : va_E) = dce cA (adV ad nv q0 q1 q2 q3 q4) (nVG G nv (gL [a0, a1, a2, a3, nI v2, -1, 1, x3, x4])) S (4, nv) := by
  have hb := hG.1
  rw [dce_V1 (by rw [nVG_at]; rfl)]
  have e1 : vl (nVG G nv (gL [a0, a1, a2, a3, nI v2, -1, 1, x3, x4])) nv = v2 := by
    unfold vl
    rw [nVG_at]
    exact nI_clamp (by omega)
  have z1 : (adV ad nv q0 q1 q2 q3 q4) (4, v2) = ad (4, v2) := adV_o (c := (4, v2)) hb rfl (Or.inr (Or.inr (Or.inr ⟨rfl, hv2⟩)))
  have o1 : rO (adV ad nv q0 q1 q2 q3 q4) 4 (oid (nI v2)) = rO ad 4 (some v2) := by
    rw [oid_nI (by omega)]
    exact congrArg Value.ref z1
  rw [e1, z1]
  unfold vfs
  rw [nVG_at, adV_1, adV_3]
  show _ = (.inr (1, [.int a0, .int a1, .int a2, .int a3, rO (adV ad nv q0 q1 q2 q3 q4) 4 (oid (nI v2)), rO (adV ad nv q0 q1 q2 q3 q4) 4 (oid (-1)), .ref q1, .ref q3, .ref (ad (4, v2)), .int x3, .int x4]) : va_E)
  rw [o1]
  rfl
theorem nw_1 {G : Gt} {nt nv : Nat} {a0 a1 a2 a3 x3 x4 : Int32} {v2 : Nat} (hv2 : v2 < nv) : WV (nVG G nv (gL [a0, a1, a2, a3, nI v2, -1, 1, x3, x4])) nt nv := by
  unfold WV
  rw [nVG_at]
  exact Or.inl ⟨rfl, ⟨v2, hv2, rfl⟩, rfl⟩
theorem nv_4 {cA : Nat → ClassId} {ad : Cd → Nat} {L : List Cd} {G : Gt} {S : St} {nt nv : Nat} {q0 q1 q2 q3 q4 : Nat} {a0 a1 a2 a3 x3 x4 x5 : Int32} {v2 : Nat} (hG : WF L G nt nv) (hv2 : v2 < nv) : (.inr (4, [.int a0, .int a1, .int a2, .int a3, rO ad 4 (some v2), rO ad 4 none, .ref q1, .ref q3, .ref (ad (4, v2)), .int x3, .int x4, .int x5]) : va_E) = dce cA (adV ad nv q0 q1 q2 q3 q4) (nVG G nv (gL [a0, a1, a2, a3, nI v2, -1, 4, x3, x4, x5])) S (4, nv) := by
  have hb := hG.1
  rw [dce_V4 (by rw [nVG_at]; rfl)]
  have e1 : vl (nVG G nv (gL [a0, a1, a2, a3, nI v2, -1, 4, x3, x4, x5])) nv = v2 := by
    unfold vl
    rw [nVG_at]
    exact nI_clamp (by omega)
  have z1 : (adV ad nv q0 q1 q2 q3 q4) (4, v2) = ad (4, v2) := adV_o (c := (4, v2)) hb rfl (Or.inr (Or.inr (Or.inr ⟨rfl, hv2⟩)))
  have o1 : rO (adV ad nv q0 q1 q2 q3 q4) 4 (oid (nI v2)) = rO ad 4 (some v2) := by
    rw [oid_nI (by omega)]
    exact congrArg Value.ref z1
  rw [e1, z1]
  unfold vfs
  rw [nVG_at, adV_1, adV_3]
  show _ = (.inr (4, [.int a0, .int a1, .int a2, .int a3, rO (adV ad nv q0 q1 q2 q3 q4) 4 (oid (nI v2)), rO (adV ad nv q0 q1 q2 q3 q4) 4 (oid (-1)), .ref q1, .ref q3, .ref (ad (4, v2)), .int x3, .int x4, .int x5]) : va_E)
  rw [o1]
  rfl
theorem nw_4 {G : Gt} {nt nv : Nat} {a0 a1 a2 a3 x3 x4 x5 : Int32} {v2 : Nat} (hv2 : v2 < nv) : WV (nVG G nv (gL [a0, a1, a2, a3, nI v2, -1, 4, x3, x4, x5])) nt nv := by
  unfold WV
  rw [nVG_at]
  exact Or.inr (Or.inr (Or.inl ⟨rfl, ⟨v2, hv2, rfl⟩, rfl⟩))
theorem nv_2 {cA : Nat → ClassId} {ad : Cd → Nat} {L : List Cd} {G : Gt} {S : St} {nt nv : Nat} {q0 q1 q2 q3 q4 : Nat} {a0 a1 a2 a3 x5 : Int32} {v2 v3 : Nat} (hG : WF L G nt nv) (hv2 : v2 < nv) (hv3 : v3 < nv) : (.inr (2, [.int a0, .int a1, .int a2, .int a3, rO ad 4 (some v2), rO ad 4 (some v3), .ref q1, .ref q3, .ref (ad (4, v2)), .ref (ad (4, v3)), .int x5]) : va_E) = dce cA (adV ad nv q0 q1 q2 q3 q4) (nVG G nv (gL [a0, a1, a2, a3, nI v2, nI v3, 2, 0, 0, 0, x5])) S (4, nv) := by
  have hb := hG.1
  rw [dce_V2 (by rw [nVG_at]; rfl)]
  have e1 : vl (nVG G nv (gL [a0, a1, a2, a3, nI v2, nI v3, 2, 0, 0, 0, x5])) nv = v2 := by
    unfold vl
    rw [nVG_at]
    exact nI_clamp (by omega)
  have z1 : (adV ad nv q0 q1 q2 q3 q4) (4, v2) = ad (4, v2) := adV_o (c := (4, v2)) hb rfl (Or.inr (Or.inr (Or.inr ⟨rfl, hv2⟩)))
  have o1 : rO (adV ad nv q0 q1 q2 q3 q4) 4 (oid (nI v2)) = rO ad 4 (some v2) := by
    rw [oid_nI (by omega)]
    exact congrArg Value.ref z1
  have e2 : vr (nVG G nv (gL [a0, a1, a2, a3, nI v2, nI v3, 2, 0, 0, 0, x5])) nv = v3 := by
    unfold vr
    rw [nVG_at]
    exact nI_clamp (by omega)
  have z2 : (adV ad nv q0 q1 q2 q3 q4) (4, v3) = ad (4, v3) := adV_o (c := (4, v3)) hb rfl (Or.inr (Or.inr (Or.inr ⟨rfl, hv3⟩)))
  have o2 : rO (adV ad nv q0 q1 q2 q3 q4) 4 (oid (nI v3)) = rO ad 4 (some v3) := by
    rw [oid_nI (by omega)]
    exact congrArg Value.ref z2
  rw [e1, z1, e2, z2]
  unfold vfs
  rw [nVG_at, adV_1, adV_3]
  show _ = (.inr (2, [.int a0, .int a1, .int a2, .int a3, rO (adV ad nv q0 q1 q2 q3 q4) 4 (oid (nI v2)), rO (adV ad nv q0 q1 q2 q3 q4) 4 (oid (nI v3)), .ref q1, .ref q3, .ref (ad (4, v2)), .ref (ad (4, v3)), .int x5]) : va_E)
  rw [o1, o2]
theorem nw_2 {G : Gt} {nt nv : Nat} {a0 a1 a2 a3 x5 : Int32} {v2 v3 : Nat} (hv2 : v2 < nv) (hv3 : v3 < nv) : WV (nVG G nv (gL [a0, a1, a2, a3, nI v2, nI v3, 2, 0, 0, 0, x5])) nt nv := by
  unfold WV
  rw [nVG_at]
  exact Or.inr (Or.inl ⟨rfl, ⟨v2, hv2, rfl⟩, ⟨v3, hv3, rfl⟩⟩)
theorem nv_6 {cA : Nat → ClassId} {ad : Cd → Nat} {L : List Cd} {G : Gt} {S : St} {nt nv : Nat} {q0 q1 q2 q3 q4 : Nat} {a0 a1 a2 a3 : Int32} {t2 : Nat} (hG : WF L G nt nv) (ht2 : t2 < nt) : (.inr (6, [.int a0, .int a1, .int a2, .int a3, rO ad 4 none, rO ad 4 none, .ref q1, .ref q3, .ref (ad (2, t2))]) : va_E) = dce cA (adV ad nv q0 q1 q2 q3 q4) (nVG G nv (gL [a0, a1, a2, a3, -1, -1, 6, 0, 0, 0, 0, nI t2])) S (4, nv) := by
  have hb := hG.1
  rw [dce_V6 (by rw [nVG_at]; rfl)]
  have e1 : vt (nVG G nv (gL [a0, a1, a2, a3, -1, -1, 6, 0, 0, 0, 0, nI t2])) nv = t2 := by
    unfold vt
    rw [nVG_at]
    exact nI_clamp (by omega)
  have z1 : (adV ad nv q0 q1 q2 q3 q4) (2, t2) = ad (2, t2) := adV_o (c := (2, t2)) hb rfl (Or.inr (Or.inr (Or.inl ⟨Or.inl rfl, ht2⟩)))
  rw [e1, z1]
  unfold vfs
  rw [nVG_at, adV_1, adV_3]
  show _ = (.inr (6, [.int a0, .int a1, .int a2, .int a3, rO (adV ad nv q0 q1 q2 q3 q4) 4 (oid (-1)), rO (adV ad nv q0 q1 q2 q3 q4) 4 (oid (-1)), .ref q1, .ref q3, .ref (ad (2, t2))]) : va_E)
  rfl
theorem nw_6 {G : Gt} {nt nv : Nat} {a0 a1 a2 a3 : Int32} {t2 : Nat} (ht2 : t2 < nt) : WV (nVG G nv (gL [a0, a1, a2, a3, -1, -1, 6, 0, 0, 0, 0, nI t2])) nt nv := by
  unfold WV
  rw [nVG_at]
  exact Or.inr (Or.inr (Or.inr ⟨rfl, rfl, rfl, t2, ht2, rfl⟩))
theorem AX_of {D : va_G} {cA : Nat → ClassId} {A : Nat → Prop} {ad : Cd → Nat} {L : List Cd} {G : Gt} {S : St} {nt nv x0 : Nat} {H : Heap} (hX : DX D cA A ad L G S H) (hG : WF L G nt nv) (hE : EX L nt nv) (hx0 : ad (5, 0) = x0) : AX D cA A x0 S G nt nv H := ⟨ad, L, hX, hG, hE, hx0⟩
section AWR
variable {p : Program} {l : Launch} {e : Env} {h0 mc0 ms0 : Nat} {s : State} {m : MethodId} {args : Array Value} {below : List Frame} {meth : Method} {c : Code} {H : Heap} {locs : List Loc} {cells slots : Nat} {Q : State → Prop}
variable {cc bytes : ByteArray} {pc nL maxL index n h : Nat} {ls : Array Slot} {D : va_G} {cA : Nat → ClassId} {A : Nat → Prop} {ad : Cd → Nat} {L : List Cd} {G : Gt} {S S' : St} {H0 : Heap} {own C : String} {w0 : Cond} {y : MethodName} {ret : Option FieldType} {As rest : List Value}
theorem dVxg {x : Value} {cd : Cd} {ci : Nat} {fs : List Value} {T : u_T} {N : Nat} (hC : CallFix p m c cc nL s args (w0 :: ALL) own) (hM : Ct l D cA A y bytes maxL ret h 0 0 (.ref (ad cd) :: As) (DX D cA A ad L G S) (some x) (DX D cA A ad L G S')) (q : VWv C y bytes maxL ret n) (hlink : Cond.methodLink own index y ∈ ALL) (hR : h + 1 ≤ h0) (hX : DX D cA A ad L G S H) (hK : KX D cA s) (hc : cd ∈ L) (he : dce cA ad G S cd = .inr (ci, fs)) (hcl : vwCl[ci]? = some (C, T, N)) (hn : As.length = n) (hl : ls.size = nL) (hrest : (rest.map fun v => v.category).sum ≤ 8) (hdg : decode cc pc = .ok (.invokevirtual index, 3)) (hf : cells ≤ mc0 ∧ slots ≤ ms0) (hS : va_S A H0 H locs)
    (kk : ∀ (H1 : Heap) (locs1 : List Loc), DX D cA A ad L G S' H1 → va_S A H0 H1 locs1 → W p l e (RM h0 mc0 ms0) s m args below meth c H1 locs1 cells slots Q (F0 m (pc + 3) ls (x :: rest))) : W p l e (RM h0 mc0 ms0) s m args below meth c H locs cells slots Q (F0 m pc ls (As.reverse ++ .ref (ad cd) :: rest)) :=
  Ct_V (C := C) hC hM q.1 (q.2.2.2.2.1.1 ▸ q.2.1) hlink q.2.2.1 q.2.2.2.1 q.2.2.2.2.1.2 ⟨hR, q.2.2.2.2.2⟩ (drec hK.1 hX hc he hcl) hX hK hn hl hrest hdg hf hS (fun _ h => h) (fun H1 locs1 hX1 _ _ hS1 => kk H1 locs1 hX1 hS1)
end AWR
theorem q_d10_table : VWv RX10 yX10_table cX10_table 3 (some .int) 2 := ⟨a_897, a_16, a_895, a_896, by decide +kernel, Nat.le_of_ble_eq_true rfl⟩
set_option maxRecDepth 100000 in
set_option maxHeartbeats 4000000 in
theorem c_d10_table {l : Launch} {D : va_G} {cA : Nat → ClassId} {A : Nat → Prop} {ad : Cd → Nat} {L : List Cd} {G : Gt} {nt nv x0 : Nat} (hfl : l.stackTraces = false) (hG : WF L G nt nv) (hE : EX L nt nv) (hx0 : ad (5, 0) = x0) {x1 : Int32} {x2 : Int32} {S : St} (hSX : SX S nt nv) {e0 : Nat} {r : Int32} {S' : St} {G' : Gt} {nt' nv' : Nat} (hf : d10_table G nt nv x1 x2 S = some (e0, r, S', G', nt', nv')) : CtX l D cA A yX10_table cX10_table 3 (some .int) 6 20 200 [.ref (ad (5, 0)), .int x1, .int x2] (fun H => DX D cA A ad L G S H ∧ ∀ q : Nat, H.size ≤ q → A q) e0 (some (.int r)) (AX D cA A x0 S' G' nt' nv') := by
  refine CtX_of (by decide +kernel) (Nat.le_of_ble_eq_true rfl) ?_
  intro p e s m args below meth c ls hC hr hlk htab hX hKX hTX hl
  obtain ⟨hX, hAs⟩ := hX
  have hx := hC.1
  have hb := hC.2.1
  have hS : va_S A s.heap s.heap [] := va_S.rf
  have hl : lv_has ls 3 [(0, .ref (ad (5, 0))), (1, .int x1), (2, .int x2)] := hl
  unfold d10_table at hf
  refine lv_iload_n hx hb dX10_table_0 rfl (lv_at hl 1 rfl) ?_
  refine lv_iconst (v := 1) hx hb dX10_table_1 (by decide) ?_
  refine lv_icmp_lt (tgt := 23) hx hb dX10_table_2 (by decide) (fun c11 => ?_) (fun c11 => ?_)
  · have hf := it_t c11 hf
    have hAX := AX_of hX hG hE hx0
    cases hf
    exact CtX_th (is := 46) (text := "columns or key out of range") hfl hC hlk htab hTX hAX (fun H1 q => hAX.kept q) hS thw_1 (by decide) ⟨by decide, rfl⟩ hl.1 dX10_table_23 dX10_table_26 dX10_table_27 dX10_table_29 dX10_table_32 (Nat.le_of_ble_eq_true rfl) (Nat.le_of_ble_eq_true rfl) (Nat.le_of_ble_eq_true rfl) (Nat.le_of_ble_eq_true rfl)
  · have hf := it_f c11 hf
    refine lv_iload_n hx hb dX10_table_5 rfl (lv_at hl 1 rfl) ?_
    refine lv_bipush (v := 63) hx hb dX10_table_6 (by decide) ?_
    refine lv_icmp_gt (tgt := 23) hx hb dX10_table_8 (by decide) (fun c12 => ?_) (fun c12 => ?_)
    · have hf := it_t c12 hf
      have hAX := AX_of hX hG hE hx0
      cases hf
      exact CtX_th (is := 46) (text := "columns or key out of range") hfl hC hlk htab hTX hAX (fun H1 q => hAX.kept q) hS thw_1 (by decide) ⟨by decide, rfl⟩ hl.1 dX10_table_23 dX10_table_26 dX10_table_27 dX10_table_29 dX10_table_32 (Nat.le_of_ble_eq_true rfl) (Nat.le_of_ble_eq_true rfl) (Nat.le_of_ble_eq_true rfl) (Nat.le_of_ble_eq_true rfl)
    · have hf := it_f c12 hf
      refine lv_iload_n hx hb dX10_table_11 rfl (lv_at hl 2 rfl) ?_
      refine lv_if_eq (tgt := 23) hx hb dX10_table_12 (by decide) (fun c13 => ?_) (fun c13 => ?_)
      · have hf := it_t c13 hf
        have hAX := AX_of hX hG hE hx0
        cases hf
        exact CtX_th (is := 46) (text := "columns or key out of range") hfl hC hlk htab hTX hAX (fun H1 q => hAX.kept q) hS thw_1 (by decide) ⟨by decide, rfl⟩ hl.1 dX10_table_23 dX10_table_26 dX10_table_27 dX10_table_29 dX10_table_32 (Nat.le_of_ble_eq_true rfl) (Nat.le_of_ble_eq_true rfl) (Nat.le_of_ble_eq_true rfl) (Nat.le_of_ble_eq_true rfl)
      · have hf := it_f c13 hf
        refine lv_iload_n hx hb dX10_table_15 rfl (lv_at hl 2 rfl) ?_
        refine lv_iload_n hx hb dX10_table_16 rfl (lv_at hl 1 rfl) ?_
        refine lv_iconst (v := (-1)) hx hb dX10_table_17 (by decide) ?_
        refine lv_ixor hx hb dX10_table_18 ?_
        refine lv_iand hx hb dX10_table_19 ?_
        refine lv_if_eq (tgt := 33) hx hb dX10_table_20 (by decide) (fun c14 => ?_) (fun c14 => ?_)
        · have hf := it_t c14 hf
          refine lv_aload_n hx hb dX10_table_33 rfl (lv_at hl 0 rfl) ?_
          refine dget (cd := (5, 0)) (ci := 8) (C := RX10) (T := TX10) (N := 9) (v := .int (S.1 42)) hx hb hC hKX.1 hX (hG.F 0 (by decide)) rfl rfl inX10 1 (by decide) a_107 (Or.inl rfl) rfl dX10_table_34 ?_
          refine lv_iconst (v := 3) hx hb dX10_table_37 (by decide) ?_
          refine lv_icmp_lt (tgt := 51) hx hb dX10_table_38 (by decide) (fun c15 => ?_) (fun c15 => ?_)
          · have hf := it_t c15 hf
            refine lv_aload_n hx hb dX10_table_51 rfl (lv_at hl 0 rfl) ?_
            refine dget (cd := (5, 0)) (ci := 8) (C := RX10) (T := TX10) (N := 9) (v := .ref (ad (5, 1))) hx hb hC hKX.1 hX (hG.F 0 (by decide)) rfl rfl inX10 0 (by decide) a_106 (Or.inl rfl) rfl dX10_table_52 ?_
            refine lv_aload_n hx hb dX10_table_55 rfl (lv_at hl 0 rfl) ?_
            refine dget (cd := (5, 0)) (ci := 8) (C := RX10) (T := TX10) (N := 9) (v := .int (S.1 42)) hx hb hC hKX.1 hX (hG.F 0 (by decide)) rfl rfl inX10 1 (by decide) a_107 (Or.inl rfl) rfl dX10_table_56 ?_
            refine va_new (ci := 5) (fs := [.int 0, .int 0, .null, .null, .null]) (C := RX6) (T := TX6) (N := 5) hx hb hC.2.2.2.2 (tU inX6) tyX6 tyX6_ok hC.2.2.2.1 (tA hC.2.2.2.2 a_44) (tA hC.2.2.2.2 a_900) (tA hC.2.2.2.2 a_25) hKX.1 hX.1 hX.2 hS hAs rfl dfX6 (Nat.le_of_ble_eq_true rfl) (Nat.le_of_ble_eq_true rfl) dX10_table_59 (fun q0 H hP hD hS => ?_)
            obtain ⟨hX, hPq, hfr, hAq⟩ := nwX hP hD
            refine lv_dup hx hb dX10_table_62 rfl ?_
            refine lv_iload_n hx hb dX10_table_63 rfl (lv_at hl 1 rfl) ?_
            refine lv_iload_n hx hb dX10_table_64 rfl (lv_at hl 2 rfl) ?_
            have hs9 := hS.1
            refine Ct_I (As := [.int x1, .int x2]) (rest := [.ref q0, .int (S.1 42), .ref (ad (5, 1))]) hC c_X6_init qi_X6 a_901 (Nat.le_of_ble_eq_true rfl) ⟨rfl, hPq⟩ hKX rfl hl.1 (Nat.le_of_ble_eq_true rfl) dX10_table_65 ⟨(Nat.le_of_ble_eq_true rfl), (Nat.le_of_ble_eq_true rfl)⟩ hS (nwA hAq (fun x hx => hAs x (Nat.le_trans hs9 hx))) (fun H1 locs hQ hz1 hk1 hS => ?_)
            obtain ⟨q1, q2, q3, q4, q5, q6, q7, q8, q9, q10, q11, q12, q13, q14, q15, hP1, hD1⟩ := hQ
            have hJ := jnC hX hfr hk1 (nwA hAq (fun x hx => hAs x (Nat.le_trans hs9 hx))) hP1 hD1
            have KT : ∀ (ad : Cd → Nat) (L : List Cd) (G : Gt) (S : St) (nt : Nat) (H : Heap) (locs : List Loc), WF L G nt nv → EX L nt nv → ad (5, 0) = x0 → DX D cA A ad L G S H → va_S A s.heap H locs → lv_has ls 3 [(0, .ref (ad (5, 0)))] → d10_tableT G nt nv S = some (e0, r, S', G', nt', nv') → W p l e (RM 6 20 200) s m args below meth c H locs (0 + 1 + 15) (0 + 5 + 103) (vx_MQ below (CtQX A e0 (some (.int r)) (AX D cA A x0 S' G' nt' nv')) (CtXX A e0 (AX D cA A x0 S' G' nt' nv')) args s 20 200 A) (F0 m 69 ls []) := by
              intro ad L G S nt H locs hG hE hx0 hX hS hl hf
              unfold d10_tableT at hf
              refine lv_aload_n hx hb dX10_table_69 rfl (lv_at hl 0 rfl) ?_
              refine lv_dup hx hb dX10_table_70 rfl ?_
              refine dget (cd := (5, 0)) (ci := 8) (C := RX10) (T := TX10) (N := 9) (v := .int (S.1 42)) hx hb hC hKX.1 hX (hG.F 0 (by decide)) rfl rfl inX10 1 (by decide) a_107 (Or.inl rfl) rfl dX10_table_71 ?_
              refine lv_iconst (v := 1) hx hb dX10_table_74 (by decide) ?_
              refine lv_iadd hx hb dX10_table_75 ?_
              refine dput (cd := (5, 0)) (ci := 8) (C := RX10) (T := TX10) (N := 9) (ty := .int) hx hb hC hKX.1 hX hS (hG.F 0 (by decide)) rfl rfl inX10 tyX10 tyX10_ok nmX10 1 (by decide) a_107 rfl rfl (by decide +kernel) rfl rfl (Nat.le_of_ble_eq_true rfl) (dset42 hG) dX10_table_76 (fun H locs hX hS => ?_)
              obtain ⟨S16, eS16, hf⟩ := lt_e hf
              rw [← eS16] at hX
              refine lv_aload_n hx hb dX10_table_79 rfl (lv_at hl 0 rfl) ?_
              refine dget (cd := (5, 0)) (ci := 8) (C := RX10) (T := TX10) (N := 9) (v := .int (S16.1 42)) hx hb hC hKX.1 hX (hG.F 0 (by decide)) rfl rfl inX10 1 (by decide) a_107 (Or.inl rfl) rfl dX10_table_80 ?_
              refine lv_iconst (v := 1) hx hb dX10_table_83 (by decide) ?_
              refine lv_isub hx hb dX10_table_84 ?_
              have hAX := AX_of hX hG hE hx0
              cases hf
              exact CtX_ri hx hb hr hlk hAX hS (Nat.le_of_ble_eq_true rfl) (Nat.le_of_ble_eq_true rfl) dX10_table_85
            obtain ⟨hn, hf⟩ := gd_e hf
            obtain ⟨ad1, L1, hX1, hG1, hE1, ho, hq⟩ := extT hG hE hSX hn hJ
            have e50 : ad1 (5, 0) = ad (5, 0) := ho (5, 0) (Or.inl ⟨rfl, by decide⟩)
            have e51 : ad1 (5, 1) = ad (5, 1) := ho (5, 1) (Or.inl ⟨rfl, by decide⟩)
            have hi : S.1 42 = nI nt := hSX.2.2.1
            have hj : (S.1 42).toNatClampNeg = nt := by rw [hi]; exact nI_clamp (by omega)
            have h56 : ((nTS S nt).1 56).toNatClampNeg = nt := by rw [show (nTS S nt).1 56 = S.1 56 from if_neg (by omega), hSX.1]; exact nI_clamp (by omega)
            refine W.eq (g2 := F0 m 68 ls [.ref (ad1 (2, nt)), .int (S.1 42), .ref (ad1 (5, 1))]) (by rw [hq, e51]) ?_
            refine dast56 (u := nt) hx hb hKX hX1 hS hG1 (Nat.lt_succ_self _) ⟨h56, rfl⟩ (by rw [hi]; exact vp_in_nI hn (by omega)) hj dX10_table_68 (fun H locs hX hS => ?_)
            exact KT ad1 L1 _ _ _ H locs hG1 hE1 (e50.trans hx0) hX hS (by rw [e50]; exact lv_sub hl [0] rfl) hf
          · have hf := it_f c15 hf
            have hAX := AX_of hX hG hE hx0
            cases hf
            exact CtX_th (is := 57) (text := "no more tables") hfl hC hlk htab hTX hAX (fun H1 q => hAX.kept q) hS thw_2 (by decide) ⟨by decide, rfl⟩ hl.1 dX10_table_41 dX10_table_44 dX10_table_45 dX10_table_47 dX10_table_50 (Nat.le_of_ble_eq_true rfl) (Nat.le_of_ble_eq_true rfl) (Nat.le_of_ble_eq_true rfl) (Nat.le_of_ble_eq_true rfl)
        · have hf := it_f c14 hf
          have hAX := AX_of hX hG hE hx0
          cases hf
          exact CtX_th (is := 46) (text := "columns or key out of range") hfl hC hlk htab hTX hAX (fun H1 q => hAX.kept q) hS thw_1 (by decide) ⟨by decide, rfl⟩ hl.1 dX10_table_23 dX10_table_26 dX10_table_27 dX10_table_29 dX10_table_32 (Nat.le_of_ble_eq_true rfl) (Nat.le_of_ble_eq_true rfl) (Nat.le_of_ble_eq_true rfl) (Nat.le_of_ble_eq_true rfl)

theorem q_d10_of : VWv RX10 yX10_of cX10_of 3 (some .int) 1 := ⟨a_868, a_16, a_866, a_867, by decide +kernel, Nat.le_of_ble_eq_true rfl⟩
set_option maxRecDepth 100000 in
set_option maxHeartbeats 4000000 in
theorem c_d10_of {l : Launch} {D : va_G} {cA : Nat → ClassId} {A : Nat → Prop} {ad : Cd → Nat} {L : List Cd} {G : Gt} {nt nv x0 : Nat} (hfl : l.stackTraces = false) (hG : WF L G nt nv) (hE : EX L nt nv) (hx0 : ad (5, 0) = x0) {x1 : Int32} {S : St} (hSX : SX S nt nv) {e0 : Nat} {r : Int32} {S' : St} {G' : Gt} {nt' nv' : Nat} (hf : d10_of G nt nv x1 S = some (e0, r, S', G', nt', nv')) : CtX l D cA A yX10_of cX10_of 3 (some .int) 6 20 200 [.ref (ad (5, 0)), .int x1] (fun H => DX D cA A ad L G S H ∧ ∀ q : Nat, H.size ≤ q → A q) e0 (some (.int r)) (AX D cA A x0 S' G' nt' nv') := by
  refine CtX_of (by decide +kernel) (Nat.le_of_ble_eq_true rfl) ?_
  intro p e s m args below meth c ls hC hr hlk htab hX hKX hTX hl
  obtain ⟨hX, hAs⟩ := hX
  have hx := hC.1
  have hb := hC.2.1
  have hS : va_S A s.heap s.heap [] := va_S.rf
  have hl : lv_has ls 3 [(0, .ref (ad (5, 0))), (1, .int x1)] := hl
  unfold d10_of at hf
  refine lv_aload_n hx hb dX10_of_0 rfl (lv_at hl 0 rfl) ?_
  refine lv_iload_n hx hb dX10_of_1 rfl (lv_at hl 1 rfl) ?_
  obtain ⟨z11, hz11, hf⟩ := cb_e hf
  refine dVx (cd := (5, 0)) (As := [.int x1]) (rest := []) hC (c_d10_tableAt hG hz11) q_d10_tableAt a_225 (Nat.le_of_ble_eq_true rfl) hX hKX (hG.F 0 (by decide)) rfl rfl rfl hl.1 (Nat.le_of_ble_eq_true rfl) dX10_of_2 hS (fun H locs hX hS => ?_)
  refine lv_astoreO_n (lv' := [(2, rO ad 2 z11), (0, .ref (ad (5, 0))), (1, .int x1)]) hx hb dX10_of_5 rfl hl (by decide) rfl (fun ls hl => ?_)
  refine lv_aloadO_n hx hb dX10_of_6 rfl (lv_at hl 0 rfl) ?_
  rcases oc_e hf with ⟨ho, hf⟩ | ⟨u13, ho, hf⟩
  · subst ho
    have hl : lv_has ls 3 [(2, .null), (0, .ref (ad (5, 0))), (1, .int x1)] := hl
    refine lv_ifnonnullN hx hb dX10_of_7 ?_
    have hAX := AX_of hX hG hE hx0
    cases hf
    exact CtX_th (is := 69) (text := "no such table") hfl hC hlk htab hTX hAX (fun H1 q => hAX.kept q) hS thw_3 (by decide) ⟨by decide, rfl⟩ hl.1 dX10_of_10 dX10_of_13 dX10_of_14 dX10_of_16 dX10_of_19 (Nat.le_of_ble_eq_true rfl) (Nat.le_of_ble_eq_true rfl) (Nat.le_of_ble_eq_true rfl) (Nat.le_of_ble_eq_true rfl)
  · subst ho
    obtain ⟨h14, hf⟩ := gd_e hf
    have hl : lv_has ls 3 [(2, .ref (ad (2, u13))), (0, .ref (ad (5, 0))), (1, .int x1)] := hl
    refine lv_ifnonnull (x := ad (2, u13)) (tgt := 20) hx hb dX10_of_7 (by decide) ?_
    refine lv_aload_n hx hb dX10_of_20 rfl (lv_at hl 1 rfl) ?_
    refine dget (cd := (5, 0)) (ci := 8) (C := RX10) (T := TX10) (N := 9) (v := .int (S.1 43)) hx hb hC hKX.1 hX (hG.F 0 (by decide)) rfl rfl inX10 3 (by decide) a_109 (Or.inl rfl) rfl dX10_of_21 ?_
    refine lv_bipush (v := 10) hx hb dX10_of_24 (by decide) ?_
    refine lv_icmp_lt (tgt := 39) hx hb dX10_of_26 (by decide) (fun c15 => ?_) (fun c15 => ?_)
    · have hf := it_t c15 hf
      refine lv_aload_n hx hb dX10_of_39 rfl (lv_at hl 1 rfl) ?_
      refine va_new (ci := 6) (fs := [.int 0, .int 0, .int 0, .int 0, .null, .null, .null, .null, .null]) (C := RX7) (T := TX7) (N := 9) hx hb hC.2.2.2.2 (tU inX7) tyX7 tyX7_ok hC.2.2.2.1 (tA hC.2.2.2.2 a_870) (tA hC.2.2.2.2 a_871) (tA hC.2.2.2.2 a_34) hKX.1 hX.1 hX.2 hS hAs rfl dfX7 (Nat.le_of_ble_eq_true rfl) (Nat.le_of_ble_eq_true rfl) dX10_of_40 (fun q0 H hP hD hS => ?_)
      obtain ⟨hX, hPq, hfr, hAq⟩ := nwX hP hD
      refine lv_dup hx hb dX10_of_43 rfl ?_
      refine lv_aload_n hx hb dX10_of_44 rfl (lv_at hl 1 rfl) ?_
      refine dget (cd := (5, 0)) (ci := 8) (C := RX10) (T := TX10) (N := 9) (v := .int (S.1 43)) hx hb hC hKX.1 hX (hG.F 0 (by decide)) rfl rfl inX10 3 (by decide) a_109 (Or.inl rfl) rfl dX10_of_45 ?_
      refine lv_aload_n hx hb dX10_of_48 rfl (lv_at hl 0 rfl) ?_
      refine lv_iconst (v := 1) hx hb dX10_of_49 (by decide) ?_
      refine lv_iload_n hx hb dX10_of_50 rfl (lv_at hl 2 rfl) ?_
      refine lv_ishl hx hb dX10_of_51 ?_
      have hs9 := hS.1
      refine Ct_I (As := [.int (S.1 43), .ref (ad (2, u13)), .int (1 <<< (x1 &&& 31))]) (rest := [.ref q0, .ref (ad (5, 0))]) hC (c_X7_init hG hfr h14) qi_X7 a_872 (Nat.le_of_ble_eq_true rfl) ⟨rfl, hPq, hX⟩ hKX rfl hl.1 (Nat.le_of_ble_eq_true rfl) dX10_of_52 ⟨(Nat.le_of_ble_eq_true rfl), (Nat.le_of_ble_eq_true rfl)⟩ hS (nwA hAq (fun x hx => hAs x (Nat.le_trans hs9 hx))) (fun H1 locs hQ hz1 hk1 hS => ?_)
      obtain ⟨q1, q2, q3, q4, hP1, hD1⟩ := hQ
      have hJ := jnC hX hfr hk1 (nwA hAq (fun x hx => hAs x (Nat.le_trans hs9 hx))) hP1 hD1
      obtain ⟨hn, hf⟩ := gd_e hf
      obtain ⟨z9, S9, hz9, hf⟩ := cb2_e hf
      obtain ⟨ad1, L1, hX1, hG1, hE1, ho, hq⟩ := extV (g := gL [(S.1 43), (G (20 + u13) 0), (G (20 + u13) 1), (1 <<< (x1 &&& 31)), -1, -1, 6, 0, 0, 0, 0, nI u13]) hG hE hSX hn hJ (nv_6 hG h14) (nw_6 h14)
      have e50 : ad1 (5, 0) = ad (5, 0) := ho (5, 0) (Or.inl ⟨rfl, by decide⟩)
      cases hf
      refine W.eq (g2 := F0 m 55 ls [.ref (ad1 (4, nv)), .ref (ad1 (5, 0))]) (by rw [hq, e50]) ?_
      refine dVxg (cd := (5, 0)) (As := [.ref (ad1 (4, nv))]) (rest := []) hC (c_d10_keepView hG1 (Nat.lt_succ_self _) hz9) q_d10_keepView a_777 (Nat.le_of_ble_eq_true rfl) hX1 hKX (hG1.F 0 (by decide)) rfl rfl rfl hl.1 (Nat.le_of_ble_eq_true rfl) dX10_of_55 ⟨(Nat.le_of_ble_eq_true rfl), (Nat.le_of_ble_eq_true rfl)⟩ hS (fun H locs hX hS => ?_)
      exact CtX_ri hx hb hr hlk ⟨ad1, L1, hX, hG1, hE1, e50.trans hx0⟩ hS (Nat.le_of_ble_eq_true rfl) (Nat.le_of_ble_eq_true rfl) dX10_of_58
    · have hf := it_f c15 hf
      have hAX := AX_of hX hG hE hx0
      cases hf
      exact CtX_th (is := 120) (text := "no more views") hfl hC hlk htab hTX hAX (fun H1 q => hAX.kept q) hS thw_2 (by decide) ⟨by decide, rfl⟩ hl.1 dX10_of_29 dX10_of_32 dX10_of_33 dX10_of_35 dX10_of_38 (Nat.le_of_ble_eq_true rfl) (Nat.le_of_ble_eq_true rfl) (Nat.le_of_ble_eq_true rfl) (Nat.le_of_ble_eq_true rfl)

theorem q_d10_select : VWv RX10 yX10_select cX10_select 6 (some .int) 4 := ⟨a_676, a_16, a_674, a_675, by decide +kernel, Nat.le_of_ble_eq_true rfl⟩
set_option maxRecDepth 100000 in
set_option maxHeartbeats 4000000 in
theorem c_d10_select {l : Launch} {D : va_G} {cA : Nat → ClassId} {A : Nat → Prop} {ad : Cd → Nat} {L : List Cd} {G : Gt} {nt nv x0 : Nat} (hfl : l.stackTraces = false) (hG : WF L G nt nv) (hE : EX L nt nv) (hx0 : ad (5, 0) = x0) {x1 : Int32} {x2 : Int32} {x3 : Int32} {x4 : Int32} (hz : x4 = 0 ∨ x4 = 1) {S : St} (hSX : SX S nt nv) {e0 : Nat} {r : Int32} {S' : St} {G' : Gt} {nt' nv' : Nat} (hf : d10_select G nt nv x1 x2 x3 x4 S = some (e0, r, S', G', nt', nv')) : CtX l D cA A yX10_select cX10_select 6 (some .int) 6 20 200 [.ref (ad (5, 0)), .int x1, .int x2, .int x3, .int x4] (fun H => DX D cA A ad L G S H ∧ ∀ q : Nat, H.size ≤ q → A q) e0 (some (.int r)) (AX D cA A x0 S' G' nt' nv') := by
  refine CtX_of (by decide +kernel) (Nat.le_of_ble_eq_true rfl) ?_
  intro p e s m args below meth c ls hC hr hlk htab hX hKX hTX hl
  obtain ⟨hX, hAs⟩ := hX
  have hx := hC.1
  have hb := hC.2.1
  have hS : va_S A s.heap s.heap [] := va_S.rf
  have hl : lv_has ls 6 [(0, .ref (ad (5, 0))), (1, .int x1), (2, .int x2), (3, .int x3), (4, .int x4)] := hl
  unfold d10_select at hf
  refine lv_aload_n hx hb dX10_select_0 rfl (lv_at hl 0 rfl) ?_
  refine lv_iload_n hx hb dX10_select_1 rfl (lv_at hl 1 rfl) ?_
  obtain ⟨z11, hz11, hf⟩ := cb_e hf
  refine dVx (cd := (5, 0)) (As := [.int x1]) (rest := []) hC (c_d10_viewAt hG hz11) q_d10_viewAt a_633 (Nat.le_of_ble_eq_true rfl) hX hKX (hG.F 0 (by decide)) rfl rfl rfl hl.1 (Nat.le_of_ble_eq_true rfl) dX10_select_2 hS (fun H locs hX hS => ?_)
  refine lv_astoreO (lv' := [(5, rO ad 4 z11), (0, .ref (ad (5, 0))), (1, .int x1), (2, .int x2), (3, .int x3), (4, .int x4)]) hx hb dX10_select_5 hl (by decide) rfl (fun ls hl => ?_)
  refine lv_aloadO hx hb dX10_select_7 (lv_at hl 0 rfl) ?_
  rcases oc_e hf with ⟨ho, hf⟩ | ⟨u13, ho, hf⟩
  · subst ho
    have hl : lv_has ls 6 [(5, .null), (0, .ref (ad (5, 0))), (1, .int x1), (2, .int x2), (3, .int x3), (4, .int x4)] := hl
    refine lv_ifnonnullN hx hb dX10_select_9 ?_
    have hAX := AX_of hX hG hE hx0
    cases hf
    exact CtX_th (is := 135) (text := "no such view") hfl hC hlk htab hTX hAX (fun H1 q => hAX.kept q) hS thw_3 (by decide) ⟨by decide, rfl⟩ hl.1 dX10_select_12 dX10_select_15 dX10_select_16 dX10_select_18 dX10_select_21 (Nat.le_of_ble_eq_true rfl) (Nat.le_of_ble_eq_true rfl) (Nat.le_of_ble_eq_true rfl) (Nat.le_of_ble_eq_true rfl)
  · subst ho
    obtain ⟨h14, hf⟩ := gd_e hf
    have hl : lv_has ls 6 [(5, .ref (ad (4, u13))), (0, .ref (ad (5, 0))), (1, .int x1), (2, .int x2), (3, .int x3), (4, .int x4)] := hl
    refine lv_ifnonnull (x := ad (4, u13)) (tgt := 22) hx hb dX10_select_9 (by decide) ?_
    refine lv_iload_n hx hb dX10_select_22 rfl (lv_at hl 3 rfl) ?_
    refine lv_aload hx hb dX10_select_23 (lv_at hl 0 rfl) ?_
    refine dgetV (v := u13) (k := 1) (x := .int (G u13 1)) hx hb hC hKX.1 hX hG h14 (by decide) a_706 (Or.inl rfl) rfl dX10_select_25 ?_
    obtain ⟨z15, hz15, hf⟩ := cb_e hf
    refine dSx (As := [.int x2, .int (G u13 1)]) (rest := []) hC (c_d1_isColumn hG hz15) q_d1_isColumn a_569 (Nat.le_of_ble_eq_true rfl) hX hKX rfl hl.1 (Nat.le_of_ble_eq_true rfl) dX10_select_28 hS (fun H locs hX hS => ?_)
    refine lv_if_eq (tgt := 41) hx hb dX10_select_31 (by decide) (fun c17 => ?_) (fun c17 => ?_)
    · have hf := it_t c17 hf
      have hAX := AX_of hX hG hE hx0
      cases hf
      exact CtX_th (is := 144) (text := "column or value out of range") hfl hC hlk htab hTX hAX (fun H1 q => hAX.kept q) hS thw_1 (by decide) ⟨by decide, rfl⟩ hl.1 dX10_select_41 dX10_select_44 dX10_select_45 dX10_select_47 dX10_select_50 (Nat.le_of_ble_eq_true rfl) (Nat.le_of_ble_eq_true rfl) (Nat.le_of_ble_eq_true rfl) (Nat.le_of_ble_eq_true rfl)
    · have hf := it_f c17 hf
      refine lv_iload_n hx hb dX10_select_34 rfl (lv_at hl 4 rfl) ?_
      obtain ⟨z18, hz18, hf⟩ := cb_e hf
      refine dSx (As := [.int x3]) (rest := []) hC (c_d1_isValue hG hz18) q_d1_isValue a_572 (Nat.le_of_ble_eq_true rfl) hX hKX rfl hl.1 (Nat.le_of_ble_eq_true rfl) dX10_select_35 hS (fun H locs hX hS => ?_)
      refine lv_if_ne (tgt := 51) hx hb dX10_select_38 (by decide) (fun c20 => ?_) (fun c20 => ?_)
      · have hf := it_f c20 hf
        refine lv_aload_n hx hb dX10_select_51 rfl (lv_at hl 1 rfl) ?_
        refine dget (cd := (5, 0)) (ci := 8) (C := RX10) (T := TX10) (N := 9) (v := .int (S.1 43)) hx hb hC hKX.1 hX (hG.F 0 (by decide)) rfl rfl inX10 3 (by decide) a_109 (Or.inl rfl) rfl dX10_select_52 ?_
        refine lv_bipush (v := 10) hx hb dX10_select_55 (by decide) ?_
        refine lv_icmp_lt (tgt := 70) hx hb dX10_select_57 (by decide) (fun c21 => ?_) (fun c21 => ?_)
        · have hf := it_t c21 hf
          refine lv_aload_n hx hb dX10_select_70 rfl (lv_at hl 1 rfl) ?_
          refine va_new (ci := 4) (fs := [.int 0, .int 0, .int 0, .int 0, .null, .null, .null, .null, .null, .int 0, .int 0, .int 0]) (C := RX5) (T := TX5) (N := 12) hx hb hC.2.2.2.2 (tU inX5) tyX5 tyX5_ok hC.2.2.2.1 (tA hC.2.2.2.2 a_678) (tA hC.2.2.2.2 a_679) (tA hC.2.2.2.2 a_31) hKX.1 hX.1 hX.2 hS hAs rfl dfX5 (Nat.le_of_ble_eq_true rfl) (Nat.le_of_ble_eq_true rfl) dX10_select_71 (fun q0 H hP hD hS => ?_)
          obtain ⟨hX, hPq, hfr, hAq⟩ := nwX hP hD
          refine lv_dup hx hb dX10_select_74 rfl ?_
          refine lv_aload_n hx hb dX10_select_75 rfl (lv_at hl 1 rfl) ?_
          refine dget (cd := (5, 0)) (ci := 8) (C := RX10) (T := TX10) (N := 9) (v := .int (S.1 43)) hx hb hC hKX.1 hX (hG.F 0 (by decide)) rfl rfl inX10 3 (by decide) a_109 (Or.inl rfl) rfl dX10_select_76 ?_
          refine lv_aload hx hb dX10_select_79 (lv_at hl 0 rfl) ?_
          refine lv_iload_n hx hb dX10_select_81 rfl (lv_at hl 3 rfl) ?_
          refine lv_iload_n hx hb dX10_select_82 rfl (lv_at hl 4 rfl) ?_
          refine lv_iload hx hb dX10_select_83 (lv_at hl 5 rfl) ?_
          have hs9 := hS.1
          refine Ct_I (As := [.int (S.1 43), .ref (ad (4, u13)), .int x2, .int x3, .int x4]) (rest := [.ref q0, .ref (ad (5, 0))]) hC (c_X5_init hG hfr h14 hz) qi_X5 a_680 (Nat.le_of_ble_eq_true rfl) ⟨rfl, hPq, hX⟩ hKX rfl hl.1 (Nat.le_of_ble_eq_true rfl) dX10_select_85 ⟨(Nat.le_of_ble_eq_true rfl), (Nat.le_of_ble_eq_true rfl)⟩ hS (nwA hAq (fun x hx => hAs x (Nat.le_trans hs9 hx))) (fun H1 locs hQ hz1 hk1 hS => ?_)
          obtain ⟨q1, q2, q3, q4, hP1, hD1⟩ := hQ
          have hJ := jnC hX hfr hk1 (nwA hAq (fun x hx => hAs x (Nat.le_trans hs9 hx))) hP1 hD1
          obtain ⟨hn, hf⟩ := gd_e hf
          obtain ⟨z9, S9, hz9, hf⟩ := cb2_e hf
          obtain ⟨ad1, L1, hX1, hG1, hE1, ho, hq⟩ := extV (g := gL [(S.1 43), (G u13 1), (G u13 2), (G u13 3), nI u13, -1, 4, x2, x3, x4]) hG hE hSX hn hJ (nv_4 hG h14) (nw_4 h14)
          have e50 : ad1 (5, 0) = ad (5, 0) := ho (5, 0) (Or.inl ⟨rfl, by decide⟩)
          cases hf
          refine W.eq (g2 := F0 m 88 ls [.ref (ad1 (4, nv)), .ref (ad1 (5, 0))]) (by rw [hq, e50]) ?_
          refine dVxg (cd := (5, 0)) (As := [.ref (ad1 (4, nv))]) (rest := []) hC (c_d10_keepView hG1 (Nat.lt_succ_self _) hz9) q_d10_keepView a_777 (Nat.le_of_ble_eq_true rfl) hX1 hKX (hG1.F 0 (by decide)) rfl rfl rfl hl.1 (Nat.le_of_ble_eq_true rfl) dX10_select_88 ⟨(Nat.le_of_ble_eq_true rfl), (Nat.le_of_ble_eq_true rfl)⟩ hS (fun H locs hX hS => ?_)
          exact CtX_ri hx hb hr hlk ⟨ad1, L1, hX, hG1, hE1, e50.trans hx0⟩ hS (Nat.le_of_ble_eq_true rfl) (Nat.le_of_ble_eq_true rfl) dX10_select_91
        · have hf := it_f c21 hf
          have hAX := AX_of hX hG hE hx0
          cases hf
          exact CtX_th (is := 120) (text := "no more views") hfl hC hlk htab hTX hAX (fun H1 q => hAX.kept q) hS thw_2 (by decide) ⟨by decide, rfl⟩ hl.1 dX10_select_60 dX10_select_63 dX10_select_64 dX10_select_66 dX10_select_69 (Nat.le_of_ble_eq_true rfl) (Nat.le_of_ble_eq_true rfl) (Nat.le_of_ble_eq_true rfl) (Nat.le_of_ble_eq_true rfl)
      · have hf := it_t c20 hf
        have hAX := AX_of hX hG hE hx0
        cases hf
        exact CtX_th (is := 144) (text := "column or value out of range") hfl hC hlk htab hTX hAX (fun H1 q => hAX.kept q) hS thw_1 (by decide) ⟨by decide, rfl⟩ hl.1 dX10_select_41 dX10_select_44 dX10_select_45 dX10_select_47 dX10_select_50 (Nat.le_of_ble_eq_true rfl) (Nat.le_of_ble_eq_true rfl) (Nat.le_of_ble_eq_true rfl) (Nat.le_of_ble_eq_true rfl)

theorem q_d10_drop : VWv RX10 yX10_drop cX10_drop 5 (some .int) 3 := ⟨a_806, a_16, a_804, a_805, by decide +kernel, Nat.le_of_ble_eq_true rfl⟩
set_option maxRecDepth 100000 in
set_option maxHeartbeats 4000000 in
theorem c_d10_drop {l : Launch} {D : va_G} {cA : Nat → ClassId} {A : Nat → Prop} {ad : Cd → Nat} {L : List Cd} {G : Gt} {nt nv x0 : Nat} (hfl : l.stackTraces = false) (hG : WF L G nt nv) (hE : EX L nt nv) (hx0 : ad (5, 0) = x0) {x1 : Int32} {x2 : Int32} {x3 : Int32} {S : St} (hSX : SX S nt nv) {e0 : Nat} {r : Int32} {S' : St} {G' : Gt} {nt' nv' : Nat} (hf : d10_drop G nt nv x1 x2 x3 S = some (e0, r, S', G', nt', nv')) : CtX l D cA A yX10_drop cX10_drop 5 (some .int) 6 20 200 [.ref (ad (5, 0)), .int x1, .int x2, .int x3] (fun H => DX D cA A ad L G S H ∧ ∀ q : Nat, H.size ≤ q → A q) e0 (some (.int r)) (AX D cA A x0 S' G' nt' nv') := by
  refine CtX_of (by decide +kernel) (Nat.le_of_ble_eq_true rfl) ?_
  intro p e s m args below meth c ls hC hr hlk htab hX hKX hTX hl
  obtain ⟨hX, hAs⟩ := hX
  have hx := hC.1
  have hb := hC.2.1
  have hS : va_S A s.heap s.heap [] := va_S.rf
  have hl : lv_has ls 5 [(0, .ref (ad (5, 0))), (1, .int x1), (2, .int x2), (3, .int x3)] := hl
  unfold d10_drop at hf
  refine lv_aload_n hx hb dX10_drop_0 rfl (lv_at hl 0 rfl) ?_
  refine lv_iload_n hx hb dX10_drop_1 rfl (lv_at hl 1 rfl) ?_
  obtain ⟨z11, hz11, hf⟩ := cb_e hf
  refine dVx (cd := (5, 0)) (As := [.int x1]) (rest := []) hC (c_d10_viewAt hG hz11) q_d10_viewAt a_633 (Nat.le_of_ble_eq_true rfl) hX hKX (hG.F 0 (by decide)) rfl rfl rfl hl.1 (Nat.le_of_ble_eq_true rfl) dX10_drop_2 hS (fun H locs hX hS => ?_)
  refine lv_astoreO (lv' := [(4, rO ad 4 z11), (0, .ref (ad (5, 0))), (1, .int x1), (2, .int x2), (3, .int x3)]) hx hb dX10_drop_5 hl (by decide) rfl (fun ls hl => ?_)
  refine lv_aloadO hx hb dX10_drop_7 (lv_at hl 0 rfl) ?_
  rcases oc_e hf with ⟨ho, hf⟩ | ⟨u13, ho, hf⟩
  · subst ho
    have hl : lv_has ls 5 [(4, .null), (0, .ref (ad (5, 0))), (1, .int x1), (2, .int x2), (3, .int x3)] := hl
    refine lv_ifnonnullN hx hb dX10_drop_9 ?_
    have hAX := AX_of hX hG hE hx0
    cases hf
    exact CtX_th (is := 135) (text := "no such view") hfl hC hlk htab hTX hAX (fun H1 q => hAX.kept q) hS thw_3 (by decide) ⟨by decide, rfl⟩ hl.1 dX10_drop_12 dX10_drop_15 dX10_drop_16 dX10_drop_18 dX10_drop_21 (Nat.le_of_ble_eq_true rfl) (Nat.le_of_ble_eq_true rfl) (Nat.le_of_ble_eq_true rfl) (Nat.le_of_ble_eq_true rfl)
  · subst ho
    obtain ⟨h14, hf⟩ := gd_e hf
    have hl : lv_has ls 5 [(4, .ref (ad (4, u13))), (0, .ref (ad (5, 0))), (1, .int x1), (2, .int x2), (3, .int x3)] := hl
    refine lv_ifnonnull (x := ad (4, u13)) (tgt := 22) hx hb dX10_drop_9 (by decide) ?_
    refine lv_iload_n hx hb dX10_drop_22 rfl (lv_at hl 3 rfl) ?_
    refine lv_aload hx hb dX10_drop_23 (lv_at hl 0 rfl) ?_
    refine dgetV (v := u13) (k := 1) (x := .int (G u13 1)) hx hb hC hKX.1 hX hG h14 (by decide) a_706 (Or.inl rfl) rfl dX10_drop_25 ?_
    refine lv_aload hx hb dX10_drop_28 (lv_at hl 0 rfl) ?_
    refine dgetV (v := u13) (k := 2) (x := .int (G u13 2)) hx hb hC hKX.1 hX hG h14 (by decide) a_714 (Or.inl rfl) rfl dX10_drop_30 ?_
    refine lv_iconst (v := (-1)) hx hb dX10_drop_33 (by decide) ?_
    refine lv_ixor hx hb dX10_drop_34 ?_
    refine lv_iand hx hb dX10_drop_35 ?_
    obtain ⟨z15, hz15, hf⟩ := cb_e hf
    refine dSx (As := [.int x2, .int ((G u13 1) &&& ((G u13 2) ^^^ (-1)))]) (rest := []) hC (c_d1_isColumn hG hz15) q_d1_isColumn a_569 (Nat.le_of_ble_eq_true rfl) hX hKX rfl hl.1 (Nat.le_of_ble_eq_true rfl) dX10_drop_36 hS (fun H locs hX hS => ?_)
    refine lv_if_eq (tgt := 49) hx hb dX10_drop_39 (by decide) (fun c17 => ?_) (fun c17 => ?_)
    · have hf := it_t c17 hf
      have hAX := AX_of hX hG hE hx0
      cases hf
      exact CtX_th (is := 144) (text := "column or value out of range") hfl hC hlk htab hTX hAX (fun H1 q => hAX.kept q) hS thw_1 (by decide) ⟨by decide, rfl⟩ hl.1 dX10_drop_49 dX10_drop_52 dX10_drop_53 dX10_drop_55 dX10_drop_58 (Nat.le_of_ble_eq_true rfl) (Nat.le_of_ble_eq_true rfl) (Nat.le_of_ble_eq_true rfl) (Nat.le_of_ble_eq_true rfl)
    · have hf := it_f c17 hf
      refine lv_iload_n hx hb dX10_drop_42 rfl (lv_at hl 4 rfl) ?_
      obtain ⟨z18, hz18, hf⟩ := cb_e hf
      refine dSx (As := [.int x3]) (rest := []) hC (c_d1_isValue hG hz18) q_d1_isValue a_572 (Nat.le_of_ble_eq_true rfl) hX hKX rfl hl.1 (Nat.le_of_ble_eq_true rfl) dX10_drop_43 hS (fun H locs hX hS => ?_)
      refine lv_if_ne (tgt := 59) hx hb dX10_drop_46 (by decide) (fun c20 => ?_) (fun c20 => ?_)
      · have hf := it_f c20 hf
        refine lv_aload_n hx hb dX10_drop_59 rfl (lv_at hl 1 rfl) ?_
        refine dget (cd := (5, 0)) (ci := 8) (C := RX10) (T := TX10) (N := 9) (v := .int (S.1 43)) hx hb hC hKX.1 hX (hG.F 0 (by decide)) rfl rfl inX10 3 (by decide) a_109 (Or.inl rfl) rfl dX10_drop_60 ?_
        refine lv_bipush (v := 10) hx hb dX10_drop_63 (by decide) ?_
        refine lv_icmp_lt (tgt := 78) hx hb dX10_drop_65 (by decide) (fun c21 => ?_) (fun c21 => ?_)
        · have hf := it_t c21 hf
          refine lv_aload_n hx hb dX10_drop_78 rfl (lv_at hl 1 rfl) ?_
          refine va_new (ci := 1) (fs := [.int 0, .int 0, .int 0, .int 0, .null, .null, .null, .null, .null, .int 0, .int 0]) (C := RX2) (T := TX2) (N := 11) hx hb hC.2.2.2.2 (tU inX2) tyX2 tyX2_ok hC.2.2.2.1 (tA hC.2.2.2.2 a_807) (tA hC.2.2.2.2 a_319) (tA hC.2.2.2.2 a_32) hKX.1 hX.1 hX.2 hS hAs rfl dfX2 (Nat.le_of_ble_eq_true rfl) (Nat.le_of_ble_eq_true rfl) dX10_drop_79 (fun q0 H hP hD hS => ?_)
          obtain ⟨hX, hPq, hfr, hAq⟩ := nwX hP hD
          refine lv_dup hx hb dX10_drop_82 rfl ?_
          refine lv_aload_n hx hb dX10_drop_83 rfl (lv_at hl 1 rfl) ?_
          refine dget (cd := (5, 0)) (ci := 8) (C := RX10) (T := TX10) (N := 9) (v := .int (S.1 43)) hx hb hC hKX.1 hX (hG.F 0 (by decide)) rfl rfl inX10 3 (by decide) a_109 (Or.inl rfl) rfl dX10_drop_84 ?_
          refine lv_aload hx hb dX10_drop_87 (lv_at hl 0 rfl) ?_
          refine lv_iload_n hx hb dX10_drop_89 rfl (lv_at hl 3 rfl) ?_
          refine lv_iload_n hx hb dX10_drop_90 rfl (lv_at hl 4 rfl) ?_
          have hs9 := hS.1
          refine Ct_I (As := [.int (S.1 43), .ref (ad (4, u13)), .int x2, .int x3]) (rest := [.ref q0, .ref (ad (5, 0))]) hC (c_X2_init hG hfr h14) qi_X2 a_808 (Nat.le_of_ble_eq_true rfl) ⟨rfl, hPq, hX⟩ hKX rfl hl.1 (Nat.le_of_ble_eq_true rfl) dX10_drop_91 ⟨(Nat.le_of_ble_eq_true rfl), (Nat.le_of_ble_eq_true rfl)⟩ hS (nwA hAq (fun x hx => hAs x (Nat.le_trans hs9 hx))) (fun H1 locs hQ hz1 hk1 hS => ?_)
          obtain ⟨q1, q2, q3, q4, hP1, hD1⟩ := hQ
          have hJ := jnC hX hfr hk1 (nwA hAq (fun x hx => hAs x (Nat.le_trans hs9 hx))) hP1 hD1
          obtain ⟨hn, hf⟩ := gd_e hf
          obtain ⟨z9, S9, hz9, hf⟩ := cb2_e hf
          obtain ⟨ad1, L1, hX1, hG1, hE1, ho, hq⟩ := extV (g := gL [(S.1 43), (G u13 1 &&& ((1 <<< (x2 &&& 31)) ^^^ (-1))), (G u13 2), (G u13 3), nI u13, -1, 1, x2, x3]) hG hE hSX hn hJ (nv_1 hG h14) (nw_1 h14)
          have e50 : ad1 (5, 0) = ad (5, 0) := ho (5, 0) (Or.inl ⟨rfl, by decide⟩)
          cases hf
          refine W.eq (g2 := F0 m 94 ls [.ref (ad1 (4, nv)), .ref (ad1 (5, 0))]) (by rw [hq, e50]) ?_
          refine dVxg (cd := (5, 0)) (As := [.ref (ad1 (4, nv))]) (rest := []) hC (c_d10_keepView hG1 (Nat.lt_succ_self _) hz9) q_d10_keepView a_777 (Nat.le_of_ble_eq_true rfl) hX1 hKX (hG1.F 0 (by decide)) rfl rfl rfl hl.1 (Nat.le_of_ble_eq_true rfl) dX10_drop_94 ⟨(Nat.le_of_ble_eq_true rfl), (Nat.le_of_ble_eq_true rfl)⟩ hS (fun H locs hX hS => ?_)
          exact CtX_ri hx hb hr hlk ⟨ad1, L1, hX, hG1, hE1, e50.trans hx0⟩ hS (Nat.le_of_ble_eq_true rfl) (Nat.le_of_ble_eq_true rfl) dX10_drop_97
        · have hf := it_f c21 hf
          have hAX := AX_of hX hG hE hx0
          cases hf
          exact CtX_th (is := 120) (text := "no more views") hfl hC hlk htab hTX hAX (fun H1 q => hAX.kept q) hS thw_2 (by decide) ⟨by decide, rfl⟩ hl.1 dX10_drop_68 dX10_drop_71 dX10_drop_72 dX10_drop_74 dX10_drop_77 (Nat.le_of_ble_eq_true rfl) (Nat.le_of_ble_eq_true rfl) (Nat.le_of_ble_eq_true rfl) (Nat.le_of_ble_eq_true rfl)
      · have hf := it_t c20 hf
        have hAX := AX_of hX hG hE hx0
        cases hf
        exact CtX_th (is := 144) (text := "column or value out of range") hfl hC hlk htab hTX hAX (fun H1 q => hAX.kept q) hS thw_1 (by decide) ⟨by decide, rfl⟩ hl.1 dX10_drop_49 dX10_drop_52 dX10_drop_53 dX10_drop_55 dX10_drop_58 (Nat.le_of_ble_eq_true rfl) (Nat.le_of_ble_eq_true rfl) (Nat.le_of_ble_eq_true rfl) (Nat.le_of_ble_eq_true rfl)

theorem q_d10_join : VWv RX10 yX10_join cX10_join 5 (some .int) 2 := ⟨a_836, a_16, a_834, a_835, by decide +kernel, Nat.le_of_ble_eq_true rfl⟩
set_option maxRecDepth 100000 in
set_option maxHeartbeats 4000000 in
theorem c_d10_join {l : Launch} {D : va_G} {cA : Nat → ClassId} {A : Nat → Prop} {ad : Cd → Nat} {L : List Cd} {G : Gt} {nt nv x0 : Nat} (hfl : l.stackTraces = false) (hG : WF L G nt nv) (hE : EX L nt nv) (hx0 : ad (5, 0) = x0) {x1 : Int32} {x2 : Int32} {S : St} (hSX : SX S nt nv) {e0 : Nat} {r : Int32} {S' : St} {G' : Gt} {nt' nv' : Nat} (hf : d10_join G nt nv x1 x2 S = some (e0, r, S', G', nt', nv')) : CtX l D cA A yX10_join cX10_join 5 (some .int) 6 20 200 [.ref (ad (5, 0)), .int x1, .int x2] (fun H => DX D cA A ad L G S H ∧ ∀ q : Nat, H.size ≤ q → A q) e0 (some (.int r)) (AX D cA A x0 S' G' nt' nv') := by
  refine CtX_of (by decide +kernel) (Nat.le_of_ble_eq_true rfl) ?_
  intro p e s m args below meth c ls hC hr hlk htab hX hKX hTX hl
  obtain ⟨hX, hAs⟩ := hX
  have hx := hC.1
  have hb := hC.2.1
  have hS : va_S A s.heap s.heap [] := va_S.rf
  have hl : lv_has ls 5 [(0, .ref (ad (5, 0))), (1, .int x1), (2, .int x2)] := hl
  unfold d10_join at hf
  refine lv_aload_n hx hb dX10_join_0 rfl (lv_at hl 0 rfl) ?_
  refine lv_iload_n hx hb dX10_join_1 rfl (lv_at hl 1 rfl) ?_
  obtain ⟨z11, hz11, hf⟩ := cb_e hf
  refine dVx (cd := (5, 0)) (As := [.int x1]) (rest := []) hC (c_d10_viewAt hG hz11) q_d10_viewAt a_633 (Nat.le_of_ble_eq_true rfl) hX hKX (hG.F 0 (by decide)) rfl rfl rfl hl.1 (Nat.le_of_ble_eq_true rfl) dX10_join_2 hS (fun H locs hX hS => ?_)
  refine lv_astoreO_n (lv' := [(3, rO ad 4 z11), (0, .ref (ad (5, 0))), (1, .int x1), (2, .int x2)]) hx hb dX10_join_5 rfl hl (by decide) rfl (fun ls hl => ?_)
  refine lv_aload_n hx hb dX10_join_6 rfl (lv_at hl 1 rfl) ?_
  refine lv_iload_n hx hb dX10_join_7 rfl (lv_at hl 3 rfl) ?_
  obtain ⟨z13, hz13, hf⟩ := cb_e hf
  refine dVx (cd := (5, 0)) (As := [.int x2]) (rest := []) hC (c_d10_viewAt hG hz13) q_d10_viewAt a_633 (Nat.le_of_ble_eq_true rfl) hX hKX (hG.F 0 (by decide)) rfl rfl rfl hl.1 (Nat.le_of_ble_eq_true rfl) dX10_join_8 hS (fun H locs hX hS => ?_)
  refine lv_astoreO (lv' := [(4, rO ad 4 z13), (3, rO ad 4 z11), (0, .ref (ad (5, 0))), (1, .int x1), (2, .int x2)]) hx hb dX10_join_11 hl (by decide) (by cases z11 <;> rfl) (fun ls hl => ?_)
  refine lv_aloadO_n hx hb dX10_join_13 rfl (lv_at hl 1 rfl) ?_
  rcases oc_e hf with ⟨ho, hf⟩ | ⟨u15, ho, hf⟩
  · subst ho
    have hl : lv_has ls 5 [(4, rO ad 4 z13), (3, .null), (0, .ref (ad (5, 0))), (1, .int x1), (2, .int x2)] := hl
    refine lv_ifnullN (tgt := 22) hx hb dX10_join_14 (by decide) ?_
    have hAX := AX_of hX hG hE hx0
    cases hf
    exact CtX_th (is := 135) (text := "no such view") hfl hC hlk htab hTX hAX (fun H1 q => hAX.kept q) hS thw_3 (by decide) ⟨by decide, rfl⟩ hl.1 dX10_join_22 dX10_join_25 dX10_join_26 dX10_join_28 dX10_join_31 (Nat.le_of_ble_eq_true rfl) (Nat.le_of_ble_eq_true rfl) (Nat.le_of_ble_eq_true rfl) (Nat.le_of_ble_eq_true rfl)
  · subst ho
    obtain ⟨h16, hf⟩ := gd_e hf
    have hl : lv_has ls 5 [(4, rO ad 4 z13), (3, .ref (ad (4, u15))), (0, .ref (ad (5, 0))), (1, .int x1), (2, .int x2)] := hl
    refine lv_ifnull (x := ad (4, u15)) hx hb dX10_join_14 ?_
    refine lv_aloadO hx hb dX10_join_17 (lv_at hl 0 rfl) ?_
    rcases oc_e hf with ⟨ho, hf⟩ | ⟨u17, ho, hf⟩
    · subst ho
      have hl : lv_has ls 5 [(4, .null), (3, .ref (ad (4, u15))), (0, .ref (ad (5, 0))), (1, .int x1), (2, .int x2)] := hl
      refine lv_ifnonnullN hx hb dX10_join_19 ?_
      have hAX := AX_of hX hG hE hx0
      cases hf
      exact CtX_th (is := 135) (text := "no such view") hfl hC hlk htab hTX hAX (fun H1 q => hAX.kept q) hS thw_3 (by decide) ⟨by decide, rfl⟩ hl.1 dX10_join_22 dX10_join_25 dX10_join_26 dX10_join_28 dX10_join_31 (Nat.le_of_ble_eq_true rfl) (Nat.le_of_ble_eq_true rfl) (Nat.le_of_ble_eq_true rfl) (Nat.le_of_ble_eq_true rfl)
    · subst ho
      obtain ⟨h18, hf⟩ := gd_e hf
      have hl : lv_has ls 5 [(4, .ref (ad (4, u17))), (3, .ref (ad (4, u15))), (0, .ref (ad (5, 0))), (1, .int x1), (2, .int x2)] := hl
      refine lv_ifnonnull (x := ad (4, u17)) (tgt := 32) hx hb dX10_join_19 (by decide) ?_
      refine lv_aload_n hx hb dX10_join_32 rfl (lv_at hl 1 rfl) ?_
      refine dgetV (v := u15) (k := 3) (x := .int (G u15 3)) hx hb hC hKX.1 hX hG h16 (by decide) a_719 (Or.inl rfl) rfl dX10_join_33 ?_
      refine lv_aload hx hb dX10_join_36 (lv_at hl 0 rfl) ?_
      refine dgetV (v := u17) (k := 3) (x := .int (G u17 3)) hx hb hC hKX.1 hX hG h18 (by decide) a_719 (Or.inl rfl) rfl dX10_join_38 ?_
      refine lv_iand hx hb dX10_join_41 ?_
      refine lv_if_ne (tgt := 60) hx hb dX10_join_42 (by decide) (fun c19 => ?_) (fun c19 => ?_)
      · have hf := it_f c19 hf
        have hAX := AX_of hX hG hE hx0
        cases hf
        exact CtX_th (is := 159) (text := "views that cannot be joined") hfl hC hlk htab hTX hAX (fun H1 q => hAX.kept q) hS thw_1 (by decide) ⟨by decide, rfl⟩ hl.1 dX10_join_60 dX10_join_63 dX10_join_64 dX10_join_66 dX10_join_69 (Nat.le_of_ble_eq_true rfl) (Nat.le_of_ble_eq_true rfl) (Nat.le_of_ble_eq_true rfl) (Nat.le_of_ble_eq_true rfl)
      · have hf := it_t c19 hf
        refine lv_aload hx hb dX10_join_45 (lv_at hl 0 rfl) ?_
        refine dgetV (v := u17) (k := 2) (x := .int (G u17 2)) hx hb hC hKX.1 hX hG h18 (by decide) a_714 (Or.inl rfl) rfl dX10_join_47 ?_
        refine lv_aload_n hx hb dX10_join_50 rfl (lv_at hl 1 rfl) ?_
        refine dgetV (v := u15) (k := 1) (x := .int (G u15 1)) hx hb hC hKX.1 hX hG h16 (by decide) a_706 (Or.inl rfl) rfl dX10_join_51 ?_
        refine lv_iconst (v := (-1)) hx hb dX10_join_54 (by decide) ?_
        refine lv_ixor hx hb dX10_join_55 ?_
        refine lv_iand hx hb dX10_join_56 ?_
        refine lv_if_eq (tgt := 70) hx hb dX10_join_57 (by decide) (fun c20 => ?_) (fun c20 => ?_)
        · have hf := it_t c20 hf
          refine lv_aload_n hx hb dX10_join_70 rfl (lv_at hl 2 rfl) ?_
          refine dget (cd := (5, 0)) (ci := 8) (C := RX10) (T := TX10) (N := 9) (v := .int (S.1 43)) hx hb hC hKX.1 hX (hG.F 0 (by decide)) rfl rfl inX10 3 (by decide) a_109 (Or.inl rfl) rfl dX10_join_71 ?_
          refine lv_bipush (v := 10) hx hb dX10_join_74 (by decide) ?_
          refine lv_icmp_lt (tgt := 89) hx hb dX10_join_76 (by decide) (fun c21 => ?_) (fun c21 => ?_)
          · have hf := it_t c21 hf
            refine lv_aload_n hx hb dX10_join_89 rfl (lv_at hl 2 rfl) ?_
            refine va_new (ci := 2) (fs := [.int 0, .int 0, .int 0, .int 0, .null, .null, .null, .null, .null, .null, .int 0]) (C := RX3) (T := TX3) (N := 11) hx hb hC.2.2.2.2 (tU inX3) tyX3 tyX3_ok hC.2.2.2.1 (tA hC.2.2.2.2 a_838) (tA hC.2.2.2.2 a_839) (tA hC.2.2.2.2 a_33) hKX.1 hX.1 hX.2 hS hAs rfl dfX3 (Nat.le_of_ble_eq_true rfl) (Nat.le_of_ble_eq_true rfl) dX10_join_90 (fun q0 H hP hD hS => ?_)
            obtain ⟨hX, hPq, hfr, hAq⟩ := nwX hP hD
            refine lv_dup hx hb dX10_join_93 rfl ?_
            refine lv_aload_n hx hb dX10_join_94 rfl (lv_at hl 2 rfl) ?_
            refine dget (cd := (5, 0)) (ci := 8) (C := RX10) (T := TX10) (N := 9) (v := .int (S.1 43)) hx hb hC hKX.1 hX (hG.F 0 (by decide)) rfl rfl inX10 3 (by decide) a_109 (Or.inl rfl) rfl dX10_join_95 ?_
            refine lv_aload_n hx hb dX10_join_98 rfl (lv_at hl 1 rfl) ?_
            refine lv_aload hx hb dX10_join_99 (lv_at hl 0 rfl) ?_
            have hs9 := hS.1
            refine Ct_I (As := [.int (S.1 43), .ref (ad (4, u15)), .ref (ad (4, u17))]) (rest := [.ref q0, .ref (ad (5, 0))]) hC (c_X3_init hG hfr h16 h18) qi_X3 a_840 (Nat.le_of_ble_eq_true rfl) ⟨rfl, hPq, hX⟩ hKX rfl hl.1 (Nat.le_of_ble_eq_true rfl) dX10_join_101 ⟨(Nat.le_of_ble_eq_true rfl), (Nat.le_of_ble_eq_true rfl)⟩ hS (nwA hAq (fun x hx => hAs x (Nat.le_trans hs9 hx))) (fun H1 locs hQ hz1 hk1 hS => ?_)
            obtain ⟨q1, q2, q3, q4, hP1, hD1⟩ := hQ
            have hJ := jnC hX hfr hk1 (nwA hAq (fun x hx => hAs x (Nat.le_trans hs9 hx))) hP1 hD1
            obtain ⟨hn, hf⟩ := gd_e hf
            obtain ⟨z9, S9, hz9, hf⟩ := cb2_e hf
            obtain ⟨ad1, L1, hX1, hG1, hE1, ho, hq⟩ := extV (g := gL [(S.1 43), (G u15 1 ||| G u17 1), (G u15 2), (G u15 3 ||| G u17 3), nI u15, nI u17, 2, 0, 0, 0, (G u15 1 &&& G u17 1)]) hG hE hSX hn hJ (nv_2 hG h16 h18) (nw_2 h16 h18)
            have e50 : ad1 (5, 0) = ad (5, 0) := ho (5, 0) (Or.inl ⟨rfl, by decide⟩)
            cases hf
            refine W.eq (g2 := F0 m 104 ls [.ref (ad1 (4, nv)), .ref (ad1 (5, 0))]) (by rw [hq, e50]) ?_
            refine dVxg (cd := (5, 0)) (As := [.ref (ad1 (4, nv))]) (rest := []) hC (c_d10_keepView hG1 (Nat.lt_succ_self _) hz9) q_d10_keepView a_777 (Nat.le_of_ble_eq_true rfl) hX1 hKX (hG1.F 0 (by decide)) rfl rfl rfl hl.1 (Nat.le_of_ble_eq_true rfl) dX10_join_104 ⟨(Nat.le_of_ble_eq_true rfl), (Nat.le_of_ble_eq_true rfl)⟩ hS (fun H locs hX hS => ?_)
            exact CtX_ri hx hb hr hlk ⟨ad1, L1, hX, hG1, hE1, e50.trans hx0⟩ hS (Nat.le_of_ble_eq_true rfl) (Nat.le_of_ble_eq_true rfl) dX10_join_107
          · have hf := it_f c21 hf
            have hAX := AX_of hX hG hE hx0
            cases hf
            exact CtX_th (is := 120) (text := "no more views") hfl hC hlk htab hTX hAX (fun H1 q => hAX.kept q) hS thw_2 (by decide) ⟨by decide, rfl⟩ hl.1 dX10_join_79 dX10_join_82 dX10_join_83 dX10_join_85 dX10_join_88 (Nat.le_of_ble_eq_true rfl) (Nat.le_of_ble_eq_true rfl) (Nat.le_of_ble_eq_true rfl) (Nat.le_of_ble_eq_true rfl)
        · have hf := it_f c20 hf
          have hAX := AX_of hX hG hE hx0
          cases hf
          exact CtX_th (is := 159) (text := "views that cannot be joined") hfl hC hlk htab hTX hAX (fun H1 q => hAX.kept q) hS thw_1 (by decide) ⟨by decide, rfl⟩ hl.1 dX10_join_60 dX10_join_63 dX10_join_64 dX10_join_66 dX10_join_69 (Nat.le_of_ble_eq_true rfl) (Nat.le_of_ble_eq_true rfl) (Nat.le_of_ble_eq_true rfl) (Nat.le_of_ble_eq_true rfl)
