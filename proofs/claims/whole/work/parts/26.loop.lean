theorem gt_L {L t : Nat} (hL : L ≤ 2560) (ht : 5 * t ≤ L) : (nI L - 5 < nI (5 * t)) ↔ L < 5 * t + 5 := by
  by_cases h : 5 ≤ L
  · have e : nI L - 5 = nI (L - 5) := by
      have e1 : nI (L - 5) + nI 5 = nI L := by
        rw [nI_add]
        congr 1
        omega
      rw [← e1]
      exact Int32.add_sub_cancel _ _
    rw [e, nI_ltI (by omega) (by omega)]
    omega
  · have h0 : t = 0 := by omega
    subst h0
    have z : L = 0 ∨ L = 1 ∨ L = 2 ∨ L = 3 ∨ L = 4 := by omega
    rcases z with rfl | rfl | rfl | rfl | rfl <;> exact ⟨fun _ => by omega, fun _ => by decide⟩
set_option maxRecDepth 100000 in
set_option maxHeartbeats 4000000 in
theorem law_loop {p : Program} {l : Launch} {e : Env} {s : State} {m : MethodId} {below : List Frame} {meth : Method} {c : Code} {b L : Nat} {xs : Nat → Int32} {D : va_G} {cA : Nat → ClassId} {R : RT} {x0 o n1 : Nat} {adm : Nat → Nat} (hfl : l.stackTraces = false) (hL : L ≤ 2560) (C0 : lw_At p s m meth c b L xs) (hKX : KX D cA s) (hTX : TX (fun q => s.heap.size ≤ q) s) (hNX : NX s) (hR : SimAll R) (hn1 : s.heap.size ≤ n1) (hno : n1 ≤ o) : ∀ (n t : Nat) (S : St) (G : Gt) (nt nv : Nat) (M : St) (f : Nat → Int64) (H : Heap) (locs : List Loc) (ls : Array Slot), 5 * t ≤ L → L < 5 * (t + n) → R S G nt nv M → AX D cA (AL s.heap.size n1 o) x0 S G nt nv H → MX D cA (AM n1 o) adm M H → va_P D vwCl [(o, .inl (cA 2, 1, .inr (.inl f)))] H → va_S (fun q => s.heap.size ≤ q) s.heap H locs → lv_has ls 7 [(0, .ref b), (1, .ref x0), (2, .ref (adm 0)), (3, .ref o), (4, .int (nI (5 * t)))] → W p l e room_1 s m #[Value.ref b] below meth c H locs (36 + 20 * t) (1608 + 200 * t) (lw_Z below #[Value.ref b] s) (F0 m 23 ls []) := by
  obtain ⟨hx, hb, hr, hml, hown, hts, hXs, hbl, hlocks, hgv⟩ := id C0
  have hT0 : ∀ w ∈ Cond.initialized "LensbenchLaw" :: ALL, w.before #[Value.ref b] s = true := fun w hw => hts w (by
      rcases List.mem_cons.mp hw with rfl | hw
      · exact (List.mem_filter.mp a_50).1
      · exact (List.mem_filter.mp hw).1)
  have hC : CallFix p m c code 7 s #[Value.ref b] (Cond.initialized "LensbenchLaw" :: ALL) "LensbenchLaw" := ⟨hx, hb, hml, hown, hT0⟩
  have hbA : ¬ (fun q : Nat => s.heap.size ≤ q) b := Nat.not_le.mpr hbl
  obtain ⟨hSXR, r0, r1, r2, r3, r4, r5, r6, r7, r8, r9, r10, r11, r12, r13, r14, r15, r16, r17, r18, r19, r20, r21⟩ := hR
  intro n
  induction n with
  | zero => intro t S G nt nv M f H locs ls h1 h2; omega
  | succ n ih =>
    intro t S G nt nv M f H locs ls hb1 hb2 hRR hAX hMX hO hS hl
    have KK : 5 * t + 5 ≤ L → ∀ (S : St) (G : Gt) (nt nv : Nat) (M : St) (f : Nat → Int64) (H : Heap) (locs : List Loc) (ls : Array Slot), R S G nt nv M → AX D cA (AL s.heap.size n1 o) x0 S G nt nv H → MX D cA (AM n1 o) adm M H → va_P D vwCl [(o, .inl (cA 2, 1, .inr (.inl f)))] H → va_S (fun q => s.heap.size ≤ q) s.heap H locs → lv_has ls 7 [(0, .ref b), (1, .ref x0), (2, .ref (adm 0)), (3, .ref o), (4, .int (nI (5 * t)))] → W p l e room_1 s m #[Value.ref b] below meth c H locs (36 + 20 * (t + 1)) (1608 + 200 * (t + 1)) (lw_Z below #[Value.ref b] s) (F0 m 1472 ls []) := by
      intro h5 S G nt nv M f H locs ls hRR hAX hMX hO hS hl
      refine lv_iinc (v := nI (5 * (t + 1))) (lv' := [(4, .int (nI (5 * (t + 1)))), (0, .ref b), (1, .ref x0), (2, .ref (adm 0)), (3, .ref o)]) hx hb dL_law_1472 hl (k := 4) rfl (by rw [show Int32.ofInt 5 = nI 5 from rfl, nI_add]; congr 1) (by decide) rfl (fun ls hl => ?_)
      refine lv_goto (tgt := 23) hx hb dL_law_1475 (by decide) ?_
      exact ih (t + 1) S G nt nv M f H locs ls (by omega) (by omega) hRR hAX hMX hO hS (lv_sub hl [1, 2, 3, 4, 0] rfl)
    refine lv_iload hx hb dL_law_23 (lv_at hl 4 rfl) ?_
    refine lv_aload_n hx hb dL_law_25 rfl (lv_at hl 0 rfl) ?_
    refine va_slen hx hb hXs hbl hbA hS dL_law_26 ?_
    refine lv_iconst (v := 5) hx hb dL_law_27 (by decide) ?_
    refine lv_isub hx hb dL_law_28 ?_
    refine lv_icmp_gt (tgt := 1478) hx hb dL_law_29 (by decide) (fun _ => ?_) (fun hgt => ?_)
    · refine lv_iconst (v := 1) hx hb dL_law_1478 (by decide) ?_
      refine va_forget hS.2.2 ?_
      refine W.widen (k := 601024) (n := 7293034) (by omega) (by omega) ?_
      exact lw_ret hx hb hr hlocks dL_law_1479
    · have h5 : 5 * t + 5 ≤ L := by
        have z : ¬ (nI L - 5 < nI (5 * t)) := hgt
        rw [gt_L hL hb1] at z
        omega
      refine lv_aload_n hx hb dL_law_32 rfl (lv_at hl 0 rfl) ?_
      refine lv_iload hx hb dL_law_33 (lv_at hl 4 rfl) ?_
      refine va_sld hx hb hXs hbl hbA hS (vp_in_nI (by omega) (by omega)) dL_law_35 ?_
      refine lv_bipush (v := 31) hx hb dL_law_36 (by decide) ?_
      refine lv_iand hx hb dL_law_38 ?_
      obtain ⟨z, hz⟩ : ∃ z : Int32, z = xs (nI (5 * t)).toNatClampNeg &&& 31 := ⟨_, rfl⟩
      rw [← hz]
      by_cases hout : z.toInt < 0 ∨ 21 < z.toInt
      · refine lv_tableOut (tgt := 1472) hx hb dL_law_39 hout (by decide) ?_
        refine W.widen (k := 36 + 20 * (t + 1)) (n := 1608 + 200 * (t + 1)) (by omega) (by omega) ?_
        exact KK h5 S G nt nv M f H locs ls hRR hAX hMX hO hS hl
      · have z21 : (21 : Int32).toInt = 21 := by decide
        have zle : z ≤ 21 := Int32.le_iff_toInt_le.mpr (by rw [z21]; omega)
        have zge : ¬ z < 0 := fun q => hout (Or.inl (by have q2 := Int32.lt_iff_toInt_lt.mp q; have q3 : (0 : Int32).toInt = 0 := (by decide); omega))
        obtain ⟨k, hk, e9⟩ := nI_of2 (x := z) (M := 21) (n := 21) z21 zge zle
        have hk2 : k = 0 ∨ k = 1 ∨ k = 2 ∨ k = 3 ∨ k = 4 ∨ k = 5 ∨ k = 6 ∨ k = 7 ∨ k = 8 ∨ k = 9 ∨ k = 10 ∨ k = 11 ∨ k = 12 ∨ k = 13 ∨ k = 14 ∨ k = 15 ∨ k = 16 ∨ k = 17 ∨ k = 18 ∨ k = 19 ∨ k = 20 ∨ k = 21 := by omega
        rcases hk2 with hk3 | hk3 | hk3 | hk3 | hk3 | hk3 | hk3 | hk3 | hk3 | hk3 | hk3 | hk3 | hk3 | hk3 | hk3 | hk3 | hk3 | hk3 | hk3 | hk3 | hk3 | hk3
        · rw [e9, hk3]
          refine lv_tableIn (off := 101) (tgt := 140) hx hb dL_law_39 (by decide) (by decide) (by decide +kernel) (by decide) ?_
          exact lc_table hfl hL C0 hKX hTX hNX hSXR r0 hn1 hno h5 hRR hAX hMX hO hS hl (KK h5)
        · rw [e9, hk3]
          refine lv_tableIn (off := 169) (tgt := 208) hx hb dL_law_39 (by decide) (by decide) (by decide +kernel) (by decide) ?_
          exact lc_insert hfl hL C0 hKX hTX hNX hSXR r1 hn1 hno h5 hRR hAX hMX hO hS hl (KK h5)
        · rw [e9, hk3]
          refine lv_tableIn (off := 237) (tgt := 276) hx hb dL_law_39 (by decide) (by decide) (by decide +kernel) (by decide) ?_
          exact lc_delete hfl hL C0 hKX hTX hNX hSXR r2 hn1 hno h5 hRR hAX hMX hO hS hl (KK h5)
        · rw [e9, hk3]
          refine lv_tableIn (off := 305) (tgt := 344) hx hb dL_law_39 (by decide) (by decide) (by decide +kernel) (by decide) ?_
          exact lc_of hfl hL C0 hKX hTX hNX hSXR r3 hn1 hno h5 hRR hAX hMX hO hS hl (KK h5)
        · rw [e9, hk3]
          refine lv_tableIn (off := 361) (tgt := 400) hx hb dL_law_39 (by decide) (by decide) (by decide +kernel) (by decide) ?_
          exact lc_select hfl hL C0 hKX hTX hNX hSXR r4 hn1 hno h5 hRR hAX hMX hO hS hl (KK h5)
        · rw [e9, hk3]
          refine lv_tableIn (off := 469) (tgt := 508) hx hb dL_law_39 (by decide) (by decide) (by decide +kernel) (by decide) ?_
          exact lc_drop hfl hL C0 hKX hTX hNX hSXR r5 hn1 hno h5 hRR hAX hMX hO hS hl (KK h5)
        · rw [e9, hk3]
          refine lv_tableIn (off := 549) (tgt := 588) hx hb dL_law_39 (by decide) (by decide) (by decide +kernel) (by decide) ?_
          exact lc_join hfl hL C0 hKX hTX hNX hSXR r6 hn1 hno h5 hRR hAX hMX hO hS hl (KK h5)
        · rw [e9, hk3]
          refine lv_tableIn (off := 617) (tgt := 656) hx hb dL_law_39 (by decide) (by decide) (by decide +kernel) (by decide) ?_
          exact lc_columns hfl hL C0 hKX hTX hNX hSXR r7 hn1 hno h5 hRR hAX hMX hO hS hl (KK h5)
        · rw [e9, hk3]
          refine lv_tableIn (off := 673) (tgt := 712) hx hb dL_law_39 (by decide) (by decide) (by decide +kernel) (by decide) ?_
          exact lc_key hfl hL C0 hKX hTX hNX hSXR r8 hn1 hno h5 hRR hAX hMX hO hS hl (KK h5)
        · rw [e9, hk3]
          refine lv_tableIn (off := 729) (tgt := 768) hx hb dL_law_39 (by decide) (by decide) (by decide +kernel) (by decide) ?_
          exact lc_rows hfl hL C0 hKX hTX hNX hSXR r9 hn1 hno h5 hRR hAX hMX hO hS hl (KK h5)
        · rw [e9, hk3]
          refine lv_tableIn (off := 785) (tgt := 824) hx hb dL_law_39 (by decide) (by decide) (by decide +kernel) (by decide) ?_
          exact lc_row hfl hL C0 hKX hTX hNX hSXR r10 hn1 hno h5 hRR hAX hMX hO hS hl (KK h5)
        · rw [e9, hk3]
          refine lv_tableIn (off := 853) (tgt := 892) hx hb dL_law_39 (by decide) (by decide) (by decide +kernel) (by decide) ?_
          exact lc_open hfl hL C0 hKX hTX hNX hSXR r11 hn1 hno h5 hRR hAX hMX hO hS hl (KK h5)
        · rw [e9, hk3]
          refine lv_tableIn (off := 909) (tgt := 948) hx hb dL_law_39 (by decide) (by decide) (by decide +kernel) (by decide) ?_
          exact lc_add hfl hL C0 hKX hTX hNX hSXR r12 hn1 hno h5 hRR hAX hMX hO hS hl (KK h5)
        · rw [e9, hk3]
          refine lv_tableIn (off := 965) (tgt := 1004) hx hb dL_law_39 (by decide) (by decide) (by decide +kernel) (by decide) ?_
          exact lc_takeOut hfl hL C0 hKX hTX hNX hSXR r13 hn1 hno h5 hRR hAX hMX hO hS hl (KK h5)
        · rw [e9, hk3]
          refine lv_tableIn (off := 1021) (tgt := 1060) hx hb dL_law_39 (by decide) (by decide) (by decide +kernel) (by decide) ?_
          exact lc_change hfl hL C0 hKX hTX hNX hSXR r14 hn1 hno h5 hRR hAX hMX hO hS hl (KK h5)
        · rw [e9, hk3]
          refine lv_tableIn (off := 1101) (tgt := 1140) hx hb dL_law_39 (by decide) (by decide) (by decide +kernel) (by decide) ?_
          exact lc_draftRow hfl hL C0 hKX hTX hNX hSXR r15 hn1 hno h5 hRR hAX hMX hO hS hl (KK h5)
        · rw [e9, hk3]
          refine lv_tableIn (off := 1157) (tgt := 1196) hx hb dL_law_39 (by decide) (by decide) (by decide +kernel) (by decide) ?_
          exact lc_conflict hfl hL C0 hKX hTX hNX hSXR r16 hn1 hno h5 hRR hAX hMX hO hS hl (KK h5)
        · rw [e9, hk3]
          refine lv_tableIn (off := 1201) (tgt := 1240) hx hb dL_law_39 (by decide) (by decide) (by decide +kernel) (by decide) ?_
          exact lc_conflictRow hfl hL C0 hKX hTX hNX hSXR r17 hn1 hno h5 hRR hAX hMX hO hS hl (KK h5)
        · rw [e9, hk3]
          refine lv_tableIn (off := 1257) (tgt := 1296) hx hb dL_law_39 (by decide) (by decide) (by decide +kernel) (by decide) ?_
          exact lc_changes hfl hL C0 hKX hTX hNX hSXR r18 hn1 hno h5 hRR hAX hMX hO hS hl (KK h5)
        · rw [e9, hk3]
          refine lv_tableIn (off := 1301) (tgt := 1340) hx hb dL_law_39 (by decide) (by decide) (by decide +kernel) (by decide) ?_
          exact lc_fewest hfl hL C0 hKX hTX hNX hSXR r19 hn1 hno h5 hRR hAX hMX hO hS hl (KK h5)
        · rw [e9, hk3]
          refine lv_tableIn (off := 1345) (tgt := 1384) hx hb dL_law_39 (by decide) (by decide) (by decide +kernel) (by decide) ?_
          exact lc_putBack hfl hL C0 hKX hTX hNX hSXR r20 hn1 hno h5 hRR hAX hMX hO hS hl (KK h5)
        · rw [e9, hk3]
          refine lv_tableIn (off := 1389) (tgt := 1428) hx hb dL_law_39 (by decide) (by decide) (by decide +kernel) (by decide) ?_
          exact lc_undo hfl hL C0 hKX hTX hNX hSXR r21 hn1 hno h5 hRR hAX hMX hO hS hl (KK h5)
/-! ===== the entry ===== -/
def S00 : St := (fun i => if i = 44 ∨ i = 47 ∨ i = 48 then -1 else 0, fun _ _ => 0)
def G00 : Gt := fun _ _ => 0
def M00 : St := (fun _ => 0, fun k => if k = 1 then upd (upd (upd (upd (upd (upd (fun _ => 0) 0 1) 1 10) 2 100) 3 1000) 4 10000) 5 100000 else fun _ => 0)
def L00 : List Cd := [(5, 0), (5, 1), (5, 2), (0, 0), (1, 0), (5, 3), (5, 4), (5, 5), (5, 6)]
def ad0 (h0 q1 q2 q3 q4 q5 q6 q7 q8 : Nat) : Cd → Nat := adx (fun _ => 0) [((5, 0), h0), ((5, 1), q1), ((5, 2), q2), ((0, 0), q3), ((1, 0), q4), ((5, 3), q5), ((5, 4), q6), ((5, 5), q7), ((5, 6), q8)]
def admx : List (Nat × Nat) → Nat → Nat
  | [], _ => 0
  | (d, q) :: r, c => if c = d then q else admx r c
theorem va_D.re {A B : Nat → Prop} {ws : va_W} (h : va_D A ws) (hB : ∀ (k : Nat) (q : Nat × va_E), ws[k]? = some q → B q.1) : va_D B ws := ⟨h.1, hB⟩
theorem wl00 {cA : Nat → ClassId} {h0 q1 q2 q3 q4 q5 q6 q7 q8 : Nat} : [(h0, .inr (8, [.ref q1, .int 0, .ref q2, .int 0, .ref q3, .null, .ref q5, .ref q6, .int 0])), (q1, .inl (cA 3, 3, .inr (.inr (.inr (.inr (fun _ => none)))))), (q2, .inl (cA 4, 10, .inr (.inr (.inr (.inr (fun _ => none)))))), (q3, .inr (3, [.ref q4, .int 0])), (q4, .inl (cA 0, 20, .inl (fun _ => 0))), (q5, .inr (0, [.int 0, .int (-1), .int (-1)])), (q6, .inr (7, [.ref q7, .ref q8, .int 0, .int 0, .int 0, .int 0])), (q7, .inl (cA 0, 9, .inl (fun _ => 0))), (q8, .inl (cA 0, 9, .inl (fun _ => 0)))] = wl L00 (ad0 h0 q1 q2 q3 q4 q5 q6 q7 q8) (dce cA (ad0 h0 q1 q2 q3 q4 q5 q6 q7 q8) G00 S00) := by
  have f1 : (fun j => if j < (S00.1 56).toNatClampNeg then some (ad0 h0 q1 q2 q3 q4 q5 q6 q7 q8 (2, j)) else none) = fun _ => none := funext fun j => if_neg (Nat.not_lt_zero _)
  have f2 : (fun j => if j < (S00.1 55).toNatClampNeg then some (ad0 h0 q1 q2 q3 q4 q5 q6 q7 q8 (4, j)) else none) = fun _ => none := funext fun j => if_neg (Nat.not_lt_zero _)
  have e1 : dce cA (ad0 h0 q1 q2 q3 q4 q5 q6 q7 q8) G00 S00 (5, 1) = .inl (cA 3, 3, .inr (.inr (.inr (.inr (fun _ => none))))) := congrArg (fun f => (.inl (cA 3, 3, .inr (.inr (.inr (.inr f)))) : va_E)) f1
  have e2 : dce cA (ad0 h0 q1 q2 q3 q4 q5 q6 q7 q8) G00 S00 (5, 2) = .inl (cA 4, 10, .inr (.inr (.inr (.inr (fun _ => none))))) := congrArg (fun f => (.inl (cA 4, 10, .inr (.inr (.inr (.inr f)))) : va_E)) f2
  simp only [wl, L00, List.map_cons, List.map_nil]
  rw [e1, e2]
  rfl
theorem wf00 : WF L00 G00 0 0 ∧ EX L00 0 0 := by
  have hm : ∀ c, c ∈ L00 → inE 0 0 c := by
    intro c hc
    simp only [L00, List.mem_cons, List.not_mem_nil, or_false] at hc
    rcases hc with rfl | rfl | rfl | rfl | rfl | rfl | rfl | rfl | rfl
    · exact Or.inl ⟨rfl, by decide⟩
    · exact Or.inl ⟨rfl, by decide⟩
    · exact Or.inl ⟨rfl, by decide⟩
    · exact Or.inr (Or.inl ⟨show (0 : Nat) < 2 from by decide, Or.inl (show (0 : Nat) < 1 + 7 * 0 from by decide)⟩)
    · exact Or.inr (Or.inl ⟨show (1 : Nat) < 2 from by decide, Or.inl (show (0 : Nat) < 1 + 7 * 0 from by decide)⟩)
    · exact Or.inl ⟨rfl, by decide⟩
    · exact Or.inl ⟨rfl, by decide⟩
    · exact Or.inl ⟨rfl, by decide⟩
    · exact Or.inl ⟨rfl, by decide⟩
  refine ⟨⟨by decide, fun j hj => ?_, by decide, fun t ht => absurd ht (Nat.not_lt_zero _), fun v hv => absurd hv (Nat.not_lt_zero _), fun i hi => ?_, fun v hv => absurd hv (Nat.not_lt_zero _)⟩, hm⟩
  · have z : j = 0 ∨ j = 1 ∨ j = 2 ∨ j = 3 ∨ j = 4 ∨ j = 5 ∨ j = 6 := by omega
    rcases z with rfl | rfl | rfl | rfl | rfl | rfl | rfl <;> decide
  · have z : inE 0 0 (0, i) ∨ inE 0 0 (1, i) := hi.imp (hm _) (hm _)
    simp only [inE] at z
    omega
set_option maxRecDepth 100000 in
set_option maxHeartbeats 4000000 in
theorem wm00 {cA : Nat → ClassId} {h0 q1 q2 q3 q4 q5 q6 q7 q8 q9 q10 q11 q12 q13 q14 q15 q16 q17 q18 q19 q20 q21 q22 q23 q24 q25 : Nat} : [(h0, .inr (9, [.int 0, .ref q1, .int 0, .ref q2, .ref q3, .ref q4, .ref q5, .int 0, .ref q6, .ref q7, .ref q8, .ref q9, .ref q10, .ref q11, .ref q12, .ref q13, .ref q14, .ref q15, .ref q16, .ref q17, .ref q18, .int 0, .int 0, .int 0, .ref q19, .int 0, .int 0, .int 0, .ref q20, .ref q21, .int 0, .ref q22, .int 0, .ref q23, .ref q24, .ref q25])), (q1, .inl (cA 0, 6, .inl (upd (upd (upd (upd (upd (upd (fun _ => 0) 0 1) 1 10) 2 100) 3 1000) 4 10000) 5 100000))), (q2, .inl (cA 0, 3, .inl (fun _ => 0))), (q3, .inl (cA 0, 3, .inl (fun _ => 0))), (q4, .inl (cA 0, 3, .inl (fun _ => 0))), (q5, .inl (cA 0, 36, .inl (fun _ => 0))), (q6, .inl (cA 0, 10, .inl (fun _ => 0))), (q7, .inl (cA 0, 10, .inl (fun _ => 0))), (q8, .inl (cA 0, 10, .inl (fun _ => 0))), (q9, .inl (cA 0, 10, .inl (fun _ => 0))), (q10, .inl (cA 0, 10, .inl (fun _ => 0))), (q11, .inl (cA 1, 10, .inl (fun _ => 0))), (q12, .inl (cA 0, 10, .inl (fun _ => 0))), (q13, .inl (cA 0, 10, .inl (fun _ => 0))), (q14, .inl (cA 0, 10, .inl (fun _ => 0))), (q15, .inl (cA 0, 10, .inl (fun _ => 0))), (q16, .inl (cA 0, 400, .inl (fun _ => 0))), (q17, .inl (cA 0, 10, .inl (fun _ => 0))), (q18, .inl (cA 0, 400, .inl (fun _ => 0))), (q19, .inl (cA 0, 20, .inl (fun _ => 0))), (q20, .inl (cA 0, 3, .inl (fun _ => 0))), (q21, .inl (cA 0, 36, .inl (fun _ => 0))), (q22, .inl (cA 0, 10, .inl (fun _ => 0))), (q23, .inl (cA 0, 15, .inl (fun _ => 0))), (q24, .inl (cA 0, 180, .inl (fun _ => 0))), (q25, .inl (cA 0, 12, .inl (fun _ => 0)))] = wl Lm (admx [(0, h0), (1, q1), (3, q2), (4, q3), (5, q4), (6, q5), (8, q6), (9, q7), (10, q8), (11, q9), (12, q10), (13, q11), (14, q12), (15, q13), (16, q14), (17, q15), (18, q16), (19, q17), (20, q18), (24, q19), (28, q20), (29, q21), (31, q22), (33, q23), (34, q24), (35, q25)]) (mce cA (admx [(0, h0), (1, q1), (3, q2), (4, q3), (5, q4), (6, q5), (8, q6), (9, q7), (10, q8), (11, q9), (12, q10), (13, q11), (14, q12), (15, q13), (16, q14), (17, q15), (18, q16), (19, q17), (20, q18), (24, q19), (28, q20), (29, q21), (31, q22), (33, q23), (34, q24), (35, q25)]) M00) := rfl
set_option maxRecDepth 100000 in
set_option maxHeartbeats 4000000 in
theorem start_of {p : Program} {e : Env} {s : State} {m : MethodId} {below : List Frame} {meth : Method} {c : Code} {R : RT} (hR : SimAll R) (hR0 : R S00 G00 0 0 M00) (l : Launch) (hflags : l.flags = flags0) {b L : Nat} {xs : Nat → Int32} (hL : L ≤ 2560) (C0 : lw_At p s m meth c b L xs) : W p l e room_1 s m #[Value.ref b] below meth c s.heap [] 0 0 (lw_Z below #[Value.ref b] s) (entryFrame m ([Value.ref b] : List Value).toArray 7) := by
  obtain ⟨hx, hb, hr, hml, hown, hts, hXs, hbl, hlocks, hgv⟩ := id C0
  have hT0 : ∀ w ∈ Cond.initialized "LensbenchLaw" :: ALL, w.before #[Value.ref b] s = true := fun w hw => hts w (by
      rcases List.mem_cons.mp hw with rfl | hw
      · exact (List.mem_filter.mp a_50).1
      · exact (List.mem_filter.mp hw).1)
  have hC : CallFix p m c code 7 s #[Value.ref b] (Cond.initialized "LensbenchLaw" :: ALL) "LensbenchLaw" := ⟨hx, hb, hml, hown, hT0⟩
  have hbA : ¬ (fun q : Nat => s.heap.size ≤ q) b := Nat.not_le.mpr hbl
  have hfl : l.stackTraces = false := by
      unfold Launch.stackTraces
      rw [hflags]
      decide
  obtain ⟨D, cA, hKX, hTX0, hNX⟩ := law_start hts hgv
  have hTX : TX (fun q => s.heap.size ≤ q) s := hTX0 _ (fun a ha => Nat.not_le.mpr ha)
  have hS : va_S (fun q => s.heap.size ≤ q) s.heap s.heap [] := va_S.rf
  have hP0 : ∀ H : Heap, va_P D vwCl [] H := fun H k q h => by simp at h
  have hD0 : ∀ A : Nat → Prop, va_D A [] := fun A => ⟨fun i j p q h => by simp at h, fun k q h => by simp at h⟩
  have hl := lv_entry ([.ref b]) (n := 7) (Nat.le_of_ble_eq_true rfl)
  rw [lg_entry_eq]
  generalize (lg_sl ([.ref b]) ++ List.replicate (7 - (lg_sl ([.ref b])).length) Slot.unset).toArray = ls at hl ⊢
  have hl : lv_has ls 7 [(0, .ref b)] := hl
  have hA0 : ∀ w ∈ ALL, w.before #[Value.ref b] s = true := fun w hw => hts w (List.mem_filter.mp hw).1
  refine va_new (ci := 8) (fs := [.null, .int 0, .null, .int 0, .null, .null, .null, .null, .int 0]) (C := RX10) (T := TX10) (N := 9) hx hb hA0 inX10 tyX10 tyX10_ok hown (hA0 _ a_72) (hA0 _ a_73) (hA0 _ a_51) hKX.1 (hP0 s.heap) (hD0 _) hS (fun _ h => h) rfl dfX10 (Nat.le_of_ble_eq_true rfl) (Nat.le_of_ble_eq_true rfl) dL_law_0 (fun h0 H1 hP hD hS1 => ?_)
  refine lv_dup hx hb dL_law_3 rfl ?_
  have hq0 : s.heap.size ≤ h0 := hD.2 0 _ rfl
  refine Ct_IR (As := []) (rest := [.ref h0]) hC (c_X10_init (h0 := h0) (sz := H1.size)) qi_X10 a_74 ⟨Nat.le_of_ble_eq_true rfl, Nat.le_of_ble_eq_true rfl⟩ ⟨rfl, hP⟩ hKX rfl hl.1 (Nat.le_of_ble_eq_true rfl) dL_law_4 ⟨Nat.le_of_ble_eq_true rfl, Nat.le_of_ble_eq_true rfl⟩ hS1 (nwA hq0 (fun x hx => Nat.le_trans hS1.1 hx)) (fun H2 locs hQ hz2 hk2 hS2 => ?_)
  obtain ⟨q1, q2, q3, q4, q5, q6, q7, q8, hP2, hD2⟩ := hQ
  rw [wl00] at hP2 hD2
  have hg2 : ∀ (k : Nat) (q : Nat × va_E), (wl L00 (ad0 h0 q1 q2 q3 q4 q5 q6 q7 q8) (dce cA (ad0 h0 q1 q2 q3 q4 q5 q6 q7 q8) G00 S00))[k]? = some q → s.heap.size ≤ q.1 ∧ q.1 < H2.size := fun k q hq => ⟨nwA (e := .inr (8, [.null, .int 0, .null, .int 0, .null, .null, .null, .null, .int 0])) hq0 (fun x hx => Nat.le_trans hS1.1 hx) _ (hD2.2 k q hq), (hP2 k q hq).lt⟩
  generalize hadg : ad0 h0 q1 q2 q3 q4 q5 q6 q7 q8 = adc at hP2 hD2 hg2
  have hx0 : adc (5, 0) = h0 := by rw [← hadg]; rfl
  refine va_forget hS2.2.2 ?_
  have hS2 : va_S (fun q => s.heap.size ≤ q) s.heap H2 [] := ⟨hS2.1, hS2.2.1, fun l h => by simp at h⟩
  refine lv_astore_n (lv' := [(1, .ref h0), (0, .ref b)]) hx hb dL_law_7 rfl hl (by decide) rfl (fun ls hl => ?_)
  refine va_new (ci := 9) (fs := [.int 0, .null, .int 0, .null, .null, .null, .null, .int 0, .null, .null, .null, .null, .null, .null, .null, .null, .null, .null, .null, .null, .null, .int 0, .int 0, .int 0, .null, .int 0, .int 0, .int 0, .null, .null, .int 0, .null, .int 0, .null, .null, .null]) (C := RX11) (T := TX11) (N := 36) hx hb hA0 inX11 tyX11 tyX11_ok hown (hA0 _ a_961) (hA0 _ a_962) (hA0 _ a_55) hKX.1 (hP0 H2) (hD0 _) (A := fun q => H2.size ≤ q) (H0 := H2) va_S.rf (fun _ h => h) rfl dfX11 (Nat.le_of_ble_eq_true rfl) (Nat.le_of_ble_eq_true rfl) dL_law_8 (fun m0 H3 hP hD hS3 => ?_)
  refine lv_dup hx hb dL_law_11 rfl ?_
  have hm0 : H2.size ≤ m0 := hD.2 0 _ rfl
  refine Ct_IR (As := []) (rest := [.ref m0]) hC (c_X11_init (h0 := m0) (sz := H3.size)) qi_X11 a_963 ⟨Nat.le_of_ble_eq_true rfl, Nat.le_of_ble_eq_true rfl⟩ ⟨rfl, hP⟩ hKX rfl hl.1 (Nat.le_of_ble_eq_true rfl) dL_law_12 ⟨Nat.le_of_ble_eq_true rfl, Nat.le_of_ble_eq_true rfl⟩ hS3 (nwA hm0 (fun x hx => Nat.le_trans hS3.1 hx)) (fun H4 locs hQ hz4 hk4 hS4 => ?_)
  obtain ⟨u1, u2, u3, u4, u5, u6, u7, u8, u9, u10, u11, u12, u13, u14, u15, u16, u17, u18, u19, u20, u21, u22, u23, u24, u25, hP4, hD4⟩ := hQ
  rw [wm00] at hP4 hD4
  generalize hadm : (admx [(0, m0), (1, u1), (3, u2), (4, u3), (5, u4), (6, u5), (8, u6), (9, u7), (10, u8), (11, u9), (12, u10), (13, u11), (14, u12), (15, u13), (16, u14), (17, u15), (18, u16), (19, u17), (20, u18), (24, u19), (28, u20), (29, u21), (31, u22), (33, u23), (34, u24), (35, u25)]) = adm at hP4 hD4
  have hm1 : adm 0 = m0 := by rw [← hadm]; rfl
  have hg4 : ∀ (k : Nat) (q : Nat × va_E), (wl Lm adm (mce cA adm M00))[k]? = some q → H2.size ≤ q.1 ∧ q.1 < H4.size := fun k q hq => ⟨nwA (e := .inr (9, [.int 0, .null, .int 0, .null, .null, .null, .null, .int 0, .null, .null, .null, .null, .null, .null, .null, .null, .null, .null, .null, .null, .null, .int 0, .int 0, .int 0, .null, .int 0, .int 0, .int 0, .null, .null, .int 0, .null, .int 0, .null, .null, .null])) hm0 (fun x hx => Nat.le_trans hS3.1 hx) _ (hD4.2 k q hq), (hP4 k q hq).lt⟩
  refine va_forget (fun q hq => Nat.le_trans hS2.1 (hS4.2.2 q hq)) ?_
  have hS5 : va_S (fun q => s.heap.size ≤ q) s.heap H4 [] := ⟨Nat.le_trans hS2.1 hS4.1, fun q h1 h2 => by rw [hS4.2.1 q (Nat.lt_of_lt_of_le h1 hS2.1) (Nat.not_le.mpr (Nat.lt_of_lt_of_le h1 hS2.1))]; exact hS2.2.1 q h1 h2, fun l h => by simp at h⟩
  refine lv_astore_n (lv' := [(2, .ref m0), (1, .ref h0), (0, .ref b)]) hx hb dL_law_15 rfl hl (by decide) rfl (fun ls hl => ?_)
  refine lv_iconst (v := 1) hx hb dL_law_16 (by decide) ?_
  refine l_newJ (N := 1) (A := fun q => H4.size ≤ q) (H0 := H4) hx hb a_1329 hC hKX.1 (hP0 H4) (hD0 _) va_S.rf (fun _ h => h) (by decide) (by decide) (by decide) (Nat.le_of_ble_eq_true rfl) (Nat.le_of_ble_eq_true rfl) dL_law_17 (fun o H6 hP hD hS6 => ?_)
  have ho : H4.size ≤ o := hD.2 0 _ rfl
  refine lv_astore_n (lv' := [(3, .ref o), (2, .ref m0), (1, .ref h0), (0, .ref b)]) hx hb dL_law_19 rfl hl (by decide) rfl (fun ls hl => ?_)
  refine lv_iconst (v := nI (5 * 0)) hx hb dL_law_20 (by decide) ?_
  refine lv_istore (lv' := [(4, .int (nI (5 * 0))), (3, .ref o), (2, .ref m0), (1, .ref h0), (0, .ref b)]) hx hb dL_law_21 hl (by decide) rfl (fun ls hl => ?_)
  have k46 : ∀ q : Nat, q < H4.size → H6[q]? = H4[q]? := fun q hq => hS6.2.1 q hq (Nat.not_le.mpr hq)
  have k24 : ∀ q : Nat, q < H2.size → H6[q]? = H2[q]? := fun q hq => (k46 q (Nat.lt_of_lt_of_le hq hS4.1)).trans (hS4.2.1 q hq (Nat.not_le.mpr hq))
  have hS7 : va_S (fun q => s.heap.size ≤ q) s.heap H6 [] := ⟨Nat.le_trans hS5.1 hS6.1, fun q h1 h2 => (k46 q (Nat.lt_of_lt_of_le h1 hS5.1)).trans (hS5.2.1 q h1 h2), fun l h => by simp at h⟩
  have hAX : AX D cA (AL s.heap.size H2.size o) h0 S00 G00 0 0 H6 := ⟨adc, L00, ⟨hP2.kept (fun k q hq => k24 _ (hg2 k q hq).2), hD2.re (fun k q hq => Or.inl (hg2 k q hq))⟩, wf00.1, wf00.2, hx0⟩
  have hMX : MX D cA (AM H2.size o) adm M00 H6 := ⟨hP4.kept (fun k q hq => k46 _ (hg4 k q hq).2), hD4.re (fun k q hq => ⟨(hg4 k q hq).1, Nat.lt_of_lt_of_le (hg4 k q hq).2 ho⟩)⟩
  refine W.widen (k := 36 + 20 * 0) (n := 1608 + 200 * 0) (Nat.le_of_ble_eq_true rfl) (Nat.le_of_ble_eq_true rfl) ?_
  exact law_loop hfl hL C0 hKX hTX hNX hR hS2.1 (Nat.le_trans hS4.1 ho) (L + 1) 0 S00 G00 0 0 M00 (fun _ => 0) H6 [] ls (by omega) (by omega) hR0 hAX hMX hP hS7 (by rw [hm1]; exact lv_sub hl [4, 3, 2, 1, 0] rfl)
