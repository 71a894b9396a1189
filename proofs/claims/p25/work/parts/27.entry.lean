/-! ===== the entry ===== -/
def S00 : St := (fun i => if i = 44 ∨ i = 47 ∨ i = 48 then -1 else 0, fun _ _ => 0)
def G00 : Gt := fun _ _ => 0
def M00 : Lt := fun _ _ => 0
def T00 : Tt := ((S00, G00, 0, 0), M00, 20)
def L00 : List Cd := [(5, 0), (5, 1), (5, 2), (0, 0), (1, 0), (5, 3), (5, 4), (5, 5), (5, 6)]
def ad0 (h0 q1 q2 q3 q4 q5 q6 q7 q8 : Nat) : Cd → Nat := adx (fun _ => 0) [((5, 0), h0), ((5, 1), q1), ((5, 2), q2), ((0, 0), q3), ((1, 0), q4), ((5, 3), q5), ((5, 4), q6), ((5, 5), q7), ((5, 6), q8)]
def admx : List (Nat × Nat) → Nat → Nat
  | [], _ => 0
  | (d, q) :: r, c => if c = d then q else admx r c
def BL (ad : Nat → Nat) : Nat → Prop := fun q => ∃ c, c ∈ La ∧ ad c = q
def AL (n0 : Nat) (ad : Nat → Nat) : Nat → Prop := fun q => n0 ≤ q ∧ ¬ BL ad q
theorem wl00 {cA : Nat → ClassId} {h0 q1 q2 q3 q4 q5 q6 q7 q8 : Nat} : [(h0, .inr (8, [.ref q1, .int 0, .ref q2, .int 0, .ref q3, .null, .ref q5, .ref q6, .int 0])), (q1, .inl (cA 3, 3, .inr (.inr (.inr (.inr (fun _ => none)))))), (q2, .inl (cA 4, 10, .inr (.inr (.inr (.inr (fun _ => none)))))), (q3, .inr (3, [.ref q4, .int 0])), (q4, .inl (cA 0, 20, .inl (fun _ => 0))), (q5, .inr (0, [.int 0, .int (-1), .int (-1)])), (q6, .inr (7, [.ref q7, .ref q8, .int 0, .int 0, .int 0, .int 0])), (q7, .inl (cA 0, 9, .inl (fun _ => 0))), (q8, .inl (cA 0, 9, .inl (fun _ => 0)))] = wl L00 (ad0 h0 q1 q2 q3 q4 q5 q6 q7 q8) (dce cA (ad0 h0 q1 q2 q3 q4 q5 q6 q7 q8) G00 S00) := by
  have f1 : (fun j => if j < (S00.1 56).toNatClampNeg then some (ad0 h0 q1 q2 q3 q4 q5 q6 q7 q8 (2, j)) else none) = fun _ => none := funext fun j => if_neg (Nat.not_lt_zero _)
  have f2 : (fun j => if j < (S00.1 55).toNatClampNeg then some (ad0 h0 q1 q2 q3 q4 q5 q6 q7 q8 (4, j)) else none) = fun _ => none := funext fun j => if_neg (Nat.not_lt_zero _)
  have e1 : dce cA (ad0 h0 q1 q2 q3 q4 q5 q6 q7 q8) G00 S00 (5, 1) = .inl (cA 3, 3, .inr (.inr (.inr (.inr (fun _ => none))))) := congrArg (fun f => (.inl (cA 3, 3, .inr (.inr (.inr (.inr f)))) : va_E)) f1
  have e2 : dce cA (ad0 h0 q1 q2 q3 q4 q5 q6 q7 q8) G00 S00 (5, 2) = .inl (cA 4, 10, .inr (.inr (.inr (.inr (fun _ => none))))) := congrArg (fun f => (.inl (cA 4, 10, .inr (.inr (.inr (.inr f)))) : va_E)) f2
  simp only [wl, L00, List.map_cons, List.map_nil]
  rw [e1, e2]
  rfl
theorem wf00 : WF L00 G00 0 0 ∧ EX L00 0 0 := by
  have hm : ∀ c, c ∈ L00 → inE 0 0 c := by
    intro c hc
    simp only [L00, List.mem_cons, List.not_mem_nil, or_false] at hc
    rcases hc with rfl | rfl | rfl | rfl | rfl | rfl | rfl | rfl | rfl
    · exact Or.inl ⟨rfl, by decide⟩
    · exact Or.inl ⟨rfl, by decide⟩
    · exact Or.inl ⟨rfl, by decide⟩
    · exact Or.inr (Or.inl ⟨show (0 : Nat) < 2 from by decide, Or.inl (show (0 : Nat) < 1 + 7 * 0 from by decide)⟩)
    · exact Or.inr (Or.inl ⟨show (1 : Nat) < 2 from by decide, Or.inl (show (0 : Nat) < 1 + 7 * 0 from by decide)⟩)
    · exact Or.inl ⟨rfl, by decide⟩
    · exact Or.inl ⟨rfl, by decide⟩
    · exact Or.inl ⟨rfl, by decide⟩
    · exact Or.inl ⟨rfl, by decide⟩
  refine ⟨⟨by decide, fun j hj => ?_, by decide, fun t ht => absurd ht (Nat.not_lt_zero _), fun v hv => absurd hv (Nat.not_lt_zero _), fun i hi => ?_, fun v hv => absurd hv (Nat.not_lt_zero _)⟩, hm⟩
  · have z : j = 0 ∨ j = 1 ∨ j = 2 ∨ j = 3 ∨ j = 4 ∨ j = 5 ∨ j = 6 := by omega
    rcases z with rfl | rfl | rfl | rfl | rfl | rfl | rfl <;> decide
  · have z : inE 0 0 (0, i) ∨ inE 0 0 (1, i) := hi.imp (hm _) (hm _)
    simp only [inE] at z
    omega
set_option maxRecDepth 100000 in
set_option maxHeartbeats 4000000 in
theorem start_of {p : Program} {e : Env} {s : State} {m : MethodId} {below : List Frame} {meth : Method} {c : Code} (hlaw : ∀ (xs : Nat → Int32) (L : Nat), L ≤ 260 → ∃ r, p_law xs L T00 = some r) (l : Launch) (hflags : l.flags = flags0) {b L : Nat} {xs : Nat → Int32} (hL : L ≤ 260) (C0 : lw_At p s m meth c b L xs) : W p l e room_1 s m #[Value.ref b] below meth c s.heap [] 0 0 (lw_Z below #[Value.ref b] s) (entryFrame m ([Value.ref b] : List Value).toArray 14) := by
  obtain ⟨hx, hb, hr, hml, hown, hts, hXs, hbl, hlocks, hgv⟩ := id C0
  have hT0 : ∀ w ∈ Cond.initialized "LensbenchLaw" :: ALL, w.before #[Value.ref b] s = true := fun w hw => hts w (by
      rcases List.mem_cons.mp hw with rfl | hw
      · exact (List.mem_filter.mp a_15).1
      · exact (List.mem_filter.mp hw).1)
  have hC : CallFix p m c code 14 s #[Value.ref b] (Cond.initialized "LensbenchLaw" :: ALL) "LensbenchLaw" := ⟨hx, hb, hml, hown, hT0⟩
  have hfl : l.stackTraces = false := by
      unfold Launch.stackTraces
      rw [hflags]
      decide
  obtain ⟨D, cA, hKX, hTX0, hNX⟩ := law_start hts hgv
  have hTX : TX (fun q => s.heap.size ≤ q) s := hTX0 _ (fun a ha => Nat.not_le.mpr ha)
  have hS : va_S (fun q => s.heap.size ≤ q) s.heap s.heap [] := va_S.rf
  have hP0 : ∀ H : Heap, va_P D vwCl [] H := fun H k q h => by simp at h
  have hD0 : ∀ A : Nat → Prop, va_D A [] := fun A => ⟨fun i j p q h => by simp at h, fun k q h => by simp at h⟩
  have hl := lv_entry ([.ref b]) (n := 14) (Nat.le_of_ble_eq_true rfl)
  rw [lg_entry_eq]
  generalize (lg_sl ([.ref b]) ++ List.replicate (14 - (lg_sl ([.ref b])).length) Slot.unset).toArray = ls at hl ⊢
  have hl : lv_has ls 14 [(0, .ref b)] := hl
  have hA0 : ∀ w ∈ ALL, w.before #[Value.ref b] s = true := fun w hw => hts w (List.mem_filter.mp hw).1
  refine va_new (ci := 8) (fs := [.null, .int 0, .null, .int 0, .null, .null, .null, .null, .int 0]) (C := RX10) (T := TX10) (N := 9) hx hb hA0 inX10 tyX10 tyX10_ok hown (hA0 _ a_36) (hA0 _ a_37) (hA0 _ a_16) hKX.1 (hP0 s.heap) (hD0 _) hS (fun _ h => h) rfl dfX10 (Nat.le_of_ble_eq_true rfl) (Nat.le_of_ble_eq_true rfl) dL_law_0 (fun h0 H1 hP hD hS1 => ?_)
  refine lv_dup hx hb dL_law_3 rfl ?_
  have hq0 : s.heap.size ≤ h0 := hD.2 0 _ rfl
  refine Ct_IR (As := []) (rest := [.ref h0]) hC (c_X10_init (h0 := h0) (sz := H1.size)) qi_X10 a_38 ⟨Nat.le_of_ble_eq_true rfl, Nat.le_of_ble_eq_true rfl⟩ ⟨rfl, hP⟩ hKX rfl hl.1 (Nat.le_of_ble_eq_true rfl) dL_law_4 ⟨Nat.le_of_ble_eq_true rfl, Nat.le_of_ble_eq_true rfl⟩ hS1 (nwA hq0 (fun x hx => Nat.le_trans hS1.1 hx)) (fun H2 locs hQ hz2 hk2 hS2 => ?_)
  obtain ⟨q1, q2, q3, q4, q5, q6, q7, q8, hP2, hD2⟩ := hQ
  rw [wl00] at hP2 hD2
  have hg2 : ∀ (k : Nat) (q : Nat × va_E), (wl L00 (ad0 h0 q1 q2 q3 q4 q5 q6 q7 q8) (dce cA (ad0 h0 q1 q2 q3 q4 q5 q6 q7 q8) G00 S00))[k]? = some q → s.heap.size ≤ q.1 ∧ q.1 < H2.size := fun k q hq => ⟨nwA (e := .inr (8, [.null, .int 0, .null, .int 0, .null, .null, .null, .null, .int 0])) hq0 (fun x hx => Nat.le_trans hS1.1 hx) _ (hD2.2 k q hq), (hP2 k q hq).lt⟩
  generalize hadg : ad0 h0 q1 q2 q3 q4 q5 q6 q7 q8 = adc at hP2 hD2 hg2
  have hx0 : adc (5, 0) = h0 := by rw [← hadg]; rfl
  refine va_forget hS2.2.2 ?_
  have hS2 : va_S (fun q => s.heap.size ≤ q) s.heap H2 [] := ⟨hS2.1, hS2.2.1, fun l h => by simp at h⟩
  refine lv_astore_n (lv' := [(1, .ref h0), (0, .ref b)]) hx hb dL_law_7 rfl hl (by decide) rfl (fun ls hl => ?_)
  refine lv_bipush (v := 6) hx hb dL_law_8 (by decide) ?_
  refine l_newI (n := 6) (N := 6) (A := fun q => H2.size ≤ q) (H0 := H2) (ws := ([] : va_W)) hx hb a_61 hC hKX.1 (hP0 H2) (hD0 (fun q => H2.size ≤ q)) va_S.rf (fun _ h => h) (by decide) (by decide) (by decide) (Nat.le_of_ble_eq_true rfl) (Nat.le_of_ble_eq_true rfl) dL_law_10 (fun a0 K0 hP10 hD10 hS10 => ?_)
  refine lv_astore_n (lv' := [(2, .ref a0), (1, .ref h0), (0, .ref b)]) hx hb dL_law_12 rfl hl (by decide) rfl (fun ls hl => ?_)
  refine lv_bipush (v := 10) hx hb dL_law_13 (by decide) ?_
  refine l_newI (n := 10) (N := 10) (A := fun q => H2.size ≤ q) (H0 := H2) (ws := (([] : va_W) ++ [(a0, .inl (cA 0, 6, .inl (fun _ => 0)))])) hx hb a_61 hC hKX.1 hP10 hD10 hS10 (fun _ h => h) (by decide) (by decide) (by decide) (Nat.le_of_ble_eq_true rfl) (Nat.le_of_ble_eq_true rfl) dL_law_15 (fun a1 K1 hP11 hD11 hS11 => ?_)
  refine lv_astore_n (lv' := [(3, .ref a1), (2, .ref a0), (1, .ref h0), (0, .ref b)]) hx hb dL_law_17 rfl hl (by decide) rfl (fun ls hl => ?_)
  refine lv_bipush (v := 10) hx hb dL_law_18 (by decide) ?_
  refine l_newI (n := 10) (N := 10) (A := fun q => H2.size ≤ q) (H0 := H2) (ws := ((([] : va_W) ++ [(a0, .inl (cA 0, 6, .inl (fun _ => 0)))]) ++ [(a1, .inl (cA 0, 10, .inl (fun _ => 0)))])) hx hb a_61 hC hKX.1 hP11 hD11 hS11 (fun _ h => h) (by decide) (by decide) (by decide) (Nat.le_of_ble_eq_true rfl) (Nat.le_of_ble_eq_true rfl) dL_law_20 (fun a2 K2 hP12 hD12 hS12 => ?_)
  refine lv_astore (lv' := [(4, .ref a2), (3, .ref a1), (2, .ref a0), (1, .ref h0), (0, .ref b)]) hx hb dL_law_22 hl (by decide) rfl (fun ls hl => ?_)
  refine lv_bipush (v := 10) hx hb dL_law_24 (by decide) ?_
  refine l_newI (n := 10) (N := 10) (A := fun q => H2.size ≤ q) (H0 := H2) (ws := (((([] : va_W) ++ [(a0, .inl (cA 0, 6, .inl (fun _ => 0)))]) ++ [(a1, .inl (cA 0, 10, .inl (fun _ => 0)))]) ++ [(a2, .inl (cA 0, 10, .inl (fun _ => 0)))])) hx hb a_61 hC hKX.1 hP12 hD12 hS12 (fun _ h => h) (by decide) (by decide) (by decide) (Nat.le_of_ble_eq_true rfl) (Nat.le_of_ble_eq_true rfl) dL_law_26 (fun a3 K3 hP13 hD13 hS13 => ?_)
  refine lv_astore (lv' := [(5, .ref a3), (4, .ref a2), (3, .ref a1), (2, .ref a0), (1, .ref h0), (0, .ref b)]) hx hb dL_law_28 hl (by decide) rfl (fun ls hl => ?_)
  refine lv_iconst (v := 3) hx hb dL_law_30 (by decide) ?_
  refine l_newI (n := 3) (N := 3) (A := fun q => H2.size ≤ q) (H0 := H2) (ws := ((((([] : va_W) ++ [(a0, .inl (cA 0, 6, .inl (fun _ => 0)))]) ++ [(a1, .inl (cA 0, 10, .inl (fun _ => 0)))]) ++ [(a2, .inl (cA 0, 10, .inl (fun _ => 0)))]) ++ [(a3, .inl (cA 0, 10, .inl (fun _ => 0)))])) hx hb a_61 hC hKX.1 hP13 hD13 hS13 (fun _ h => h) (by decide) (by decide) (by decide) (Nat.le_of_ble_eq_true rfl) (Nat.le_of_ble_eq_true rfl) dL_law_31 (fun a4 K4 hP14 hD14 hS14 => ?_)
  refine lv_astore (lv' := [(6, .ref a4), (5, .ref a3), (4, .ref a2), (3, .ref a1), (2, .ref a0), (1, .ref h0), (0, .ref b)]) hx hb dL_law_33 hl (by decide) rfl (fun ls hl => ?_)
  refine lv_bipush (v := 15) hx hb dL_law_35 (by decide) ?_
  refine l_newI (n := 15) (N := 15) (A := fun q => H2.size ≤ q) (H0 := H2) (ws := (((((([] : va_W) ++ [(a0, .inl (cA 0, 6, .inl (fun _ => 0)))]) ++ [(a1, .inl (cA 0, 10, .inl (fun _ => 0)))]) ++ [(a2, .inl (cA 0, 10, .inl (fun _ => 0)))]) ++ [(a3, .inl (cA 0, 10, .inl (fun _ => 0)))]) ++ [(a4, .inl (cA 0, 3, .inl (fun _ => 0)))])) hx hb a_61 hC hKX.1 hP14 hD14 hS14 (fun _ h => h) (by decide) (by decide) (by decide) (Nat.le_of_ble_eq_true rfl) (Nat.le_of_ble_eq_true rfl) dL_law_37 (fun a5 K5 hP15 hD15 hS15 => ?_)
  refine lv_astore (lv' := [(7, .ref a5), (6, .ref a4), (5, .ref a3), (4, .ref a2), (3, .ref a1), (2, .ref a0), (1, .ref h0), (0, .ref b)]) hx hb dL_law_39 hl (by decide) rfl (fun ls hl => ?_)
  refine lv_bipush (v := 7) hx hb dL_law_41 (by decide) ?_
  refine l_newI (n := 7) (N := 7) (A := fun q => H2.size ≤ q) (H0 := H2) (ws := ((((((([] : va_W) ++ [(a0, .inl (cA 0, 6, .inl (fun _ => 0)))]) ++ [(a1, .inl (cA 0, 10, .inl (fun _ => 0)))]) ++ [(a2, .inl (cA 0, 10, .inl (fun _ => 0)))]) ++ [(a3, .inl (cA 0, 10, .inl (fun _ => 0)))]) ++ [(a4, .inl (cA 0, 3, .inl (fun _ => 0)))]) ++ [(a5, .inl (cA 0, 15, .inl (fun _ => 0)))])) hx hb a_61 hC hKX.1 hP15 hD15 hS15 (fun _ h => h) (by decide) (by decide) (by decide) (Nat.le_of_ble_eq_true rfl) (Nat.le_of_ble_eq_true rfl) dL_law_43 (fun a6 K6 hP16 hD16 hS16 => ?_)
  refine lv_astore (lv' := [(8, .ref a6), (7, .ref a5), (6, .ref a4), (5, .ref a3), (4, .ref a2), (3, .ref a1), (2, .ref a0), (1, .ref h0), (0, .ref b)]) hx hb dL_law_45 hl (by decide) rfl (fun ls hl => ?_)
  generalize hadm : admx [(0, a0), (1, a1), (2, a2), (3, a3), (4, a4), (5, a5), (6, a6)] = adm
  have e20 : adm 0 = a0 := by rw [← hadm]; rfl
  have e21 : adm 1 = a1 := by rw [← hadm]; rfl
  have e22 : adm 2 = a2 := by rw [← hadm]; rfl
  have e23 : adm 3 = a3 := by rw [← hadm]; rfl
  have e24 : adm 4 = a4 := by rw [← hadm]; rfl
  have e25 : adm 5 = a5 := by rw [← hadm]; rfl
  have e26 : adm 6 = a6 := by rw [← hadm]; rfl
  have hW : wl La adm (lce cA M00) = (((((((([] : va_W) ++ [(a0, .inl (cA 0, 6, .inl (fun _ => 0)))]) ++ [(a1, .inl (cA 0, 10, .inl (fun _ => 0)))]) ++ [(a2, .inl (cA 0, 10, .inl (fun _ => 0)))]) ++ [(a3, .inl (cA 0, 10, .inl (fun _ => 0)))]) ++ [(a4, .inl (cA 0, 3, .inl (fun _ => 0)))]) ++ [(a5, .inl (cA 0, 15, .inl (fun _ => 0)))]) ++ [(a6, .inl (cA 0, 7, .inl (fun _ => 0)))]) := by
      show [(adm 0, lce cA M00 0), (adm 1, lce cA M00 1), (adm 2, lce cA M00 2), (adm 3, lce cA M00 3), (adm 4, lce cA M00 4), (adm 5, lce cA M00 5), (adm 6, lce cA M00 6)] = _
      rw [e20, e21, e22, e23, e24, e25, e26]
      rfl
  have hL9 : HP D (fun q => H2.size ≤ q) La adm (lce cA M00) K6 := by
      unfold HP
      rw [hW]
      exact ⟨hP16, hD16⟩
  have hge : ∀ c, c ∈ La → H2.size ≤ adm c ∧ adm c < K6.size := fun c hc => by
      obtain ⟨k, -, h2⟩ := wl_get (ad := adm) (ce := lce cA M00) hc
      exact ⟨hL9.2.2 k _ h2, (hL9.1 k _ h2).lt⟩
  have hLX : LX D cA (BL adm) La adm M00 K6 := ⟨hL9.1, hL9.2.re (fun k x hx => by
      rw [List.getElem?_map] at hx
      obtain ⟨c1, z1, rfl⟩ := Option.map_eq_some_iff.mp hx
      exact ⟨c1, List.mem_of_getElem? z1, rfl⟩)⟩
  have k62 : ∀ q : Nat, q < H2.size → K6[q]? = H2[q]? := fun q hq => hS16.2.1 q hq (Nat.not_le.mpr hq)
  have hCX : CX D cA (AL s.heap.size adm) h0 (S00, G00, 0, 0) K6 := ⟨adc, L00, ⟨hP2.kept (fun k q hq => k62 _ (hg2 k q hq).2), hD2.re (fun k q hq => ⟨(hg2 k q hq).1, fun z => by
      obtain ⟨c1, z1, z2⟩ := z
      have z3 := (hge c1 z1).1
      have z4 := (hg2 k q hq).2
      omega⟩)⟩, wf00.1, wf00.2, hx0⟩
  have hS7 : va_S (fun q => s.heap.size ≤ q) s.heap K6 [] := ⟨Nat.le_trans hS2.1 hS16.1, fun q h1 h2 => (k62 q (Nat.lt_of_lt_of_le h1 hS2.1)).trans (hS2.2.1 q h1 h2), fun l h => by simp at h⟩
  obtain ⟨r, hr9⟩ := hlaw xs L hL
  have hb2 : H2.size ≥ s.heap.size := hS2.1
  rw [← e20, ← e21, ← e22, ← e23, ← e24, ← e25, ← e26] at hl
  refine va_forget (fun q hq => Nat.le_trans hS2.1 (hS16.2.2 q hq)) ?_
  refine W.widen (k := 20 * 20) (n := 200 * 20) (Nat.le_of_ble_eq_true rfl) (Nat.le_of_ble_eq_true rfl) ?_
  exact c_p_law (A := AL s.heap.size adm) (B := BL adm) (x0 := h0) (ad := adm) (T := T00) (fun q z => z.2) hfl hL C0 hKX hTX hNX (fun q z => by
      rcases z with z | ⟨c1, z1, rfl⟩
      · exact z.1
      · exact Nat.le_trans hb2 (hge c1 z1).1) (fun {T H locs} hX9 hS9 q hq => ⟨Nat.le_trans hS9.1 hq, fun z => by
      obtain ⟨c1, z1, rfl⟩ := z
      obtain ⟨k, -, h2⟩ := wl_get (ad := adm) (ce := lce cA T.2.1) z1
      have h3 := (hX9.2.1 k _ h2).lt
      exact absurd h3 (Nat.not_lt.mpr hq)⟩) ⟨hCX, hLX⟩ hS7 (lv_sub hl [8, 7, 6, 5, 4, 3, 2, 1, 0] rfl) hr9
