/-! ===== the draft is edited: the class's side ===== -/
theorem ms_or {x : Int32} {r : Nat} (hr : r < 27) : ms (x ||| ((1 : Int32) <<< (nI r &&& 31))) = insR (nm r) (ms x) := by
  refine srt_eq (Srt_pw (ms_srt _)) (Srt_pw (insR_srt (ms_srt x))) fun a => ?_
  rw [insR_mem, mem_ms]
  constructor
  · rintro ⟨i, hi, hb, rfl⟩
    rw [bt_set (by omega) (by omega), Bool.or_eq_true, decide_eq_true_eq] at hb
    rcases hb with hb | rfl
    · exact Or.inr ((nm_ms hi).mpr hb)
    · exact Or.inl rfl
  · rintro (rfl | h)
    · exact ⟨r, hr, by rw [bt_set (by omega) (by omega), decide_eq_true rfl, Bool.or_true], rfl⟩
    · obtain ⟨i, hi, hb, rfl⟩ := mem_ms.mp h
      exact ⟨i, hi, by rw [bt_set (by omega) (by omega), hb]; rfl, rfl⟩
theorem ms_clr {x : Int32} {r : Nat} (hr : r < 27) : ms (x &&& (((1 : Int32) <<< (nI r &&& 31)) ^^^ (-1))) = rem (nm r) (ms x) := by
  refine srt_eq (Srt_pw (ms_srt _)) (Srt_pw (rem_srt (ms_srt x))) fun a => ?_
  rw [rem_mem, mem_ms]
  constructor
  · rintro ⟨i, hi, hb, rfl⟩
    rw [bt_clr (by omega) (by omega), Bool.and_eq_true, Bool.not_eq_true', decide_eq_false_iff_not] at hb
    exact ⟨(nm_ms hi).mpr hb.1, fun z => hb.2 (nm_inj hi hr z)⟩
  · rintro ⟨h, hne⟩
    obtain ⟨i, hi, hb, rfl⟩ := mem_ms.mp h
    exact ⟨i, hi, by
      rw [bt_clr (by omega) (by omega), hb, decide_eq_false (fun z => hne (by rw [z]))]
      rfl, rfl⟩
theorem okS_or {x : Int32} {r : Nat} (hx : okS x) (hr : r < 27) : okS (x ||| ((1 : Int32) <<< (nI r &&& 31))) := fun i h1 h2 => by
  rw [bt_set (by omega) h2, hx i h1 h2, decide_eq_false (by omega)]
  rfl
theorem shas {S : St} {i r : Nat} {x : Int32} (hR : Rw S i (ms x)) (hr : r < 27) : d4_has i (nI (nm r)) S = some (if bt x r = true then 1 else 0) := by
  rw [has_n hR, any_mem hR.2.2.2 (nm_ok hr)]
  by_cases hb : bt x r = true
  · rw [if_pos hb, if_pos (decide_eq_true ((nm_ms hr).mpr hb))]
  · rw [if_neg hb, if_neg (by
      rw [decide_eq_true_eq]
      exact fun z => hb ((nm_ms hr).mp z))]
theorem shas_f {S : St} {i r : Nat} {x : Int32} (hR : Rw S i (ms x)) (hr : r < 27) (hb : bt x r = false) : d4_has i (nI (nm r)) S = some 0 := by
  rw [shas hR hr, hb]
  rfl
theorem shas_t {S : St} {i r : Nat} {x : Int32} (hR : Rw S i (ms x)) (hr : r < 27) (hb : bt x r = true) : d4_has i (nI (nm r)) S = some 1 := by
  rw [shas hR hr, hb]
  rfl
theorem shas_no {S : St} {i : Nat} {x y : Int32} (hR : Rw S i (ms x)) (h : ∀ r, r < 27 → nI (nm r) ≠ y) : d4_has i y S = some 0 := by
  rw [has_n hR, if_neg]
  rw [List.any_eq_true]
  rintro ⟨q, hq, he⟩
  obtain ⟨r, hr, -, rfl⟩ := mem_ms.mp hq
  exact h r hr (of_decide_eq_true he)
theorem big_no {n : Nat} (hn : 1000 ≤ n) (h31 : n < 2 ^ 31) : ∀ r, r < 27 → nI (nm r) ≠ nI n := fun r hr z => by
  have h1 := nm_lt hr
  have := (nI_eq (a := nm r) (b := n) (by omega) h31).mp z
  omega
theorem neg_no : ∀ r, r < 27 → nI (nm r) ≠ -1 := fun r hr => nm1 (by
  have := nm_lt hr
  omega)
theorem cRow {r : Nat} {s : Int32} (hr : r < 1000000) : d1_isRow (nI r) s = some (if pt s r = r then 1 else 0) := by
  unfold d1_isRow
  have := pt_lt s r
  rw [if_neg (nI_pos (by omega)), if_neg (show ¬ (999999 : Int32) < nI r from nI_nlt (a := 999999) (by omega) (by decide)), part_n (by omega), cb_s]
  by_cases h : pt s r = r
  · rw [if_pos h, if_pos (by rw [h])]
  · rw [if_neg h, if_neg (fun z => h ((nI_eq (by omega) (by omega)).mp z))]
theorem cRow_m {s : Int32} : d1_isRow (-1) s = some 0 := if_pos neg1
theorem cRow_b {s : Int32} : d1_isRow 1000000 s = some 0 := by
  unfold d1_isRow
  rw [if_neg (by decide), if_pos (by decide)]
theorem cRow_k {s : Int32} (h : o3 s) : d1_isRow 1000 s = some 0 := by
  have := cRow (s := s) (r := 1000) (by decide)
  rw [if_neg (fun z => by
    have h1 := dg_pt (s := s) (r := 1000) (j := 3) (by decide)
    rw [z, if_neg (by rw [o3_hi h (by decide) (by decide)]; decide)] at h1
    exact absurd h1 (by decide))] at this
  exact this
theorem cCol {c : Nat} {s : Int32} (hc : c < 6) : d1_isColumn (nI c) s = some (if bt s c = true then 1 else 0) := by
  unfold d1_isColumn
  rw [if_neg (nI_pos (by omega)), if_neg (show ¬ (6 : Int32) ≤ nI c from nI_ge (b := 6) hc (by decide)), isIn_n, cb_s]
  cases bt s c
  · rfl
  · rfl
theorem cCol_m {s : Int32} : d1_isColumn (-1) s = some 0 := if_pos neg1
theorem cCol_6 {s : Int32} : d1_isColumn 6 s = some 0 := by
  unfold d1_isColumn
  rw [if_neg (by decide), if_pos (by decide)]
theorem cCol_3 {s : Int32} (h : o3 s) : d1_isColumn 3 s = some 0 := by
  have := cCol (s := s) (c := 3) (by decide)
  rw [o3_hi h (by decide) (by decide)] at this
  exact this
theorem cVal {w : Nat} (h : w < 10) : d1_isValue (nI w) = some 1 := by
  unfold d1_isValue
  rw [if_neg (nI_pos (by omega)), if_neg (show ¬ (9 : Int32) < nI w from nI_nlt (a := 9) (by omega) (by decide))]
theorem cVal_m : d1_isValue (-1) = some 0 := if_pos neg1
theorem cVal_10 : d1_isValue 10 = some 0 := by
  unfold d1_isValue
  rw [if_neg (by decide), if_pos (by decide)]
/-- the draft's cells move, nothing else -/
theorem RQ.dr {S S' : St} {G : Gt} {nt nv : Nat} {M M' : Lt} (h : RQ (S, G, nt, nv) M) (h1 : ∀ k, k ≠ 0 → k ≠ 44 → S'.1 k = S.1 k) (h2 : ∀ k, k ≠ 0 → S'.2 k = S.2 k) (hM : ∀ k, (k = 0 ∨ k = 1 ∨ k = 5) → M' k = M k) (hM6 : ∀ j, j ≠ 2 → j ≠ 3 → j ≠ 4 → j ≠ 5 → M' 6 j = M 6 j) (hD : RLd G nv S' M') : RQ (S', G, nt, nv) M' := by
  obtain ⟨hX, ⟨a1, a2, a3, a4, a5⟩, ⟨b1, b2, b3⟩, -, ⟨nu, c1, c2, c3, c4⟩⟩ := h
  have hb : nt ≤ 3 ∧ nv ≤ 10 := a1.1.1
  have hX' : SX S nt nv := hX
  obtain ⟨x1, x2, x3, x4, x5⟩ := hX'
  have n : ∀ k, k ≠ 0 → k ≠ 44 → S'.1 k = S.1 k ∧ S'.2 k = S.2 k := fun k q1 q2 => ⟨h1 k q1 q2, h2 k q1⟩
  have e0 := hM 0 (by omega)
  have e1 := hM 1 (by omega)
  refine ⟨⟨(h1 56 (by decide) (by decide)).trans x1, (h1 55 (by decide) (by decide)).trans x2, (h1 42 (by decide) (by decide)).trans x3, (h1 43 (by decide) (by decide)).trans x4, ?_⟩, ⟨a1, (hM6 0 (by decide) (by decide) (by decide) (by decide)).trans a2, (hM6 1 (by decide) (by decide) (by decide) (by decide)).trans a3, fun v hv => ⟨(a4 v hv).1.fr (by rw [e1]), (a4 v hv).2⟩, fun t ht => by rw [e0]; exact a5 t ht⟩, ?_, hD, ?_⟩
  · rcases hD with ⟨q, -⟩ | ⟨u, q1, q2, -⟩
    · exact Or.inl q
    · exact Or.inr ⟨u, q1, q2⟩
  · refine ⟨fun t ht => ?_, fun t ha hb => by rw [e0]; exact b2 t ha hb, fun v hv => ?_⟩
    · obtain ⟨q1, q2, q3⟩ := b1 t ht
      have ht' : t < nt := ht
      show okS (M' 0 (3 + t)) ∧ Rw S' (1 + 7 * t) (TbM M' t) ∧ FT G t (TbM M' t)
      rw [TbM.fr e0, e0]
      exact ⟨q1, Rw.fr q2 (n _ (by omega) (by omega)).1 (n _ (by omega) (by omega)).2, q3⟩
    · have hv' : v < nv := hv
      show Rw S' (22 + 2 * v) (VV G (TbM M') v)
      rw [TbM.fr e0]
      exact Rw.fr (b3 v hv) (n _ (by omega) (by omega)).1 (n _ (by omega) (by omega)).2
  · refine ⟨nu, c1, (h1 45 (by decide) (by decide)).trans c2, (hM6 6 (by decide) (by decide) (by decide) (by decide)).trans c3, fun j hj t ht => ?_⟩
    obtain ⟨p1, p2, p3⟩ := c4 j hj t ht
    show okS (M' 5 (3 * j + t)) ∧ (t < nt → Rw S' (3 + 7 * t + j) (ms (M' 5 (3 * j + t))) ∧ FT G t (ms (M' 5 (3 * j + t)))) ∧ (nt ≤ t → M' 5 (3 * j + t) = 0)
    rw [hM 5 (by omega)]
    exact ⟨p1, fun z => ⟨Rw.fr (p2 z).1 (n _ (by omega) (by omega)).1 (n _ (by omega) (by omega)).2, (p2 z).2⟩, p3⟩
theorem kopen_i {S : St} {G : Gt} {nt nv u : Nat} {M : Lt} (h : RQ (S, G, nt, nv) M) (hu : u < nv) : ∃ S1, k_open (nI u) (S, G, nt, nv) = some (nI (VV G (TbM M) u).length, (S1, G, nt, nv)) ∧ S1.1 44 = nI u ∧ Rw S1 0 (VV G (TbM M) u) ∧ (∀ k, k ≠ 0 → k ≠ 44 → S1.1 k = S.1 k) ∧ ∀ k, k ≠ 0 → S1.2 k = S.2 k := by
  obtain ⟨hb3, hb10⟩ := h.b
  obtain ⟨hO, hT, hok, hK, hsm, h61⟩ := h.st
  have hl12 := (FV_n hO hT hu).1
  have hVu : Rw S (22 + 2 * u) (VV G (TbM M) u) := h.2.2.1.2.2 u hu
  have hW : Rw (w1 S 44 (nI u)) (22 + 2 * u) (VV G (TbM M) u) := hVu.fr (w1_ne (by omega)) rfl
  obtain ⟨S1, e2, s1, f2⟩ := takeOver_n (i := 0) hW (by rw [dcap_0]; omega) (by omega)
  refine ⟨S1, ?_, by rw [f2.1 44 (by decide), w1_eq], s1, fun k a b => by rw [f2.1 k a, w1_ne b], fun k a => f2.2 k a⟩
  unfold k_open d10_open
  dsimp only
  rw [h.vw hu, cb_s, oc_s, gd_t hu, lt_d, e2, cb_s, size_n s1, cb_s]
  rfl
/-! add -/
theorem kadd_n {S : St} {G : Gt} {nt nv u : Nat} {M : Lt} {x : Int32} (h : RQ (S, G, nt, nv) M) (hD : DL G nv S M u) (hh : d4_has 0 x S = some 0) (hl : cnt (M 6 3) < 20) (hx : d1_isRow x (G u 1) = some 0) : k_add x (S, G, nt, nv) = some (-7200, (S, G, nt, nv)) := by
  unfold k_add d10_add
  dsimp only
  rw [lt_d, hD.oid h, oc_s, gd_t hD.1, hh, cb_s, if_pos z00, size_n hD.2.2.2.2.1, ms_len, cb_s, if_pos (show nI (cnt (M 6 3)) < (20 : Int32) from nI_lt (b := 20) hl (by decide)), lt_d, oc_s, gd_t hD.1, hx, cb_s, if_pos z00]
  rfl
theorem kadd_x {S : St} {G : Gt} {nt nv u r : Nat} {M : Lt} (h : RQ (S, G, nt, nv) M) (hD : DL G nv S M u) (hr : r < 27) (hx : bt (M 6 3) r = true ∨ cnt (M 6 3) = 20) : k_add (nI (nm r)) (S, G, nt, nv) = some (-7300, (S, G, nt, nv)) := by
  unfold k_add d10_add
  dsimp only
  rw [lt_d, hD.oid h, oc_s, gd_t hD.1, shas hD.2.2.2.2.1 hr, cb_s]
  by_cases hb : bt (M 6 3) r = true
  · rw [if_pos hb, if_neg z10]
    rfl
  · rw [if_neg hb, if_pos z00, size_n hD.2.2.2.2.1, ms_len, cb_s, hx.resolve_left hb, if_neg (show ¬ nI 20 < (20 : Int32) by decide)]
    rfl
theorem DL.ed {S S1 : St} {G : Gt} {nv u : Nat} {M M' : Lt} {y : Int32} (hD : DL G nv S M u) (h44 : S1.1 44 = S.1 44) (hR : Rw S1 0 (ms y)) (hy : okS y) (hv : ∀ r, r ∈ ms y → pt (G u 1) r = r) (h2 : M' 6 2 = M 6 2) (h3 : M' 6 3 = y) : DL G nv S1 M' u := ⟨hD.1, h44.trans hD.2.1, h2.trans hD.2.2.1, by rw [h3]; exact hy, by rw [h3]; exact hR, by rw [h3]; exact hv⟩
theorem RQ.ed {S S1 : St} {G : Gt} {nt nv u : Nat} {M : Lt} {y : Int32} (h : RQ (S, G, nt, nv) M) (hD : DL G nv S M u) (hF : Fr 0 S S1) (hR : Rw S1 0 (ms y)) (hy : okS y) (hv : ∀ r, r ∈ ms y → pt (G u 1) r = r) : RQ (S1, G, nt, nv) (w3 M 6 3 y) ∧ DL G nv S1 (w3 M 6 3 y) u := by
  have hD1 : DL G nv S1 (w3 M 6 3 y) u := hD.ed (hF.1 44 (by decide)) hR hy hv (w3_o (by decide)) w3_e
  exact ⟨h.dr (fun k a _ => hF.1 k a) (fun k a => hF.2 k a) (fun k hk => w3_n (by omega)) (fun j _ b _ _ => w3_o b) (Or.inr ⟨u, hD1⟩), hD1⟩
theorem kadd_i {S : St} {G : Gt} {nt nv u r : Nat} {M : Lt} (h : RQ (S, G, nt, nv) M) (hD : DL G nv S M u) (hr : r < 27) (hb : bt (M 6 3) r = false) (hl : cnt (M 6 3) < 20) (hv : pt (G u 1) (nm r) = nm r) : ∃ S1, k_add (nI (nm r)) (S, G, nt, nv) = some (nI (cnt (M 6 3 ||| ((1 : Int32) <<< (nI r &&& 31)))), (S1, G, nt, nv)) ∧ RQ (S1, G, nt, nv) (w3 M 6 3 (M 6 3 ||| ((1 : Int32) <<< (nI r &&& 31)))) := by
  obtain ⟨S1, p1, p2, p3⟩ := put_n hD.2.2.2.2.1 (nm_ok hr) (Or.inr (by rw [dcap_0, ms_len]; omega))
  rw [← ms_or hr] at p2
  refine ⟨S1, ?_, (h.ed hD p3 p2 (okS_or hD.2.2.2.1 hr) fun q hq => ?_).1⟩
  · unfold k_add d10_add
    dsimp only
    rw [lt_d, hD.oid h, oc_s, gd_t hD.1, shas_f hD.2.2.2.2.1 hr hb, cb_s, if_pos z00, size_n hD.2.2.2.2.1, ms_len, cb_s, if_pos (show nI (cnt (M 6 3)) < (20 : Int32) from nI_lt (b := 20) hl (by decide)), lt_d, oc_s, gd_t hD.1, cRow (nm_ok hr), cb_s, if_pos hv, if_neg z10, p1, cb_s, size_n p2, ms_len, cb_s]
    rfl
  · rw [ms_or hr] at hq
    rcases insR_mem.mp hq with rfl | z
    · exact hv
    · exact hD.2.2.2.2.2 q z
/-! takeOut -/
theorem ktake_o {S : St} {G : Gt} {nt nv u r : Nat} {M : Lt} (h : RQ (S, G, nt, nv) M) (hD : DL G nv S M u) (hr : r < 27) (hb : bt (M 6 3) r = false) : k_takeOut (nI (nm r)) (S, G, nt, nv) = some (-7400, (S, G, nt, nv)) := by
  unfold k_takeOut d10_takeOut
  dsimp only
  rw [lt_d, hD.oid h, oc_s, gd_t hD.1, shas_f hD.2.2.2.2.1 hr hb, cb_s, if_pos z00]
  rfl
theorem okS_cl {x : Int32} {r : Nat} (hx : okS x) : okS (x &&& (((1 : Int32) <<< (nI r &&& 31)) ^^^ (-1))) := okS_a hx
theorem ktake_i {S : St} {G : Gt} {nt nv u r : Nat} {M : Lt} (h : RQ (S, G, nt, nv) M) (hD : DL G nv S M u) (hr : r < 27) (hb : bt (M 6 3) r = true) : ∃ S1, k_takeOut (nI (nm r)) (S, G, nt, nv) = some (nI (cnt (M 6 3 &&& (((1 : Int32) <<< (nI r &&& 31)) ^^^ (-1)))), (S1, G, nt, nv)) ∧ RQ (S1, G, nt, nv) (w3 M 6 3 (M 6 3 &&& (((1 : Int32) <<< (nI r &&& 31)) ^^^ (-1)))) := by
  obtain ⟨S1, p1, p2, p3⟩ := remove_n hD.2.2.2.2.1 (nm_ok hr)
  rw [← ms_clr hr] at p2
  refine ⟨S1, ?_, (h.ed hD p3 p2 (okS_cl hD.2.2.2.1) fun q hq => ?_).1⟩
  · unfold k_takeOut d10_takeOut
    dsimp only
    rw [lt_d, hD.oid h, oc_s, gd_t hD.1, shas_t hD.2.2.2.2.1 hr hb, cb_s, if_neg z10, p1, cb_s, size_n p2, ms_len, cb_s]
    rfl
  · rw [ms_clr hr] at hq
    exact hD.2.2.2.2.2 q (rem_mem.mp hq).1
/-! change -/
theorem kch_c {S : St} {G : Gt} {nt nv u : Nat} {M : Lt} {x y z : Int32} (h : RQ (S, G, nt, nv) M) (hD : DL G nv S M u) (hc : d1_isColumn y (G u 1) = some 0) : k_change x y z (S, G, nt, nv) = some (-7200, (S, G, nt, nv)) := by
  unfold k_change d10_change
  dsimp only
  rw [lt_d, hD.oid h, oc_s, gd_t hD.1, lt_d, oc_s, gd_t hD.1, hc, cb_s, if_pos z00]
  rfl
theorem kch_v {S : St} {G : Gt} {nt nv u c : Nat} {M : Lt} {x z : Int32} (h : RQ (S, G, nt, nv) M) (hD : DL G nv S M u) (hc6 : c < 6) (hc : d1_isValue z = some 0) : k_change x (nI c) z (S, G, nt, nv) = some (-7200, (S, G, nt, nv)) := by
  by_cases hb : bt (G u 1) c = true
  · unfold k_change d10_change
    dsimp only
    rw [lt_d, hD.oid h, oc_s, gd_t hD.1, lt_d, oc_s, gd_t hD.1, cCol hc6, cb_s, if_pos hb, if_neg z10, hc, cb_s, if_pos z00]
    rfl
  · exact kch_c h hD (by rw [cCol hc6, if_neg hb])
theorem kch_o {S : St} {G : Gt} {nt nv u c w r : Nat} {M : Lt} (h : RQ (S, G, nt, nv) M) (hD : DL G nv S M u) (hc6 : c < 6) (hbc : bt (G u 1) c = true) (hw : w < 10) (hr : r < 27) (hb : bt (M 6 3) r = false) : k_change (nI (nm r)) (nI c) (nI w) (S, G, nt, nv) = some (-7400, (S, G, nt, nv)) := by
  unfold k_change d10_change
  dsimp only
  rw [lt_d, hD.oid h, oc_s, gd_t hD.1, lt_d, oc_s, gd_t hD.1, cCol hc6, cb_s, if_pos hbc, if_neg z10, cVal hw, cb_s, if_neg z10, shas_f hD.2.2.2.2.1 hr hb, cb_s, if_pos z00]
  rfl
def e3 (r c w : Nat) : Nat := r - d3 r c * 3 ^ c + w * 3 ^ c
theorem e3_d : ∀ r : Fin 27, ∀ c w : Fin 3, nI r.1 + (nI w.1 - nI (d3 r.1 c.1)) * nI (3 ^ c.1) = nI (e3 r.1 c.1 w.1) ∧ e3 r.1 c.1 w.1 < 27 ∧ nm (e3 r.1 c.1 w.1) = sd (nm r.1) c.1 w.1 := by decide +kernel
theorem kch_t {S : St} {G : Gt} {nt nv u c w r : Nat} {M : Lt} (h : RQ (S, G, nt, nv) M) (hD : DL G nv S M u) (hc3 : c < 3) (hbc : bt (G u 1) c = true) (hw : w < 3) (hr : r < 27) (hb : bt (M 6 3) r = true) (he : e3 r c w ≠ r) (hb2 : bt (M 6 3) (e3 r c w) = true) : k_change (nI (nm r)) (nI c) (nI w) (S, G, nt, nv) = some (-7400, (S, G, nt, nv)) := by
  obtain ⟨-, e27, enm⟩ := e3_d ⟨r, hr⟩ ⟨c, hc3⟩ ⟨w, hw⟩
  dsimp only at e27 enm
  have h1 := nm_lt hr
  have h2 := nm_lt e27
  unfold k_change d10_change
  dsimp only
  rw [lt_d, hD.oid h, oc_s, gd_t hD.1, lt_d, oc_s, gd_t hD.1, cCol (by omega), cb_s, if_pos hbc, if_neg z10, cVal (by omega), cb_s, if_neg z10, shas_t hD.2.2.2.2.1 hr hb, cb_s, if_neg z10, with_n (by omega) (by omega) (by omega), cb_s, ← enm, jn_d, if_neg (fun z => he (nm_inj e27 hr ((nI_eq (by omega) (by omega)).mp z))), shas_t hD.2.2.2.2.1 e27 hb2, cb_s, if_neg z10]
  rfl
theorem kch_i {S : St} {G : Gt} {nt nv u c w r : Nat} {M : Lt} (h : RQ (S, G, nt, nv) M) (hD : DL G nv S M u) (hc3 : c < 3) (hbc : bt (G u 1) c = true) (hw : w < 3) (hr : r < 27) (hb : bt (M 6 3) r = true) (he : e3 r c w = r ∨ bt (M 6 3) (e3 r c w) = false) : ∃ S1, k_change (nI (nm r)) (nI c) (nI w) (S, G, nt, nv) = some (nI (nm (e3 r c w)), (S1, G, nt, nv)) ∧ RQ (S1, G, nt, nv) (w3 M 6 3 ((M 6 3 &&& (((1 : Int32) <<< (nI r &&& 31)) ^^^ (-1))) ||| ((1 : Int32) <<< (nI (e3 r c w) &&& 31)))) := by
  obtain ⟨-, e27, enm⟩ := e3_d ⟨r, hr⟩ ⟨c, hc3⟩ ⟨w, hw⟩
  dsimp only at e27 enm
  have h1 := nm_lt hr
  have h2 := nm_lt e27
  have hl := hD.len
  have hrm : nm r ∈ ms (M 6 3) := (nm_ms hr).mpr hb
  have hrl := rem_lt hrm
  obtain ⟨S1, p1, p2, p3⟩ := remove_n hD.2.2.2.2.1 (nm_ok hr)
  obtain ⟨S2, p4, p5, p6⟩ := put_n p2 (nm_ok e27) (Or.inr (by rw [dcap_0]; omega))
  rw [← ms_clr hr, ← ms_or e27] at p5
  have hF : Fr 0 S S2 := ⟨fun k a => (p6.1 k a).trans (p3.1 k a), fun k a => (p6.2 k a).trans (p3.2 k a)⟩
  refine ⟨S2, ?_, (h.ed hD hF p5 (okS_or (okS_cl hD.2.2.2.1) e27) fun q hq => ?_).1⟩
  · unfold k_change d10_change
    dsimp only
    rw [lt_d, hD.oid h, oc_s, gd_t hD.1, lt_d, oc_s, gd_t hD.1, cCol (by omega), cb_s, if_pos hbc, if_neg z10, cVal (by omega), cb_s, if_neg z10, shas_t hD.2.2.2.2.1 hr hb, cb_s, if_neg z10, with_n (by omega) (by omega) (by omega), cb_s, ← enm, jn_d, p1, cb_s, p4, cb_s]
    by_cases hee : e3 r c w = r
    · rw [if_pos (by rw [hee])]
      rfl
    · rw [if_neg (fun z => hee (nm_inj e27 hr ((nI_eq (by omega) (by omega)).mp z))), shas_f hD.2.2.2.2.1 e27 (he.resolve_left hee), cb_s, if_pos z00]
      rfl
  · rw [ms_or e27, ms_clr hr] at hq
    rcases insR_mem.mp hq with rfl | z
    · rw [enm]
      exact sd_val (hD.2.2.2.2.2 _ hrm) hbc (by omega) (by omega)
    · exact hD.2.2.2.2.2 q (rem_mem.mp z).1
