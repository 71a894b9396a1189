/-! ===== the draft's calls that only look ===== -/
theorem nd_conflict {S : St} {G : Gt} {nt nv : Nat} (h : S.1 44 = -1) : k_conflict (S, G, nt, nv) = some (-7300, (S, G, nt, nv)) := by
  unfold k_conflict d10_conflict
  dsimp only
  rw [lt_d, h, oid_m1, oc_o]
  rfl
theorem nd_conflictRow {S : St} {G : Gt} {nt nv : Nat} {x : Int32} (h : S.1 44 = -1) : k_conflictRow x (S, G, nt, nv) = some (-7300, (S, G, nt, nv)) := by
  unfold k_conflictRow d10_conflictRow
  dsimp only
  rw [lt_d, h, oid_m1, oc_o]
  rfl
theorem nd_changes {S : St} {G : Gt} {nt nv : Nat} (h : S.1 44 = -1) : k_changes (S, G, nt, nv) = some (-7300, (S, G, nt, nv)) := by
  unfold k_changes d10_changes
  dsimp only
  rw [lt_d, h, oid_m1, oc_o]
  rfl
theorem nd_fewest {S : St} {G : Gt} {nt nv : Nat} (h : S.1 44 = -1) : k_fewest (S, G, nt, nv) = some (-7300, (S, G, nt, nv)) := by
  unfold k_fewest d10_fewest
  dsimp only
  rw [lt_d, h, oid_m1, oc_o]
  rfl
theorem nd_draftRow {S : St} {G : Gt} {nt nv : Nat} {x : Int32} (h : S.1 44 = -1) : k_draftRow x (S, G, nt, nv) = some (-7300, (S, G, nt, nv)) := by
  unfold k_draftRow d10_draftRow
  dsimp only
  rw [lt_d, h, oid_m1, oc_o]
  rfl
theorem nd_add {S : St} {G : Gt} {nt nv : Nat} {x : Int32} (h : S.1 44 = -1) : k_add x (S, G, nt, nv) = some (-7300, (S, G, nt, nv)) := by
  unfold k_add d10_add
  dsimp only
  rw [lt_d, h, oid_m1, oc_o]
  rfl
theorem nd_takeOut {S : St} {G : Gt} {nt nv : Nat} {x : Int32} (h : S.1 44 = -1) : k_takeOut x (S, G, nt, nv) = some (-7300, (S, G, nt, nv)) := by
  unfold k_takeOut d10_takeOut
  dsimp only
  rw [lt_d, h, oid_m1, oc_o]
  rfl
theorem nd_change {S : St} {G : Gt} {nt nv : Nat} {x y z : Int32} (h : S.1 44 = -1) : k_change x y z (S, G, nt, nv) = some (-7300, (S, G, nt, nv)) := by
  unfold k_change d10_change
  dsimp only
  rw [lt_d, h, oid_m1, oc_o]
  rfl
theorem nd_putBack {S : St} {G : Gt} {nt nv : Nat} (h : S.1 44 = -1) : k_putBack (S, G, nt, nv) = some (-7300, (S, G, nt, nv)) := by
  unfold k_putBack d10_putBack
  dsimp only
  rw [lt_d, h, oid_m1, oc_o]
  rfl
/-! with a draft -/
theorem DL.sc {S S' : St} {G : Gt} {nv u : Nat} {M : Lt} (h : DL G nv S M u) (hC : FrC S S') : DL G nv S' M u := by
  obtain ⟨q1, q2, q3, q4, q5, q6⟩ := h
  exact ⟨q1, (hC.1 44 (by unfold scr; omega)).trans q2, q3, q4, q5.fr (hC.1 0 (by unfold scr; omega)) (hC.2 0 (by omega) (by unfold scr; omega)), q6⟩
theorem DL.oid {S : St} {G : Gt} {nt nv u : Nat} {M : Lt} (h : RQ (S, G, nt, nv) M) (hD : DL G nv S M u) : oid (S.1 44) = some u := by
  have := h.b
  have := hD.1
  rw [hD.2.1, oid_nI (by omega)]
theorem DL.len {S : St} {G : Gt} {nv u : Nat} {M : Lt} (hD : DL G nv S M u) : (ms (M 6 3)).length ≤ 20 := hD.2.2.2.2.1.2.1
theorem kdr_i {S : St} {G : Gt} {nt nv u j : Nat} {M : Lt} (h : RQ (S, G, nt, nv) M) (hD : DL G nv S M u) (hj : j < (ms (M 6 3)).length) : k_draftRow (nI j) (S, G, nt, nv) = some (nI (gl (ms (M 6 3)) j), (S, G, nt, nv)) := by
  have := hD.len
  unfold k_draftRow d10_draftRow
  dsimp only
  rw [lt_d, hD.oid h, oc_s, gd_t hD.1, if_pos (show (0 : Int32) ≤ nI j from nI_le (a := 0) (by omega) (by omega)), at_n hD.2.2.2.2.1 hj, cb_s]
  rfl
theorem kdr_o {S : St} {G : Gt} {nt nv u : Nat} {M : Lt} (h : RQ (S, G, nt, nv) M) (hD : DL G nv S M u) : k_draftRow (nI (ms (M 6 3)).length) (S, G, nt, nv) = some (-1, (S, G, nt, nv)) := by
  have := hD.len
  unfold k_draftRow d10_draftRow
  dsimp only
  rw [lt_d, hD.oid h, oc_s, gd_t hD.1, if_pos (show (0 : Int32) ≤ nI (ms (M 6 3)).length from nI_le (a := 0) (by omega) (by omega)), at_o hD.2.2.2.2.1 (Or.inr (Int32.le_refl _)), cb_s]
  rfl
theorem kdr_x {S : St} {G : Gt} {nt nv u : Nat} {M : Lt} (h : RQ (S, G, nt, nv) M) (hD : DL G nv S M u) : k_draftRow (-1) (S, G, nt, nv) = some (-7100, (S, G, nt, nv)) := by
  unfold k_draftRow d10_draftRow
  dsimp only
  rw [lt_d, hD.oid h, oc_s, gd_t hD.1, if_neg (show ¬ (0 : Int32) ≤ -1 by decide)]
  rfl
theorem plan3 {S : St} {G : Gt} {nt nv u : Nat} {M M1 : Lt} (h : RQ (S, G, nt, nv) M) (hD : DL G nv S M u) (hP : l_put M = some M1) : ∃ S1, d10_planPutBack G nt nv S = some S1 ∧ RQ (S1, G, nt, nv) M ∧ DL G nv S1 M u ∧ FrC S S1 ∧ CQ S1 M1 ∧ (∀ t, t < nt → okS (M1 4 t) ∧ Rw S1 (2 + 7 * t) (ms (M1 4 t)) ∧ FT G t (ms (M1 4 t))) ∧ (∀ t, nt ≤ t → t < 3 → M1 4 t = 0) ∧ (M1 6 4 = 0 → VV G (fun t => ms (M1 4 t)) u = ms (M 6 3)) := by
  obtain ⟨S1, M2, e1, e2, fC, -, q1, q2, q3, q4⟩ := lput_n h hD
  rw [hP] at e2
  cases e2
  exact ⟨S1, e1, h.sc fC, hD.sc fC, fC, q1, q2, q3, q4⟩
theorem kconf {S : St} {G : Gt} {nt nv u : Nat} {M M1 : Lt} (h : RQ (S, G, nt, nv) M) (hD : DL G nv S M u) (hP : l_put M = some M1) : ∃ S1, k_conflict (S, G, nt, nv) = some (M1 6 4, (S1, G, nt, nv)) ∧ RQ (S1, G, nt, nv) M ∧ DL G nv S1 M u := by
  obtain ⟨S1, e1, hR, hD1, -, q1, -, -, -⟩ := plan3 h hD hP
  refine ⟨S1, ?_, hR, hD1⟩
  unfold k_conflict d10_conflict
  dsimp only
  rw [lt_d, hD.oid h, oc_s, gd_t hD.1, e1, cb_s, q1.1]
  rfl
theorem kcr0 {S : St} {G : Gt} {nt nv u : Nat} {M M1 : Lt} (h : RQ (S, G, nt, nv) M) (hD : DL G nv S M u) (hP : l_put M = some M1) : ∃ S1, k_conflictRow 0 (S, G, nt, nv) = some ((M1 6 5 - M1 6 5 / 1000 * 1000) - 1, (S1, G, nt, nv)) ∧ RQ (S1, G, nt, nv) M ∧ DL G nv S1 M u := by
  obtain ⟨S1, e1, hR, hD1, -, q1, -, -, -⟩ := plan3 h hD hP
  refine ⟨S1, ?_, hR, hD1⟩
  unfold k_conflictRow d10_conflictRow
  dsimp only
  rw [lt_d, hD.oid h, oc_s, gd_t hD.1, jn_d, if_pos z00, e1, cb_s, if_pos z00, q1.2.1]
  rfl
theorem kcr1 {S : St} {G : Gt} {nt nv u : Nat} {M M1 : Lt} (h : RQ (S, G, nt, nv) M) (hD : DL G nv S M u) (hP : l_put M = some M1) : ∃ S1, k_conflictRow 1 (S, G, nt, nv) = some ((M1 6 5 / 1000) - 1, (S1, G, nt, nv)) ∧ RQ (S1, G, nt, nv) M ∧ DL G nv S1 M u := by
  obtain ⟨S1, e1, hR, hD1, -, q1, -, -, -⟩ := plan3 h hD hP
  refine ⟨S1, ?_, hR, hD1⟩
  unfold k_conflictRow d10_conflictRow
  dsimp only
  rw [lt_d, hD.oid h, oc_s, gd_t hD.1, jn_d, if_neg z10, if_pos rfl, e1, cb_s, if_neg z10, q1.2.2.1]
  rfl
theorem kcr2 {S : St} {G : Gt} {nt nv u : Nat} {M : Lt} (h : RQ (S, G, nt, nv) M) (hD : DL G nv S M u) : k_conflictRow 2 (S, G, nt, nv) = some (-7200, (S, G, nt, nv)) := by
  unfold k_conflictRow d10_conflictRow
  dsimp only
  rw [lt_d, hD.oid h, oc_s, gd_t hD.1, jn_d, if_neg z20, if_neg (show ¬ (2 : Int32) = 1 by decide)]
  rfl
/-! how many rows change -/
theorem flt_x {f g : Nat → Bool} : ∀ n, flt (fun i => (f i ^^ g i)) n = flt (fun i => f i && !g i) n + flt (fun i => g i && !f i) n := by
  intro n
  induction n with
  | zero => rfl
  | succ n ih =>
    rw [flt_l, flt_l, flt_l, ih]
    cases f n <;> cases g n <;> simp <;> omega
theorem nw_ms {x y : Int32} : (nw (ms x) (ms y)).length = flt (fun r => bt y r && !bt x r) 27 := by
  unfold nw
  have e : (ms y).filter (fun a => decide (a ∉ ms x)) = ((List.range 27).filter (fun r => bt y r && !bt x r)).map nm := by
    unfold ms
    rw [List.filter_map, List.filter_filter]
    congr 1
    apply List.filter_congr
    intro r hr
    have hr27 : r < 27 := List.mem_range.mp hr
    have := nm_ms (x := x) hr27
    unfold ms at this
    show (decide (nm r ∉ _) && bt y r) = _
    cases hb : bt x r
    · have h2 : nm r ∉ ((List.range 27).filter (fun r => bt x r)).map nm := fun z => by rw [this.mp z] at hb; exact Bool.noConfusion hb
      rw [decide_eq_true h2]
      simp
    · have h2 : ¬ nm r ∉ ((List.range 27).filter (fun r => bt x r)).map nm := fun z => z (this.mpr hb)
      rw [decide_eq_false h2]
      simp
  rw [e, List.length_map]
  rfl
theorem bt_xor {x y : Int32} {i : Nat} (hi : i < 32) : bt (x ^^^ y) i = (bt x i ^^ bt y i) := by rw [bt_bq hi, bt_bq hi, bt_bq hi, bq_xor]
theorem cnt_x {x y : Int32} : cnt (x ^^^ y) = (nw (ms y) (ms x)).length + (nw (ms x) (ms y)).length := by
  rw [nw_ms, nw_ms, ← flt_x]
  exact flt_cg fun i hi => bt_xor (by omega)
theorem okS_x {x y : Int32} (hx : okS x) (hy : okS y) : okS (x ^^^ y) := fun i h1 h2 => by rw [bt_xor h2, hx i h1 h2, hy i h1 h2]; rfl
theorem okS_a {x y : Int32} (hx : okS x) : okS (x &&& y) := fun i h1 h2 => by rw [bt_and h2, hx i h1 h2]; rfl
def mch (M M1 : Lt) (t : Nat) : Nat := cnt (M1 4 t ^^^ M 0 (3 + t))
theorem mch_n {S : St} {G : Gt} {nt nv : Nat} {M M1 : Lt} (h : RQ (S, G, nt, nv) M) (hz : ∀ t, nt ≤ t → t < 3 → M1 4 t = 0) : sumN (chg (TbM M) (fun t => ms (M1 4 t))) nt = sumN (mch M M1) 3 := by
  have hb3 := h.b.1
  have e1 : ∀ n, sumN (chg (TbM M) (fun t => ms (M1 4 t))) n = sumN (mch M M1) n := by
    intro n
    induction n with
    | zero => rfl
    | succ n ih =>
      show _ + _ = _ + _
      rw [ih]
      congr 1
      unfold mch chg TbM
      rw [cnt_x, Nat.add_comm]
  have e2 : ∀ d, nt + d ≤ 3 → sumN (mch M M1) (nt + d) = sumN (mch M M1) nt := by
    intro d
    induction d with
    | zero => intro _; rfl
    | succ d ih =>
      intro hd
      show sumN (mch M M1) (nt + d) + mch M M1 (nt + d) = _
      rw [ih (by omega)]
      have h0 : M 0 (3 + (nt + d)) = 0 := h.2.2.1.2.1 _ (by show nt ≤ _; omega) (by omega)
      unfold mch
      rw [hz _ (by omega) (by omega), h0]
      rfl
  rw [e1, ← e2 (3 - nt) (by omega)]
  congr 1
  omega
theorem kchg {S : St} {G : Gt} {nt nv u : Nat} {M M1 : Lt} (h : RQ (S, G, nt, nv) M) (hD : DL G nv S M u) (hP : l_put M = some M1) : ∃ S1, k_changes (S, G, nt, nv) = some (if M1 6 4 ≤ 0 then nI (sumN (mch M M1) 3) else -1, (S1, G, nt, nv)) ∧ RQ (S1, G, nt, nv) M ∧ DL G nv S1 M u := by
  obtain ⟨S1, e1, hR, hD1, -, q1, q2, q3, -⟩ := plan3 h hD hP
  refine ⟨S1, ?_, hR, hD1⟩
  have hcd : d10_changes G nt nv S = cb (d0_isTold S1) fun (z17 : Int32) => if z17 = 0 then (cb (d10_countPlanned G nt nv S1) fun (z20 : Int32) => some (0, z20, S1)) else (some (0, (-1), S1)) := by
    unfold d10_changes
    rw [lt_d, hD.oid h, oc_s, gd_t hD.1, e1, cb_s]
  unfold k_changes
  dsimp only
  rw [hcd]
  have h46 := q1.1
  rcases q1.2.2.2 with ⟨c1, -⟩ | c1
  · have hz : S1.1 46 = 0 := h46.trans c1
    rw [told0 hz, cb_s, if_pos z00, planned_n hR.s43.2.2.1 hR.s43.2.2.2 hR.b.1 (fun t ht => (hR.2.2.1.1 t ht).2.1) (fun t ht => (q2 t ht).2.1), cb_s, mch_n h q3, if_pos (by rw [c1]; decide)]
    rfl
  · have hz : ¬ S1.1 46 = 0 := fun z => c1 (by rw [← h46, z]; decide)
    rw [told1 hz, cb_s, if_neg z10, if_neg c1]
    rfl
