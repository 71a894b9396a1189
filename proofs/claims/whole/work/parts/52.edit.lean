/-! ===== a digit set anew ===== -/
def sd (r c w : Nat) : Nat := r - dg r c * 10 ^ c + w * 10 ^ c
theorem dg_le {r c : Nat} : dg r c * 10 ^ c ≤ r := Nat.le_trans (Nat.mul_le_mul_right _ (Nat.mod_le _ _)) (Nat.div_mul_le_self r (10 ^ c))
theorem nf_one {c w : Nat} : ∀ n, nf (fun j => if j = c then w else 0) n = if c < n then w * 10 ^ c else 0 := by
  intro n
  induction n with
  | zero => rw [if_neg (by omega)]; rfl
  | succ n ih =>
    show nf (fun j => if j = c then w else 0) n + (if n = c then w else 0) * 10 ^ n = _
    rw [ih]
    by_cases h1 : n = c
    · subst h1
      rw [if_neg (by omega), if_pos rfl, if_pos (by omega), Nat.zero_add]
    · rw [if_neg h1, Nat.zero_mul, Nat.add_zero]
      by_cases h2 : c < n
      · rw [if_pos h2, if_pos (by omega)]
      · rw [if_neg h2, if_neg (by omega)]
theorem sd_nf {r c w : Nat} (hr : r < 1000000) (hc : c < 6) : sd r c w = nf (fun j => if j = c then w else dg r j) 6 := by
  have key : ∀ v, nf (fun j => if j = c then v else dg r j) 6 = nf (fun j => if j = c then 0 else dg r j) 6 + v * 10 ^ c := by
    intro v
    have e : (fun j => if j = c then v else dg r j) = fun j => (if j = c then 0 else dg r j) + (if j = c then v else 0) := by
      funext j
      by_cases h : j = c
      · rw [if_pos h, if_pos h, if_pos h, Nat.zero_add]
      · rw [if_neg h, if_neg h, if_neg h, Nat.add_zero]
    rw [e, nf_add, nf_one, if_pos hc]
  have e2 : (fun j => if j = c then dg r c else dg r j) = dg r := by
    funext j
    by_cases h : j = c
    · rw [if_pos h, h]
    · rw [if_neg h]
  have h1 := key (dg r c)
  rw [e2, nf_dg hr] at h1
  rw [key w]
  unfold sd
  omega
theorem sd_lt {r c w : Nat} (hr : r < 1000000) (hc : c < 6) (hw : w < 10) : sd r c w < 1000000 := by
  rw [sd_nf hr hc]
  refine nf_lt (c := 6) fun j _ => ?_
  split
  · exact hw
  · exact dg_lt r j
theorem sd_dg {r c w j : Nat} (hr : r < 1000000) (hc : c < 6) (hw : w < 10) (hj : j < 6) : dg (sd r c w) j = if j = c then w else dg r j := by
  rw [sd_nf hr hc, dg_nf (fun j _ => by
    split
    · exact hw
    · exact dg_lt r j), if_pos hj]
theorem sd_val {s : Int32} {r c w : Nat} (hr : pt s r = r) (hb : bt s c = true) (hc : c < 6) (hw : w < 10) : pt s (sd r c w) = sd r c w := by
  refine dg_ext (pt_lt _ _) (sd_lt (val_lt hr) hc hw) fun j hj => ?_
  rw [dg_pt hj, sd_dg (val_lt hr) hc hw hj]
  by_cases h : j = c
  · rw [if_pos h, h, if_pos hb]
  · rw [if_neg h]
    cases h2 : bt s j
    · rw [if_neg (by simp), val_0 hr hj h2]
    · rw [if_pos rfl]
theorem with_n {r c w : Nat} (hr : r < 2 ^ 31) (hc : c < 6) (hw : w < 10) : d1_with (nI r) (nI c) (nI w) = some (nI (sd r c w)) := by
  unfold d1_with
  rw [digit_n hr hc, cb_s, told_n hc (dg_lt r c), cb_s, told_n hc hw, cb_s, pk_sub dg_le, nI_add]
  rfl
theorem sd_dec : ∀ w : Fin 10, ∀ d : Fin 10, ∀ c : Fin 6, nI (d.1 * 10 ^ c.1) + (nI w.1 - nI d.1) * nI (10 ^ c.1) = nI (w.1 * 10 ^ c.1) := by decide +kernel
theorem sdI {r c w : Nat} (hc : c < 6) (hw : w < 10) : nI r + (nI w - nI (dg r c)) * nI (10 ^ c) = nI (sd r c w) := by
  have h1 := sd_dec ⟨w, hw⟩ ⟨dg r c, dg_lt r c⟩ ⟨c, hc⟩
  dsimp only at h1
  have h2 : nI r = nI (r - dg r c * 10 ^ c) + nI (dg r c * 10 ^ c) := by rw [nI_add, Nat.sub_add_cancel dg_le]
  unfold sd
  rw [← nI_add, ← h1, ← Int32.add_assoc, ← h2]
theorem isCol_n (x s : Int32) : (d1_isColumn x s = some 0 ∧ m_isOf x s = some 0) ∨ ∃ c, c < 6 ∧ x = nI c ∧ bt s c = true ∧ d1_isColumn x s = some 1 ∧ m_isOf x s = some 1 := by
  unfold d1_isColumn m_isOf m_in
  rcases ix_n x (show 6 < 2 ^ 31 by decide) with h | ⟨c, hc, rfl⟩
  · refine Or.inl ?_
    by_cases h0 : x < 0
    · rw [if_pos h0, if_pos h0]
      exact ⟨rfl, rfl⟩
    · have h6 : nI 6 ≤ x := h.resolve_left h0
      rw [if_neg h0, if_neg h0, if_pos (show (6 : Int32) ≤ x from h6)]
      obtain ⟨k, hk, rfl⟩ := nI_of h0
      have := (nI_leI (by decide) hk).mp h6
      rw [if_pos (show (5 : Int32) < nI k from nI_lt (a := 5) (by omega) hk), cb_s, if_pos z00]
      exact ⟨rfl, rfl⟩
  · rw [if_neg (nI_pos (by omega)), if_neg (show ¬ (6 : Int32) ≤ nI c from nI_ge (b := 6) hc (by decide)), if_neg (nI_pos (by omega)), if_neg (show ¬ (5 : Int32) < nI c from nI_nlt (a := 5) (by omega) (by decide)), cb_s, isIn_n, cb_s, if_neg z10]
    cases hb : bt s c
    · refine Or.inl ⟨by rw [if_neg (show ¬ false = true by simp), if_pos z00], ?_⟩
      rw [if_neg (of_decide_eq_false hb)]
    · refine Or.inr ⟨c, hc, rfl, hb, by rw [if_pos rfl, if_neg z10], ?_⟩
      rw [if_pos (of_decide_eq_true hb)]
theorem isVal_n (x : Int32) : (d1_isValue x = some 0 ∧ m_in x 0 9 = some 0) ∨ ∃ w, w < 10 ∧ x = nI w ∧ d1_isValue x = some 1 ∧ m_in x 0 9 = some 1 := by
  unfold d1_isValue m_in
  rcases ix_n x (show 10 < 2 ^ 31 by decide) with h | ⟨w, hw, rfl⟩
  · refine Or.inl ?_
    by_cases h0 : x < 0
    · rw [if_pos h0]
      exact ⟨rfl, rfl⟩
    · have h6 : nI 10 ≤ x := h.resolve_left h0
      obtain ⟨k, hk, rfl⟩ := nI_of h0
      have := (nI_leI (by decide) hk).mp h6
      have h9 : (9 : Int32) < nI k := nI_lt (a := 9) (by omega) hk
      rw [if_neg h0, if_pos h9]
      exact ⟨rfl, rfl⟩
  · refine Or.inr ⟨w, hw, rfl, ?_⟩
    have h9 : ¬ (9 : Int32) < nI w := nI_nlt (a := 9) (by omega) (by decide)
    have h0 : ¬ nI w < 0 := nI_pos (by omega)
    rw [if_neg h0, if_neg h9]
    exact ⟨rfl, rfl⟩
theorem at_o {S : St} {i : Nat} {l : List Nat} (h : Rw S i l) {x : Int32} (ho : x < 0 ∨ nI l.length ≤ x) : d4_at i x S = some (-1) := by
  unfold d4_at
  by_cases h0 : x < 0
  · rw [if_pos h0]
  · rw [if_neg h0, h.1, if_pos (ho.resolve_left h0)]
theorem sm_draftRow : Sm_draftRow RR := by
  intro S G nt nv M x1 h
  have hb := h.b
  rcases h.2.2.2.1 with ⟨h44, h21⟩ | ⟨u, l, hu, h44, h21, h22, hR, h23, h24, hs, hv⟩
  · have hc : d10_draftRow G nt nv x1 S = some (2, 0, S) := by
      unfold d10_draftRow
      rw [lt_d, h44, oid_m1, oc_o]
    have hm : m_draftRow x1 M = some (0, w1 M 0 1) := by
      unfold m_draftRow
      rw [jn_d, if_pos h21]
      dsimp only
      rw [lt_d, w1_eq, if_neg z1l]
    exact ⟨2, 0, 1, 0, S, _, hc, hm, thr_w, Or.inr (Or.inl ⟨rfl, rfl⟩), (fun z => by cases z), h.x0⟩
  · have hn21 : ¬ M.1 21 = 0 := by rw [h21]; exact z10
    have hl := hR.2.1
    rw [dcap_0] at hl
    have hl31 := Rw_len hR
    have e23 : (w1 M 0 0).1 23 = nI l.length := (w1_ne (by decide)).trans h23
    have hh : d10_draftRow G nt nv x1 S = if 0 ≤ x1 then (cb (d4_at 0 x1 S) fun (z15 : Int32) => some (0, z15, S)) else (some (3, 0, S)) := by
      unfold d10_draftRow
      rw [lt_d, h44, oid_nI (by omega), oc_s, gd_t hu]
    by_cases h0 : 0 ≤ x1
    · have h0' : ¬ x1 < 0 := fun z => by
        rw [Int32.le_iff_toInt_le] at h0
        rw [Int32.lt_iff_toInt_lt] at z
        omega
      have hm : m_draftRow x1 M = (fun (S5 : St) => if (S5.1 0) ≤ 0 then (if (S5.1 23) ≤ x1 then (some ((-1), S5)) else (rd x1 20 fun (j8 : Nat) => some ((S5.2 24 j8), S5))) else (some (0, S5))) (w1 M 0 0) := by
        unfold m_draftRow
        rw [jn_d, if_neg hn21, if_pos h0]
        rfl
      dsimp only at hm
      rw [w1_eq, if_pos z0l, e23] at hm
      rw [if_pos h0] at hh
      rcases ix_n x1 (show l.length < 2 ^ 31 by omega) with ho | ⟨j, hj, rfl⟩
      · rw [at_o hR ho, cb_s] at hh
        rw [if_pos (ho.resolve_left h0')] at hm
        exact ⟨0, -1, 0, -1, S, _, hh, hm, thr_w, Or.inl ⟨rfl, rfl⟩, fun _ => rfl, h.x0⟩
      · have e24 : (w1 M 0 0).2 24 j = nI (gl l j) := by
          have := h24 j hj
          rwa [Nat.zero_add] at this
        rw [at_n hR hj, cb_s] at hh
        rw [if_neg (nI_ge hj hl31), rd_n (by omega) (by decide), e24] at hm
        exact ⟨0, _, 0, _, S, _, hh, hm, thr_w, Or.inl ⟨rfl, rfl⟩, fun _ => rfl, h.x0⟩
    · rw [if_neg h0] at hh
      have hm : m_draftRow x1 M = some (0, w1 M 0 2) := by
        unfold m_draftRow
        rw [jn_d, if_neg hn21, if_neg h0]
        dsimp only
        rw [lt_d, w1_eq, if_neg z2l]
      exact ⟨3, 0, 2, 0, S, _, hh, hm, thr_w, Or.inr (Or.inr ⟨rfl, rfl⟩), (fun z => by cases z), h.x0⟩
