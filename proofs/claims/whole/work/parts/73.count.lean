/-! ===== changes ===== -/
theorem pick_n {Q : Nat → List Nat → Prop} : ∀ {n : Nat}, (∀ t, t < n → ∃ l, Q t l) → ∃ N : Nat → List Nat, ∀ t, t < n → Q t (N t) := by
  intro n
  induction n with
  | zero => intro _; exact ⟨fun _ => [], fun t ht => by omega⟩
  | succ n ih =>
    intro h
    obtain ⟨N, hN⟩ := ih fun t ht => h t (by omega)
    obtain ⟨l, hl⟩ := h n (Nat.lt_succ_self n)
    refine ⟨up N n l, fun t ht => ?_⟩
    by_cases htn : t = n
    · subst htn; rw [up_s]; exact hl
    · rw [up_n htn]; exact hN t (by omega)
theorem nw_take {V l : List Nat} {k : Nat} (h : k < l.length) : (nw V (l.take (k + 1))).length = (nw V (l.take k)).length + (if gl l k ∈ V then 0 else 1) := by
  unfold nw
  rw [take_gl h, List.filter_append, List.length_append]
  congr 1
  by_cases he : gl l k ∈ V
  · rw [if_pos he, List.filter_cons_of_neg (by simpa using he)]
    rfl
  · rw [if_neg he, List.filter_cons_of_pos (by simpa using he)]
    rfl
theorem missing_n {S : St} {i i1 : Nat} {l V : List Nat} (h : Rw S i l) (hV : Rw S i1 V) : d4_countMissingIn i i1 S = some (nI (nw V l).length) := by
  have hl := Nat.le_trans h.2.1 dcap_le
  unfold d4_countMissingIn
  refine lq2 (Q := fun x => x = some (nI (nw V l).length)) (fun d (a b : Int32) => ∃ k, k + d = l.length ∧ b = nI k ∧ a = nI (nw V (l.take k)).length) ?_ _ l.length _ _ (FU_lt (by omega)) ⟨0, by omega, rfl, rfl⟩
  rintro d a b g ⟨k, hk, rfl, rfl⟩ ih
  by_cases h0 : d = 0
  · have hkl : k = l.length := by omega
    rw [h.1, if_pos (nI_le (by omega) (by omega)), hkl, List.take_length]
  · have hkl : k < l.length := by omega
    have hnt := nw_take (V := V) hkl
    rw [h.1, if_neg (nI_ge hkl (by omega)), at_n h hkl, cb_s, has_n hV, cb_s, any_mem hV.2.2.2 (h.2.2.2 _ (gl_mem hkl)), nI_1, nI_1]
    by_cases hm : gl l k ∈ V
    · rw [if_pos hm] at hnt
      rw [decide_eq_true hm, if_pos rfl, if_neg z10]
      exact ih (d - 1) _ _ (by omega) ⟨k + 1, by omega, rfl, by rw [hnt]; rfl⟩
    · rw [if_neg hm] at hnt
      rw [decide_eq_false hm, if_neg (show ¬ false = true by simp), if_pos z00]
      exact ih (d - 1) _ _ (by omega) ⟨k + 1, by omega, rfl, by rw [hnt]⟩
def sumN (f : Nat → Nat) : Nat → Nat
  | 0 => 0
  | k + 1 => sumN f k + f k
def chg (A B : Nat → List Nat) (t : Nat) : Nat := (nw (B t) (A t)).length + (nw (A t) (B t)).length
theorem planned_n {S : St} {G : Gt} {nt nv : Nat} {A B : Nat → List Nat} (h42 : S.1 42 = nI nt) (h56 : S.1 56 = nI nt) (hnt : nt ≤ 3) (hA : ∀ t, t < nt → Rw S (1 + 7 * t) (A t)) (hB : ∀ t, t < nt → Rw S (2 + 7 * t) (B t)) : d10_countPlanned G nt nv S = some (nI (sumN (chg A B) nt)) := by
  unfold d10_countPlanned
  refine lq2 (Q := fun x => x = some (nI (sumN (chg A B) nt))) (fun d (a b : Int32) => ∃ k, k + d = nt ∧ b = nI k ∧ a = nI (sumN (chg A B) k)) ?_ _ nt _ _ (FU_lt (by omega)) ⟨0, by omega, rfl, rfl⟩
  rintro d a b g ⟨k, hk, rfl, rfl⟩ ih
  rw [h42]
  by_cases h0 : d = 0
  · have hkl : k = nt := by omega
    rw [if_pos (nI_le (by omega) (by omega)), hkl]
  · have hkn : k < nt := by omega
    rw [if_neg (nI_ge hkn (by omega)), tableAt_i h42 h56 hnt hkn, cb_s, oc_s, gd_t hkn, missing_n (hA k hkn) (hB k hkn), cb_s, missing_n (hB k hkn) (hA k hkn), cb_s, nI_add, nI_add, nI_1]
    exact ih (d - 1) _ _ (by omega) ⟨k + 1, by omega, rfl, rfl⟩
theorem many_n {M : St} {nt : Nat} {A B : Nat → List Nat} (h2 : M.1 2 = nI nt) (hnt : nt ≤ 3) (hA : ∀ t, t < nt → Tm M t (A t) ∧ (A t).length ≤ 12 ∧ okL (A t)) (hB : ∀ t, t < nt → Tn M t (B t) ∧ (B t).length ≤ 12 ∧ okL (B t)) : m_manyChanges M = some (nI (sumN (chg A B) nt)) := by
  unfold m_manyChanges
  refine lq2 (Q := fun x => x = some (nI (sumN (chg A B) nt))) (fun d (a b : Int32) => ∃ k, k + d = nt ∧ b = nI k ∧ a = nI (sumN (chg A B) k)) ?_ _ nt _ _ (FU_lt (by omega)) ⟨0, by omega, rfl, rfl⟩
  rintro d a b g ⟨k, hk, rfl, rfl⟩ ih
  rw [h2]
  by_cases h0 : d = 0
  · have hkl : k = nt := by omega
    rw [if_pos (nI_le (by omega) (by omega)), hkl]
  · have hkn : k < nt := by omega
    obtain ⟨⟨a5, a6⟩, a12, aok⟩ := hA k hkn
    obtain ⟨⟨b5, b6⟩, b12, bok⟩ := hB k hkn
    rw [if_neg (nI_ge hkn (by omega))]
    refine lq2 (Q := fun x => x = some (nI (sumN (chg A B) nt))) (fun d (a b : Int32) => ∃ i, i + d = (A k).length ∧ b = nI i ∧ a = nI (sumN (chg A B) k + (nw (B k) ((A k).take i)).length)) ?_ _ (A k).length _ _ (FU_lt (by omega)) ⟨0, by omega, rfl, rfl⟩
    rintro d2 a b g2 ⟨i, hi, rfl, rfl⟩ ih2
    rw [rd_n (by omega) (by decide), a5]
    by_cases h1 : d2 = 0
    · have hil : i = (A k).length := by omega
      rw [if_pos (nI_le (by omega) (by omega)), hil, List.take_length]
      refine lq2 (Q := fun x => x = some (nI (sumN (chg A B) nt))) (fun d (a b : Int32) => ∃ j, j + d = (B k).length ∧ b = nI j ∧ a = nI (sumN (chg A B) k + (nw (B k) (A k)).length + (nw (A k) ((B k).take j)).length)) ?_ _ (B k).length _ _ (FU_lt (by omega)) ⟨0, by omega, rfl, rfl⟩
      rintro d3 a b g3 ⟨j, hj, rfl, rfl⟩ ih3
      rw [rd_n (by omega) (by decide), b5]
      by_cases h3 : d3 = 0
      · have hjl : j = (B k).length := by omega
        rw [if_pos (nI_le (by omega) (by omega)), nI_1, hjl, List.take_length]
        exact ih (d - 1) _ _ (by omega) ⟨k + 1, by omega, rfl, by rw [Nat.add_assoc]; rfl⟩
      · have hjl : j < (B k).length := by omega
        have hnt2 := nw_take (V := A k) hjl
        have e29 : M.2 29 (12 * k + j) = nI (gl (B k) j) := b6 j hjl
        rw [if_neg (nI_ge hjl (by omega)), rd_n (by omega) (by decide), n12, nI_add, rd_n (by omega) (by decide), e29, a5]
        have hmem := any_mem aok (bok _ (gl_mem hjl))
        rcases seek_n (N := 36) a6 rfl (by decide) (by omega) (nI (gl (B k) j)) with ⟨hany, hp⟩ | ⟨p, hpl, hx, hany, hp⟩
        · rw [hany] at hmem
          have hm : gl (B k) j ∉ A k := of_decide_eq_false hmem.symm
          rw [if_neg hm] at hnt2
          rw [hp, cb_s, jn_d, if_pos rfl]
          dsimp only
          rw [nI_1, nI_1]
          exact ih3 (d3 - 1) _ _ (by omega) ⟨j + 1, by omega, rfl, by rw [hnt2, Nat.add_assoc]⟩
        · rw [hany] at hmem
          have hm : gl (B k) j ∈ A k := of_decide_eq_true hmem.symm
          rw [if_pos hm] at hnt2
          rw [hp, cb_s, jn_d, if_neg (nm1 (by omega))]
          dsimp only
          rw [show (0 : Int32) = nI 0 from rfl, nI_add, nI_1]
          exact ih3 (d3 - 1) _ _ (by omega) ⟨j + 1, by omega, rfl, by rw [hnt2, Nat.add_zero, Nat.add_zero]⟩
    · have hil : i < (A k).length := by omega
      have hnt2 := nw_take (V := B k) hil
      have e6 : M.2 6 (12 * k + i) = nI (gl (A k) i) := a6 i hil
      rw [if_neg (nI_ge hil (by omega)), rd_n (by omega) (by decide), n12, nI_add, rd_n (by omega) (by decide), e6, b5]
      have hmem := any_mem bok (aok _ (gl_mem hil))
      rcases seek_n (N := 36) b6 rfl (by decide) (by omega) (nI (gl (A k) i)) with ⟨hany, hp⟩ | ⟨p, hpl, hx, hany, hp⟩
      · rw [hany] at hmem
        have hm : gl (A k) i ∉ B k := of_decide_eq_false hmem.symm
        rw [if_neg hm] at hnt2
        rw [hp, cb_s, jn_d, if_pos rfl]
        dsimp only
        rw [nI_1, nI_1]
        exact ih2 (d2 - 1) _ _ (by omega) ⟨i + 1, by omega, rfl, by rw [hnt2, Nat.add_assoc]⟩
      · rw [hany] at hmem
        have hm : gl (A k) i ∈ B k := of_decide_eq_true hmem.symm
        rw [if_pos hm] at hnt2
        rw [hp, cb_s, jn_d, if_neg (nm1 (by omega))]
        dsimp only
        rw [show (0 : Int32) = nI 0 from rfl, nI_add, nI_1]
        exact ih2 (d2 - 1) _ _ (by omega) ⟨i + 1, by omega, rfl, by rw [hnt2, Nat.add_zero, Nat.add_zero]⟩
theorem sm_changes : Sm_changes RR := by
  intro S G nt nv M h
  have hb := h.b
  rcases h.2.2.2.1 with ⟨h44, h21⟩ | ⟨u, l, hD⟩
  · have hc : d10_changes G nt nv S = some (2, 0, S) := by
      unfold d10_changes
      rw [lt_d, h44, oid_m1, oc_o]
    have hm : m_changes M = some (0, w1 M 0 1) := by
      unfold m_changes
      rw [asksDraft_o h21, cb2_s, if_pos z00]
    exact ⟨2, 0, 1, 0, S, _, hc, hm, thr_w, Or.inr ⟨rfl, rfl⟩, (fun z => by cases z), h.x0⟩
  · obtain ⟨S1, M1, Tb, e1, e2, hB, hR, h0, hFC, hFX, h46, h47, h48, hpos, hN⟩ := plan_n (h.x0 (x := 0)) hD.x0
    have hu := hD.1
    obtain ⟨N, hN⟩ := pick_n hN
    have hcd : d10_changes G nt nv S = cb (d0_isTold S1) fun (z17 : Int32) => if z17 = 0 then (cb (d10_countPlanned G nt nv S1) fun (z20 : Int32) => some (0, z20, S1)) else (some (0, (-1), S1)) := by
      unfold d10_changes
      rw [lt_d, hD.2.1, oid_nI (by omega), oc_s, gd_t hu, e1, cb_s]
    have hmd : m_changes M = if (M1.1 25) ≤ 0 then (cb (m_manyChanges M1) fun (z8 : Int32) => some (z8, M1)) else (some ((-1), M1)) := by
      unfold m_changes
      rw [asksDraft_i hD.2.2.1, cb2_s, if_neg z10, e2, cb_s]
    have hthr : m_thrown M1 = some 0 := by rw [thr_n, h0, w1_eq]
    rcases hpos with hz | hz
    · have hB1 : RB G nt S1 M1 Tb := hB.fr (fun t ht => ⟨hFC.1 _ (by unfold scr; omega), hFC.2 _ (by omega) (by unfold scr; omega)⟩) (hFX.2 5 (by omega)) (hFX.2 6 (by omega))
      rw [told0 (h46.trans hz), cb_s, if_pos z00, planned_n hR.s42 hR.s56 hb.1 (fun t ht => (hB1 t ht).1) (fun t ht => (hN t ht).1), cb_s] at hcd
      rw [if_pos (by rw [hz]; decide), many_n hR.m2 hb.1 (fun t ht => ⟨(hB1 t ht).2.1, (hB1 t ht).2.2.1, (hB1 t ht).2.2.ok⟩) (fun t ht => ⟨(hN t ht).2.1, (hN t ht).2.2.1, (hN t ht).2.2.ok⟩), cb_s] at hmd
      exact ⟨0, _, 0, _, S1, M1, hcd, hmd, hthr, Or.inl ⟨rfl, rfl⟩, fun _ => rfl, hR⟩
    · rw [told1 (fun z => hz (by rw [← h46, z]; decide)), cb_s, if_neg z10] at hcd
      rw [if_neg hz] at hmd
      exact ⟨0, _, 0, _, S1, M1, hcd, hmd, hthr, Or.inl ⟨rfl, rfl⟩, fun _ => rfl, hR⟩
