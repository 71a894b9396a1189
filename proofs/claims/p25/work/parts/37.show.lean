/-! ===== the class's show, kind by kind ===== -/
theorem insR_le {r : Nat} {l : List Nat} : (insR r l).length ≤ l.length + 1 := by
  by_cases h : r ∈ l
  · unfold insR; rw [if_pos h]; omega
  · rw [insR_len h]; omega
theorem okL_nil : okL [] := fun r hr => by cases hr
theorem Sg_nil {f : Nat → Int32} {b : Nat} : Sg f b [] := fun j hj => absurd hj (Nat.not_lt_zero _)
theorem clear_n {S : St} {i : Nat} : ∃ S', d4_clear i S = some S' ∧ Rw S' i [] ∧ Fr i S S' := by
  unfold d4_clear
  exact ⟨_, rfl, ⟨w1_eq, Nat.zero_le _, Sg_nil, okL_nil⟩, fun k hk => w1_ne hk, fun _ _ => rfl⟩
theorem size_n {S : St} {i : Nat} {l : List Nat} (h : Rw S i l) : d4_size i S = some (nI l.length) := by
  unfold d4_size
  rw [h.1]
theorem Rw_fr {S S' : St} {i j : Nat} {l : List Nat} (h : Rw S j l) (hF : Fr i S S') (hne : j ≠ i) : Rw S' j l := ⟨(hF.1 j hne).trans h.1, h.2.1, fun k hk => by rw [hF.2 j hne]; exact h.2.2.1 k hk, h.2.2.2⟩
def selB (G : Gt) (v r : Nat) : Bool := decide ((if nI (dg r (G v 7).toNatClampNeg) = G v 8 then (1 : Int32) else 0) = G v 9)
theorem selects_n {S : St} {G : Gt} {nt nv v r c : Nat} (hc : G v 7 = nI c) (hc6 : c < 6) (hr : r < 2 ^ 31) : d5_selects G nt nv v (nI r) S = some (if selB G v r then 1 else 0) := by
  unfold d5_selects selB
  rw [hc, digit_n hr hc6, cb_s, jn_d, nI_clamp (by omega)]
  by_cases h1 : nI (dg r c) = G v 8
  · rw [if_pos h1, if_pos h1]
    dsimp only
    by_cases h2 : (1 : Int32) = G v 9
    · rw [if_pos h2, decide_eq_true h2, if_pos rfl]
    · rw [if_neg h2, decide_eq_false h2, if_neg (by decide)]
  · rw [if_neg h1, if_neg h1]
    dsimp only
    by_cases h2 : (0 : Int32) = G v 9
    · rw [if_pos h2, decide_eq_true h2, if_pos rfl]
    · rw [if_neg h2, decide_eq_false h2, if_neg (by decide)]
def stD (G : Gt) (v : Nat) (acc : List Nat) (r : Nat) : List Nat := insR (pt (G v 1) r) acc
def stS (G : Gt) (v : Nat) (acc : List Nat) (r : Nat) : List Nat := if selB G v r then insR r acc else acc
def stJ (G : Gt) (v : Nat) (W : List Nat) (acc : List Nat) (r : Nat) : List Nat := match fnd (G v 10) (pt (G v 10) r) W with
  | none => acc
  | some q => insR (r + pt (G (vr G v) 1 &&& (G (vl G v) 1 ^^^ (-1))) q) acc
theorem fold_le {f : List Nat → Nat → List Nat} (hf : ∀ acc r, (f acc r).length ≤ acc.length + 1) : ∀ (l acc : List Nat), (l.foldl f acc).length ≤ acc.length + l.length := by
  intro l
  induction l with
  | nil => intro acc; exact Nat.le_refl _
  | cons a t ih =>
    intro acc
    have h1 := ih (f acc a)
    have h2 := hf acc a
    rw [List.foldl_cons, List.length_cons]
    omega
theorem stD_le {G : Gt} {v : Nat} (acc : List Nat) (r : Nat) : (stD G v acc r).length ≤ acc.length + 1 := insR_le
theorem stS_le {G : Gt} {v : Nat} (acc : List Nat) (r : Nat) : (stS G v acc r).length ≤ acc.length + 1 := by
  unfold stS
  split
  · exact insR_le
  · omega
theorem stJ_le {G : Gt} {v : Nat} {W : List Nat} (acc : List Nat) (r : Nat) : (stJ G v W acc r).length ≤ acc.length + 1 := by
  unfold stJ
  split
  · omega
  · exact insR_le
theorem fold_take {f : List Nat → Nat → List Nat} {l : List Nat} {k : Nat} (h : k < l.length) : (l.take (k + 1)).foldl f [] = f ((l.take k).foldl f []) (gl l k) := by
  rw [take_gl h, List.foldl_append]
  rfl
theorem dcap_sh {v : Nat} (hv : v < 10) : dcap (22 + 2 * v) = 12 := dcap_s
theorem show2_n {S : St} {G : Gt} {nt nv v : Nat} {l : List Nat} (h : Rw S (22 + 2 * vl G v) l) (hl : l.length ≤ 12) (hv : vl G v < v) : ∃ S', d2_show G nt nv v S = some S' ∧ Rw S' (22 + 2 * v) (l.foldl (stD G v) []) ∧ Fr (22 + 2 * v) S S' := by
  have hne : 22 + 2 * vl G v ≠ 22 + 2 * v := by omega
  unfold d2_show
  obtain ⟨S1, e1, h1, f1⟩ := clear_n (S := S) (i := 22 + 2 * v)
  rw [e1, cb_s]
  refine lq2 (Q := fun x => ∃ S', x = some S' ∧ Rw S' (22 + 2 * v) (l.foldl (stD G v) []) ∧ Fr (22 + 2 * v) S S') (fun d (a : Int32) (T : St) => ∃ k, k + d = l.length ∧ a = nI k ∧ Rw T (22 + 2 * v) ((l.take k).foldl (stD G v) []) ∧ Fr (22 + 2 * v) S T) ?_ _ l.length _ _ (FU_lt (by omega)) ⟨0, by omega, rfl, h1, f1⟩
  rintro d a T g ⟨k, hk, rfl, hT, hF⟩ ih
  have hs := Rw_fr h hF hne
  rw [size_n hs, cb_s]
  by_cases h0 : d = 0
  · have hkl : k = l.length := by omega
    rw [if_pos (nI_le (by omega) (by omega))]
    rw [hkl, List.take_length] at hT
    exact ⟨T, rfl, hT, hF⟩
  · have hkl : k < l.length := by omega
    have hle := fold_le (f := stD G v) stD_le (l.take k) []
    rw [List.length_take, List.length_nil] at hle
    rw [if_neg (nI_ge hkl (by omega)), at_n hs hkl, cb_s, part_n (okL_gl h.2.2.2 hkl), cb_s]
    obtain ⟨T2, e2, h2, f2⟩ := put_n hT (pt_lt (G v 1) (gl l k)) (Or.inr (by rw [dcap_s]; omega))
    rw [e2, cb_s, nI_1]
    refine ih (d - 1) _ _ (by omega) ⟨k + 1, by omega, rfl, ?_, hF.tr f2⟩
    rw [fold_take hkl]
    exact h2
theorem show5_n {S : St} {G : Gt} {nt nv v c : Nat} {l : List Nat} (h : Rw S (22 + 2 * vl G v) l) (hl : l.length ≤ 12) (hv : vl G v < v) (hc : G v 7 = nI c) (hc6 : c < 6) : ∃ S', d5_show G nt nv v S = some S' ∧ Rw S' (22 + 2 * v) (l.foldl (stS G v) []) ∧ Fr (22 + 2 * v) S S' := by
  have hne : 22 + 2 * vl G v ≠ 22 + 2 * v := by omega
  unfold d5_show
  obtain ⟨S1, e1, h1, f1⟩ := clear_n (S := S) (i := 22 + 2 * v)
  rw [e1, cb_s]
  refine lq2 (Q := fun x => ∃ S', x = some S' ∧ Rw S' (22 + 2 * v) (l.foldl (stS G v) []) ∧ Fr (22 + 2 * v) S S') (fun d (a : Int32) (T : St) => ∃ k, k + d = l.length ∧ a = nI k ∧ Rw T (22 + 2 * v) ((l.take k).foldl (stS G v) []) ∧ Fr (22 + 2 * v) S T) ?_ _ l.length _ _ (FU_lt (by omega)) ⟨0, by omega, rfl, h1, f1⟩
  rintro d a T g ⟨k, hk, rfl, hT, hF⟩ ih
  have hs := Rw_fr h hF hne
  rw [size_n hs, cb_s]
  by_cases h0 : d = 0
  · have hkl : k = l.length := by omega
    rw [if_pos (nI_le (by omega) (by omega))]
    rw [hkl, List.take_length] at hT
    exact ⟨T, rfl, hT, hF⟩
  · have hkl : k < l.length := by omega
    have hle := fold_le (f := stS G v) stS_le (l.take k) []
    rw [List.length_take, List.length_nil] at hle
    rw [if_neg (nI_ge hkl (by omega)), at_n hs hkl, cb_s, selects_n hc hc6 (okL_gl h.2.2.2 hkl), cb_s]
    have ft := fold_take (f := stS G v) hkl
    unfold stS at ft
    by_cases hsel : selB G v (gl l k) = true
    · rw [if_pos hsel, if_neg (by decide)]
      obtain ⟨T2, e2, h2, f2⟩ := put_n hT (h.2.2.2 _ (gl_mem hkl)) (Or.inr (by rw [dcap_s]; omega))
      rw [e2, cb_s, nI_1]
      refine ih (d - 1) _ _ (by omega) ⟨k + 1, by omega, rfl, ?_, hF.tr f2⟩
      rw [fold_take hkl]
      show Rw T2 _ (stS G v _ _)
      unfold stS
      rw [if_pos hsel]
      exact h2
    · rw [if_neg hsel, if_pos rfl, nI_1]
      refine ih (d - 1) _ _ (by omega) ⟨k + 1, by omega, rfl, ?_, hF⟩
      rw [fold_take hkl]
      show Rw T _ (stS G v _ _)
      unfold stS
      rw [if_neg hsel]
      exact hT
theorem show3_n {S : St} {G : Gt} {nt nv v : Nat} {l W : List Nat} (h : Rw S (22 + 2 * vl G v) l) (hW : Rw S (22 + 2 * vr G v) W) (hl : l.length ≤ 12) (hv : vl G v < v) (hv2 : vr G v < v) (hJ : ∀ r, r ∈ l → ∀ q, q ∈ W → r + pt (G (vr G v) 1 &&& (G (vl G v) 1 ^^^ (-1))) q < 1000000) : ∃ S', d3_show G nt nv v S = some S' ∧ Rw S' (22 + 2 * v) (l.foldl (stJ G v W) []) ∧ Fr (22 + 2 * v) S S' := by
  have hne : 22 + 2 * vl G v ≠ 22 + 2 * v := by omega
  have hne2 : 22 + 2 * vr G v ≠ 22 + 2 * v := by omega
  unfold d3_show
  obtain ⟨S1, e1, h1, f1⟩ := clear_n (S := S) (i := 22 + 2 * v)
  rw [e1, cb_s]
  refine lq2 (Q := fun x => ∃ S', x = some S' ∧ Rw S' (22 + 2 * v) (l.foldl (stJ G v W) []) ∧ Fr (22 + 2 * v) S S') (fun d (a : Int32) (T : St) => ∃ k, k + d = l.length ∧ a = nI k ∧ Rw T (22 + 2 * v) ((l.take k).foldl (stJ G v W) []) ∧ Fr (22 + 2 * v) S T) ?_ _ l.length _ _ (FU_lt (by omega)) ⟨0, by omega, rfl, h1, f1⟩
  rintro d a T g ⟨k, hk, rfl, hT, hF⟩ ih
  have hs := Rw_fr h hF hne
  have hs2 := Rw_fr hW hF hne2
  rw [size_n hs, cb_s]
  by_cases h0 : d = 0
  · have hkl : k = l.length := by omega
    rw [if_pos (nI_le (by omega) (by omega))]
    rw [hkl, List.take_length] at hT
    exact ⟨T, rfl, hT, hF⟩
  · have hkl : k < l.length := by omega
    have hr := okL_gl h.2.2.2 hkl
    have hle := fold_le (f := stJ G v W) stJ_le (l.take k) []
    rw [List.length_take, List.length_nil] at hle
    rw [if_neg (nI_ge hkl (by omega)), at_n hs hkl, cb_s, firstLike_n hs2 hr, cb_s]
    have ft := fold_take (f := stJ G v W) hkl
    cases hf : fnd (G v 10) (pt (G v 10) (gl l k)) W with
    | none =>
      have e : stJ G v W ((l.take k).foldl (stJ G v W) []) (gl l k) = (l.take k).foldl (stJ G v W) [] := by
        show (match fnd (G v 10) (pt (G v 10) (gl l k)) W with | none => _ | some q => _) = _
        rw [hf]
      rw [if_pos (show oN none = -1 from rfl), nI_1]
      refine ih (d - 1) _ _ (by omega) ⟨k + 1, by omega, rfl, ?_, hF⟩
      rw [ft, e]
      exact hT
    | some q =>
      have hq := (fnd_mem hf).1
      have hq31 : q < 2 ^ 31 := Nat.lt_of_lt_of_le (hW.2.2.2 q hq) (by decide)
      have e : stJ G v W ((l.take k).foldl (stJ G v W) []) (gl l k) = insR (gl l k + pt (G (vr G v) 1 &&& (G (vl G v) 1 ^^^ (-1))) q) ((l.take k).foldl (stJ G v W) []) := by
        show (match fnd (G v 10) (pt (G v 10) (gl l k)) W with | none => _ | some q => _) = _
        rw [hf]
      have hn1 : oN (some q) ≠ -1 := fun z => nI_pos hq31 (by
        have z2 : nI q = -1 := z
        rw [z2]
        decide)
      rw [if_neg hn1]
      show ∃ S', cb (d1_part (nI q) _) _ = some S' ∧ _
      rw [part_n hq31, cb_s, nI_add]
      obtain ⟨T2, e2, h2, f2⟩ := put_n hT (hJ _ (gl_mem hkl) q hq) (Or.inr (by rw [dcap_s]; omega))
      rw [e2, cb_s, nI_1]
      refine ih (d - 1) _ _ (by omega) ⟨k + 1, by omega, rfl, ?_, hF.tr f2⟩
      rw [ft, e]
      exact h2
