/-! ===== the reference's joins ===== -/
def stW (cm rs : Int32) (r : Nat) (acc : List Nat) (q : Nat) : List Nat := if pt cm r = pt cm q then insR (r + pt rs q) acc else acc
theorem stW_le {cm rs : Int32} {r : Nat} (acc : List Nat) (q : Nat) : (stW cm rs r acc q).length ≤ acc.length + 1 := by
  unfold stW
  split
  · exact insR_le
  · omega
theorem PW_fr {M M' : St} {v : Nat} (h : PW M) (hF : FrV 18 17 v M M') : PW M' := fun c hc => by rw [hF.2.1 1 (by decide) (by decide)]; exact h c hc
theorem fold_takeA {f : List Nat → Nat → List Nat} {l acc : List Nat} {k : Nat} (h : k < l.length) : (l.take (k + 1)).foldl f acc = f ((l.take k).foldl f acc) (gl l k) := by
  rw [take_gl h, List.foldl_append]
  rfl
theorem joins_n {M : St} {v r lf rg : Nat} {cm rs : Int32} {l W : List Nat} (hP : PW M) (hV : Vm M 18 17 v l) (hW : Vm M 18 17 rg W) (hv : v < 10) (hrg : rg < v) (hlf : lf < 10) (h9 : M.2 9 v = nI lf) (h10 : M.2 10 v = nI rg) (hcm : (M.2 14 lf &&& M.2 14 rg) = cm) (hrs : (M.2 14 rg &&& (M.2 14 lf ^^^ (-1))) = rs) (hr : r < 2 ^ 31) (hJ : ∀ q, q ∈ W → r + pt rs q < 1000000) (hc : l.length + W.length ≤ 40) : ∃ M', m_joins (nI v) (nI r) M = some M' ∧ Vm M' 18 17 v (W.foldl (stW cm rs r) l) ∧ FrV 18 17 v M M' := by
  have hW4 := hW.2.2.2
  unfold m_joins
  rw [rd_n hv (by decide), h10]
  refine lq2 (Q := fun x => ∃ M', x = some M' ∧ Vm M' 18 17 v (W.foldl (stW cm rs r) l) ∧ FrV 18 17 v M M') (fun d (a : Int32) (T : St) => ∃ k, k + d = W.length ∧ a = nI k ∧ Vm T 18 17 v ((W.take k).foldl (stW cm rs r) l) ∧ FrV 18 17 v M T) ?_ _ W.length _ _ (FU_lt (by omega)) ⟨0, by omega, rfl, hV, FrV.rf⟩
  rintro d a T g ⟨k, hk, rfl, hT, hF⟩ ih
  have hTW := Vm_fr hW hF (by omega)
  have hTP := PW_fr hP hF
  rw [rd_n (by omega) (by decide), hTW.1]
  by_cases h0 : d = 0
  · have hkl : k = W.length := by omega
    rw [if_pos (nI_le (by omega) (by omega))]
    rw [hkl, List.take_length] at hT
    exact ⟨T, rfl, hT, hF⟩
  · have hkl : k < W.length := by omega
    have hq31 := okL_gl hW.2.2.1 hkl
    have hle := fold_le (f := stW cm rs r) stW_le (W.take k) l
    rw [List.length_take] at hle
    have hboth : m_both (nI v) T = some cm := by
      unfold m_both
      rw [rd_n hv (by decide), hF.2.1 9 (by decide) (by decide), h9, rd_n hlf (by decide), rd_n hv (by decide), hF.2.1 10 (by decide) (by decide), h10, rd_n (by omega) (by decide), hF.2.1 14 (by decide) (by decide), hcm]
    have hat : T.2 18 (40 * rg + k) = nI (gl W k) := hTW.2.1 k hkl
    rw [if_neg (nI_ge hkl (by omega)), n40, nI_add, rd_n (by omega) (by decide), hboth, cb_s, mpart_n hTP hr, cb_s, cb_s, hat, mpart_n hTP hq31, cb_s]
    have m1 := Nat.lt_of_lt_of_le (pt_lt cm r) (by decide : 1000000 ≤ 2 ^ 31)
    have m2 := Nat.lt_of_lt_of_le (pt_lt cm (gl W k)) (by decide : 1000000 ≤ 2 ^ 31)
    have ft := fold_takeA (f := stW cm rs r) (acc := l) hkl
    by_cases he : pt cm r = pt cm (gl W k)
    · obtain ⟨M1, e1, s1, f1⟩ := layV_n hT (by rfl) (by decide) hv (hJ _ (gl_mem hkl)) (Or.inr (by omega))
      rw [if_pos (by rw [he]), rd_n hv (by decide), rd_n (by omega) (by decide), rd_n hv (by decide), hF.2.1 9 (by decide) (by decide), h9, rd_n hlf (by decide), hF.2.1 14 (by decide) (by decide), hrs, mpart_n hTP hq31, cb_s, nI_add, hT.1, e1, cb2_s, rd_n hv (by decide), lt_d, nI_1]
      refine ih (d - 1) _ _ (by omega) ⟨k + 1, by omega, rfl, ?_, hF.tr f1⟩
      rw [ft]
      unfold stW at s1 ⊢
      rw [if_pos he]
      exact s1
    · rw [if_neg (fun z => he ((nI_eq m1 m2).mp z)), nI_1]
      refine ih (d - 1) _ _ (by omega) ⟨k + 1, by omega, rfl, ?_, hF⟩
      rw [ft]
      unfold stW at hT ⊢
      rw [if_neg he]
      exact hT
