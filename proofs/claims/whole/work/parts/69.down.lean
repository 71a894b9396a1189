/-! ===== passing on, in both ===== -/
theorem pass_n {G : Gt} {nt nv v : Nat} {Tb : Nat → List Nat} {S0 M0 S M : St} {P : Nat → Prop} {l rest : List Nat} (hC : PC G nt nv Tb S0 M0) (hR : Rel G nt nv Tb S0 M0 P S M) (hv : v < nv) (hS : Rw S (23 + 2 * v) l) (hM : Vm M 20 19 v l) (hok : okW G (VV G Tb v) v l) (hun : unl (G v 2) l) (h12 : G v 6 = 6 → l.length ≤ 12) (hst : Stk M rest) (hb : v + rest.length ≤ 9) : ∃ S' M', vd (G v 6) (d2_passOn G nt nv v S) (d3_passOn G nt nv v S) (d5_passOn G nt nv v S) (d7_passOn G nt nv v S) = some S' ∧ m_goesBelow (nI v) M = some M' ∧ Rel G nt nv Tb S0 M0 (fun w => P w ∨ w ∈ kids G v) S' M' ∧ Stk M' (rest ++ kids G v) ∧ M'.1 25 = M.1 25 := by
  have hO := hC.ok
  have hG := hO.1
  have hA := hO.2.1 v hv
  have hbb := hC.1.b
  have hv10 : v < 10 := by omega
  have hP := hC.pw hR
  have hK := hC.km hR hv
  have hl32 := hok.1.len
  have hold : ∀ w, P w → Wn G nv Tb S M w := hR.2.2.2.2.2
  unfold m_goesBelow
  rw [rd_n hv10 (by decide)]
  rcases hG.K hv with k6 | k6 | k6 | k6
  · obtain ⟨l4, hlv⟩ := hG.L' hv (ne6_1 k6)
    have hk : kids G v = [vl G v] := by
      unfold kids
      rw [if_neg (ne6_1 k6), if_neg (show ¬ G v 6 = 2 by rw [k6]; decide)]
    obtain ⟨k8, k9⟩ : M.2 8 v = 2 ∧ M.2 9 v = nI (vl G v) := by
      rcases hK.2.2.2 with z | z | z | z
      · exact absurd (k6.symm.trans z.1) (by decide)
      · exact absurd (k6.symm.trans z.1) (by decide)
      · exact ⟨z.2.1, z.2.2.1.trans l4⟩
      · exact absurd (k6.symm.trans z.1) (by decide)
    obtain ⟨S1, e1, s1, f1⟩ := pass2_n (nt := nt) (nv := nv) hS (hC.rs hR (show vl G v < nv by omega)) hA k6 hlv
    obtain ⟨M1, e2, s2, f2⟩ := mdrop_n hP hK hA k6 l4 hv10 hlv hM (hC.vm hR (show vl G v < nv by omega)) hl32 hok.2
    have hst1 : Stk M1 rest := hst.fr (by rw [f2.1]) (f2.2.1 31 (by decide) (by decide) (by decide))
    obtain ⟨M2, e3, s3, f3, g3⟩ := comes_n (v := vl G v) hst1 (by omega)
    have hnew := paD_ok hO (fun _ ht => hC.ft ht) hv k6 hok
    rw [vd1 k6, if_neg (show ¬ M.2 8 v = 0 by rw [k8]; decide), rd_n hv10 (by decide), if_neg (show ¬ M.2 8 v = 3 by rw [k8]; decide), e2, cb_s, rd_n hv10 (by decide), f2.2.1 9 (by decide) (by decide) (by decide), k9, e3, cb_s]
    refine ⟨S1, M2, e1, rfl, hR.upd hbb.1 (fun k hk2 => ⟨f1.1 k (fun z => hk2 (by omega)), f1.2 k (fun z => hk2 (by omega))⟩) (fun k hk2 => by rw [f3 k hk2, f2.1]) (fun k a b c d => by rw [g3 k c, f2.2.1 k b a d]) (fun w hw => ?_), by rw [hk]; exact s3, by rw [f3 25 (by decide), f2.1]⟩
    rw [hk, List.mem_singleton] at hw
    by_cases hwe : w = vl G v
    · subst hwe
      exact ⟨by omega, _, s1, Vm_W s2 (g3 19 (by decide)) (g3 20 (by decide)), hnew⟩
    · obtain ⟨w1', l1, w2', w3', w4'⟩ := hold w (hw.resolve_right hwe)
      exact ⟨w1', l1, Rw_fr w2' f1 (by omega), Vm_W (f2.vm w3' hwe) (g3 19 (by decide)) (g3 20 (by decide)), w4'⟩
  · obtain ⟨l4, hlv⟩ := hG.L' hv (ne6_2 k6)
    obtain ⟨r5, hrv⟩ := hG.R' hv k6
    have hk : kids G v = [vl G v, vr G v] := by
      unfold kids
      rw [if_neg (ne6_2 k6), if_pos k6]
    have hne := kids_ne hO hv k6
    obtain ⟨k8, k9, k10⟩ := join_k hK k6
    have k9' := k9.trans l4
    have k10' := k10.trans r5
    obtain ⟨a1, a2, a3, a10, a5, akr⟩ := hA.2.2.2 k6
    have hFl := hC.fv (show vl G v < nv by omega)
    have hFr := hC.fv (show vr G v < nv by omega)
    have hKl := hC.km hR (show vl G v < nv by omega)
    have hKr := hC.km hR (show vr G v < nv by omega)
    have okR := wPr_ok hO (fun _ ht => hC.ft ht) hv k6 hok
    have okL := wPl_ok hO (fun _ ht => hC.ft ht) hv k6 hok
    obtain ⟨S1, e1, s1r, s1l, f1⟩ := pass3_n (nt := nt) (nv := nv) hS (hC.rs hR (show vl G v < nv by omega)) (hC.rs hR (show vr G v < nv by omega)) hlv hrv hne okR.1 okL.1 hFr.2.1 hFr.2.2.2 hFl.2.1 hFl.2.2.2
    obtain ⟨M1, e2, s2, f2⟩ := mright_n hP k10' hKr.1 hKr.2.1 hv10 hrv hM (hC.vm hR (show vr G v < nv by omega)) hl32 okR.1
    have ev := fun k (a : k ≠ 20) (b : k ≠ 19) (c : k ≠ 35) => f2.2.1 k a b c
    obtain ⟨M2, e3, s3, f3⟩ := mleft_n (f2.pw hP) (by rw [ev 9 (by decide) (by decide) (by decide)]; exact k9') (by rw [ev 10 (by decide) (by decide) (by decide)]; exact k10') (by rw [ev 14 (by decide) (by decide) (by decide)]; exact hKl.1) (by rw [ev 14 (by decide) (by decide) (by decide)]; exact hKr.1) (by rw [ev 15 (by decide) (by decide) (by decide)]; exact hK.2.1) a2 a10 (hO.2.2 _ (show vl G v < nv by omega)) hv10 hlv hrv hne (f2.vm hM (by omega)) s2 (f2.vs (hC.vm hR (show vl G v < nv by omega))) hl32 okL.1
    have ew := fun k (a : k ≠ 20) (b : k ≠ 19) (c : k ≠ 35) => (f3.2.1 k a b c).trans (ev k a b c)
    have hst2 : Stk M2 rest := hst.fr (by rw [f3.1, f2.1]) (ew 31 (by decide) (by decide) (by decide))
    obtain ⟨M3, e4, s4, f4, g4⟩ := comes_n (v := vl G v) hst2 (by omega)
    obtain ⟨M4, e5, s5, f5, g5⟩ := comes_n (v := vr G v) s4 (by rw [List.length_append, List.length_singleton]; omega)
    have hnewR := paR_ok hO (fun _ ht => hC.ft ht) hv k6 hok
    have hnewL := paL_ok (W := paR G (VV G Tb (vr G v)) v l) hO (fun _ ht => hC.ft ht) hv k6 hok
    rw [vd2 k6, if_neg (show ¬ M.2 8 v = 0 by rw [k8]; decide), rd_n hv10 (by decide), if_pos k8, e2, cb_s, e3, cb_s, rd_n hv10 (by decide), ew 9 (by decide) (by decide) (by decide), k9', e4, cb_s, rd_n hv10 (by decide), g4 10 (by decide), ew 10 (by decide) (by decide) (by decide), k10', e5, cb_s]
    refine ⟨S1, M4, e1, rfl, hR.upd hbb.1 (fun k hk2 => f1 k (fun z => hk2 (by omega)) (fun z => hk2 (by omega))) (fun k hk2 => by rw [f5 k hk2, f4 k hk2, f3.1, f2.1]) (fun k a b c d => by rw [g5 k c, g4 k c, ew k b a d]) (fun w hw => ?_), by rw [hk, show rest ++ [vl G v, vr G v] = (rest ++ [vl G v]) ++ [vr G v] by rw [List.append_assoc]; rfl]; exact s5, by rw [f5 25 (by decide), f4 25 (by decide), f3.1, f2.1]⟩
    rw [hk, List.mem_cons, List.mem_singleton] at hw
    have h19 : M4.2 19 = M2.2 19 := (g5 19 (by decide)).trans (g4 19 (by decide))
    have h20 : M4.2 20 = M2.2 20 := (g5 20 (by decide)).trans (g4 20 (by decide))
    by_cases hwe : w = vl G v
    · subst hwe
      exact ⟨by omega, _, s1l, Vm_W s3 h19 h20, hnewL⟩
    · by_cases hwr : w = vr G v
      · subst hwr
        exact ⟨by omega, _, s1r, Vm_W (f3.vm s2 hwe) h19 h20, hnewR⟩
      · obtain ⟨w1', l1, w2', w3', w4'⟩ := hold w (hw.resolve_right (fun z => z.elim hwe hwr))
        exact ⟨w1', l1, w2'.fr (f1 _ (by omega) (by omega)).1 (f1 _ (by omega) (by omega)).2, Vm_W (f3.vm (f2.vm w3' hwr) hwe) h19 h20, w4'⟩
  · obtain ⟨l4, hlv⟩ := hG.L' hv (ne6_4 k6)
    have hk : kids G v = [vl G v] := by
      unfold kids
      rw [if_neg (ne6_4 k6), if_neg (show ¬ G v 6 = 2 by rw [k6]; decide)]
    obtain ⟨k8, k9⟩ : M.2 8 v = 1 ∧ M.2 9 v = nI (vl G v) := by
      rcases hK.2.2.2 with z | z | z | z
      · exact absurd (k6.symm.trans z.1) (by decide)
      · exact ⟨z.2.1, z.2.2.1.trans l4⟩
      · exact absurd (k6.symm.trans z.1) (by decide)
      · exact absurd (k6.symm.trans z.1) (by decide)
    have hCS := paS_c hO (fun _ ht => hC.ft ht) hv k6 hok
    obtain ⟨S1, e1, s1, f1⟩ := pass5_n (nt := nt) (nv := nv) hS (hC.rs hR (show vl G v < nv by omega)) hA k6 hlv hCS
    obtain ⟨M1, e2, s2, f2⟩ := msel2_n hP hK hA k6 l4 hv10 hlv hM (hC.vm hR (show vl G v < nv by omega)) hCS
    have hst1 : Stk M1 rest := hst.fr (by rw [f2.1]) (f2.2.1 31 (by decide) (by decide) (by decide))
    obtain ⟨M2, e3, s3, f3, g3⟩ := comes_n (v := vl G v) hst1 (by omega)
    have hnew := paS_ok hO (fun _ ht => hC.ft ht) hv k6 hok
    rw [vd4 k6, if_neg (show ¬ M.2 8 v = 0 by rw [k8]; decide), rd_n hv10 (by decide), if_neg (show ¬ M.2 8 v = 3 by rw [k8]; decide), e2, cb_s, rd_n hv10 (by decide), f2.2.1 9 (by decide) (by decide) (by decide), k9, e3, cb_s]
    refine ⟨S1, M2, e1, rfl, hR.upd hbb.1 (fun k hk2 => ⟨f1.1 k (fun z => hk2 (by omega)), f1.2 k (fun z => hk2 (by omega))⟩) (fun k hk2 => by rw [f3 k hk2, f2.1]) (fun k a b c d => by rw [g3 k c, f2.2.1 k b a d]) (fun w hw => ?_), by rw [hk]; exact s3, by rw [f3 25 (by decide), f2.1]⟩
    rw [hk, List.mem_singleton] at hw
    by_cases hwe : w = vl G v
    · subst hwe
      exact ⟨by omega, _, s1, Vm_W s2 (g3 19 (by decide)) (g3 20 (by decide)), hnew⟩
    · obtain ⟨w1', l1, w2', w3', w4'⟩ := hold w (hw.resolve_right hwe)
      exact ⟨w1', l1, Rw_fr w2' f1 (by omega), Vm_W (f2.vm w3' hwe) (g3 19 (by decide)) (g3 20 (by decide)), w4'⟩
  · obtain ⟨t11, htn⟩ := hG.T' hv k6
    have hk : kids G v = [] := by
      unfold kids
      rw [if_pos k6]
    obtain ⟨k8, k9⟩ : M.2 8 v = 0 ∧ M.2 9 v = nI (vt G v) := by
      rcases hK.2.2.2 with z | z | z | z
      · exact ⟨z.2.1, z.2.2.trans t11⟩
      · exact absurd (k6.symm.trans z.1) (by decide)
      · exact absurd (k6.symm.trans z.1) (by decide)
      · exact absurd (k6.symm.trans z.1) (by decide)
    obtain ⟨a1, a2, -⟩ := hA.1 k6
    obtain ⟨S1, e1, s1, f1⟩ := pass7_n (G := G) (nt := nt) (nv := nv) hS (h12 k6) (by omega)
    obtain ⟨M1, e2, s2, g1, g2, g3, g4⟩ := mtable_n k9 hv10 (by omega) hM (h12 k6)
    rw [vd6 k6, if_pos k8, e2, cb_s]
    refine ⟨S1, M1, e1, rfl, (hR.tab hbb.1 htn f1 s1 s2 ⟨h12 k6, hok.1.2.1, by rw [← a1]; exact hok.2, by rw [← a2]; exact hun⟩ g1 g2 g3 g4).mono (fun w hw => ?_), ?_, by rw [g1]⟩
    · rw [hk] at hw
      exact hw.resolve_right (by simp)
    · rw [hk, List.append_nil]
      exact hst.fr (by rw [g1]) (g2 31 (by decide) (by decide))
def gF (g22 : St → Option St) (S21 : St) : Option St := if (S21.1 30) ≤ 0 then (some S21) else (if (S21.1 25) = 0 then (lt (w1 S21 30 ((S21.1 30) - 1)) fun (S25 : St) => rd (S25.1 30) 10 fun (j26 : Nat) => cb (m_looks (S25.2 31 j26) S25) fun (S29 : St) => if (S29.1 25) = 0 then (cb (m_goesBelow (S25.2 31 j26) S29) fun (S32 : St) => g22 S32) else (g22 S29)) else (some S21))
def gLp (k : Nat) (M : St) : Option St := lp (fun _ => none) gF k M
def cn : Nat → Nat
  | 0 => 1
  | 1 => 2
  | n + 2 => 1 + cn (n + 1) + cn n
theorem cn_up : ∀ n, 1 + cn n ≤ cn (n + 1) ∧ 1 ≤ cn n := by
  intro n
  induction n with
  | zero => exact ⟨by decide, by decide⟩
  | succ n ih =>
    have e : cn (n + 2) = 1 + cn (n + 1) + cn n := rfl
    have := ih.1
    have := ih.2
    exact ⟨by rw [show n + 1 + 1 = n + 2 from rfl, e]; omega, by omega⟩
theorem cn_mo {a b : Nat} (h : a ≤ b) : cn a ≤ cn b := by
  induction b with
  | zero => rw [show a = 0 by omega]; exact Nat.le_refl _
  | succ b ih =>
    by_cases hab : a = b + 1
    · rw [hab]; exact Nat.le_refl _
    · have := ih (by omega)
      have := (cn_up b).1
      omega
theorem cn_1 {a v : Nat} (h : a < v) : 1 + cn a ≤ cn v := Nat.le_trans (cn_up a).1 (cn_mo h)
theorem cn_2 {a b v : Nat} (ha : a < v) (hb : b < v) (hne : a ≠ b) : 1 + cn a + cn b ≤ cn v := by
  have key : ∀ a b, a < b → b < v → 1 + cn a + cn b ≤ cn v := by
    intro a b hab hbv
    obtain ⟨n, rfl⟩ : ∃ n, b = n + 1 := ⟨b - 1, by omega⟩
    have h1 : cn (n + 2) ≤ cn v := cn_mo (by omega)
    have h2 : cn a ≤ cn n := cn_mo (by omega)
    have e : cn (n + 2) = 1 + cn (n + 1) + cn n := rfl
    omega
  rcases Nat.lt_or_ge a b with z | z
  · exact key a b z hb
  · have := key b a (by omega) ha
    omega
theorem pd_s {G : Gt} {nt nv n v : Nat} {x3 : Int32} {S : St} : d10_passDown G nt nv (n + 1) (some v) x3 S = (gd (v < nv) <| if 10 ≤ x3 then (some S) else (cb (d0_isTold S) fun (z14 : Int32) => if z14 = 0 then (cb (d9_seekConflict G nt nv v S) fun (S19 : St) => cb (d0_isTold S19) fun (z20 : Int32) => if z20 = 0 then (cb (vd (G v 6) (d2_passOn G nt nv v S19) (d3_passOn G nt nv v S19) (d5_passOn G nt nv v S19) (d7_passOn G nt nv v S19)) fun (S25 : St) => lt (oid (G v 5)) fun (o26 : Option Nat) => cb (d10_passDown G nt nv n o26 (x3 + 1) S25) fun (S29 : St) => lt (oid (G v 4)) fun (o30 : Option Nat) => cb (d10_passDown G nt nv n o30 (x3 + 1) S29) fun (S33 : St) => some S33) else (some S19)) else (some S))) := rfl
theorem pd_o {G : Gt} {nt nv n : Nat} {x3 : Int32} {S : St} : d10_passDown G nt nv (n + 1) none x3 S = some S := rfl
theorem Rel.tell {G : Gt} {nt nv : Nat} {Tb : Nat → List Nat} {S0 M0 S M : St} {P : Nat → Prop} {c x y : Int32} (h : Rel G nt nv Tb S0 M0 P S M) (hnt : nt ≤ 3) (hnv : nv ≤ 10) (hc : ¬ c ≤ 0) : Rel G nt nv Tb S0 M0 P (apC S c x y) (apM M c x y) := by
  obtain ⟨a, b, ⟨c1, c2, c3⟩, -, e, f⟩ := h
  have s : ∀ k, k ≠ 46 → k ≠ 47 → k ≠ 48 → (apC S c x y).1 k = S.1 k := fun k p q r => by
    unfold apC
    rw [w1_ne r, w1_ne q, w1_ne p]
  have m : ∀ k, k ≠ 25 → k ≠ 26 → k ≠ 27 → (apM M c x y).1 k = M.1 k := fun k p q r => by
    unfold apM
    rw [w1_ne r, w1_ne q, w1_ne p]
  refine ⟨a.tr ⟨fun k hk => s k (fun z => hk (by unfold scr; omega)) (fun z => hk (by unfold scr; omega)) (fun z => hk (by unfold scr; omega)), fun k _ _ => rfl⟩, b.tr ⟨fun k h0 h25 h26 h27 h30 => m k h25 h26 h27, fun k _ => rfl⟩, ⟨c1, c2, (m 0 (by decide) (by decide) (by decide)).trans c3⟩, ⟨?_, ?_, ?_, Or.inr (by rw [apM_25]; exact hc)⟩, fun t ht => ?_, fun w hw => ?_⟩
  · rw [apC_46, apM_25]
  · unfold apC apM
    rw [w1_ne (by decide), w1_eq, w1_ne (by decide), w1_eq]
  · unfold apC apM
    rw [w1_eq, w1_eq]
  · obtain ⟨l, l1, l2, l3⟩ := e t ht
    exact ⟨l, l1.fr (s _ (by omega) (by omega) (by omega)) rfl, l2, l3⟩
  · obtain ⟨w1', l, l1, l2, l3⟩ := f w hw
    exact ⟨w1', l, l1.fr (s _ (by omega) (by omega) (by omega)) rfl, l2, l3⟩
