/-! ===== what the law is given at its entry ===== -/
set_option maxHeartbeats 4000000 in
set_option maxRecDepth 100000 in
theorem law_start {s : State} {b : Addr} (hts : ∀ w ∈ lw_tbl, w.before #[Value.ref b] s = true) (hgv : (Jvm.Cond.and given_1 narrow_1).before #[Value.ref b] s = true) : ∃ (D : va_G) (cA : Nat → ClassId), KX D cA s ∧ (∀ A : Nat → Prop, (∀ a : Nat, a < s.heap.size → ¬ A a) → TX A s) ∧ NX s := by
  have hA : ∀ w ∈ ALL, w.before #[Value.ref b] s = true := fun w hw => hts w (List.mem_filter.mp hw).1
  have hs := flat_of_before _ hgv
  obtain ⟨c0, i0, h0⟩ := u_known (C := RX0) (T := TX0) (N := 3) (n := 3) hA inX0 (hA _ a_63)
  obtain ⟨c1, i1, h1⟩ := u_known (C := RX2) (T := TX2) (N := 11) (n := 11) hA inX2 (hA _ a_319)
  obtain ⟨c2, i2, h2⟩ := u_known (C := RX3) (T := TX3) (N := 11) (n := 11) hA inX3 (hA _ a_839)
  obtain ⟨c3, i3, h3⟩ := u_known (C := RX4) (T := TX4) (N := 2) (n := 2) hA inX4 (hA _ a_49)
  obtain ⟨c4, i4, h4⟩ := u_known (C := RX5) (T := TX5) (N := 12) (n := 12) hA inX5 (hA _ a_679)
  obtain ⟨c5, i5, h5⟩ := u_known (C := RX6) (T := TX6) (N := 5) (n := 5) hA inX6 (hA _ a_900)
  obtain ⟨c6, i6, h6⟩ := u_known (C := RX7) (T := TX7) (N := 9) (n := 9) hA inX7 (hA _ a_871)
  obtain ⟨c7, i7, h7⟩ := u_known (C := RX8) (T := TX8) (N := 6) (n := 6) hA inX8 (hA _ a_82)
  obtain ⟨c8, i8, h8⟩ := u_known (C := RX10) (T := TX10) (N := 9) (n := 9) hA inX10 (hA _ a_37)
  obtain ⟨k0, kk0, co0, f0, g0, e0⟩ := Cond.arrayClass_spec (hA _ a_61)
  obtain ⟨co3, k3, kk3, f3, u3, g3, e3, t3⟩ := Cond.arrayOver_spec (hts _ a_45)
  obtain ⟨co4, k4, kk4, f4, u4, g4, e4, t4⟩ := Cond.arrayOver_spec (hts _ a_47)
  obtain ⟨co5, k5, kk5, f5, u5, g5, e5, t5⟩ := Cond.arrayOver_spec (hts _ a_907)
  have hK : va_K (fun k => [c0, c1, c2, c3, c4, c5, c6, c7, c8].getD k c0, fun k => [i0, i1, i2, i3, i4, i5, i6, i7, i8].getD k i0) vwCl (tysA (fun k => [k0, k0, k0, k3, k4, k5].getD k k0)) s := by
    refine ⟨fun k q hq => ?_, fun k q hq => ?_⟩
    · match k, hq with
      | 0, hq => cases hq; exact h0
      | 1, hq => cases hq; exact h1
      | 2, hq => cases hq; exact h2
      | 3, hq => cases hq; exact h3
      | 4, hq => cases hq; exact h4
      | 5, hq => cases hq; exact h5
      | 6, hq => cases hq; exact h6
      | 7, hq => cases hq; exact h7
      | 8, hq => cases hq; exact h8
      | k + 9, hq => simp at hq
    · match k, hq with
      | 0, hq => cases hq; exact ⟨fun n z => ⟨(fun k h => by cases h), kk0, g0, co0, e0⟩, f0⟩
      | 1, hq => cases hq; exact ⟨fun n z => ⟨(fun k h => by cases h), kk0, g0, co0, e0⟩, f0⟩
      | 2, hq => cases hq; exact ⟨fun n z => ⟨(fun k h => by cases h), kk0, g0, co0, e0⟩, f0⟩
      | 3, hq => cases hq; exact ⟨fun n z => ⟨(fun k h => by cases h), kk3, g3, co3, e3⟩, kk3, co3, g3, e3, f3, t3⟩
      | 4, hq => cases hq; exact ⟨fun n z => ⟨(fun k h => by cases h), kk4, g4, co4, e4⟩, kk4, co4, g4, e4, f4, t4⟩
      | 5, hq => cases hq; exact ⟨fun n z => ⟨(fun k h => by cases h), kk5, g5, co5, e5⟩, kk5, co5, g5, e5, f5, t5⟩
      | k + 6, hq => simp at hq
  have w1 : ∀ q ∈ STR, Cond.stringRef RX10 q.1 q.2 ∈ lw_tbl := by decide +kernel
  have w2 : ∀ q ∈ STR, Cond.exactly (Term.string RX10 q.1) "java/lang/String" ∈ flatC (Jvm.Cond.and given_1 narrow_1) := by decide +kernel
  have w3 : ∀ q ∈ NXp, Cond.not (.castable q.1 q.2) ∈ flatC (Jvm.Cond.and given_1 narrow_1) := by decide +kernel
  have w4 : ∀ E ∈ NXc, Cond.castable E E ∈ lw_tbl := by decide +kernel
  have w5 : Cond.laysStatic Bundle.tN "UNASSIGNED_STACK" Bundle.steD ∈ lw_tbl ∧ Cond.laysStatic Bundle.tN "SUPPRESSED_SENTINEL" Bundle.listD ∈ lw_tbl := by decide +kernel
  have w6 : Cond.isRef (.static Bundle.tN "UNASSIGNED_STACK" Bundle.steD) ∈ flatC (Jvm.Cond.and given_1 narrow_1) ∧ Cond.isRef (.static Bundle.tN "SUPPRESSED_SENTINEL" Bundle.listD) ∈ flatC (Jvm.Cond.and given_1 narrow_1) := by decide +kernel
  refine ⟨_, _, ⟨hK, ⟨va_Nw.of rfl (hts _ a_782), va_Nw.of rfl (hts _ a_305), va_Nw.of rfl (hts _ a_277)⟩, ⟨va_Nw.of rfl (hts _ a_64), va_Nw.of rfl (hts _ a_83)⟩, ⟨va_Nw.of rfl (hts _ a_1010), va_Nw.of rfl (hts _ a_1011), va_Nw.of rfl (hts _ a_1009), va_Nw.of rfl (hts _ a_1012)⟩, va_AO.of (hts _ a_45), va_AO.of (hts _ a_47), va_AO.of (hts _ a_907)⟩, fun A hA9 => ⟨⟨vx_Zqof (hts _ w5.1) (hA _ a_20) (hs _ w6.1) hA9, vx_Zqof (hts _ w5.2) (hA _ a_20) (hs _ w6.2) hA9⟩, fun w hw hc => isCD_of hc (hts w hw), fun q hq => ?_⟩, fun q hq => va_Nc.of (hs _ (w3 q hq)), fun E hE => va_Nw.of rfl (hts _ (w4 E hE))⟩
  obtain ⟨a, c, cell, k, ht, -⟩ := Cond.exactly_spec (hs _ (w2 q hq))
  exact ⟨a, vk_R.of (hts _ (w1 q hq)) ht⟩
