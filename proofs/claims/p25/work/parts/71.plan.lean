/-! ===== planPutBack and goes ===== -/
def cpE (G : Gt) (nt nv : Nat) (S12 : St) : Option St := cb (d0_clear S12) fun (S17 : St) => lt (oid (S17.1 44)) fun (o18 : Option Nat) => oc o18 (some S17) fun (u19 : Nat) => gd (u19 < nv) <| lt (oid (S17.1 44)) fun (o21 : Option Nat) => oc o21 none fun (u22 : Nat) => gd (u22 < nv) <| cb (d4_takeOver (23 + 2 * u22) 0 S17) fun (S26 : St) => lt (oid (S26.1 44)) fun (o27 : Option Nat) => cb (d10_passDown G nt nv 12 o27 0 S26) fun (S30 : St) => some S30
theorem plan_d {G : Gt} {nt nv : Nat} {S : St} : d10_planPutBack G nt nv S = lp (fun _ _ => none) (fun (g13 : Int32 → St → Option St) (x11 : Int32) (S12 : St) => if (S12.1 42) ≤ x11 then cpE G nt nv S12 else (cb (d10_tableAt x11 S12) fun (z31 : Option Nat) => oc z31 (g13 (x11 + 1) S12) fun (u33 : Nat) => gd (u33 < nt) <| cb (d4_takeOver (2 + 7 * u33) (1 + 7 * u33) S12) fun (S37 : St) => g13 (x11 + 1) S37)) FU 0 S := rfl
theorem ctabs_n {S : St} {G : Gt} {nt nv : Nat} {Tb : Nat → List Nat} (h42 : S.1 42 = nI nt) (h56 : S.1 56 = nI nt) (hnt : nt ≤ 3) (hR : ∀ t, t < nt → Rw S (1 + 7 * t) (Tb t)) : ∃ T, d10_planPutBack G nt nv S = cpE G nt nv T ∧ (∀ k, ¬ (k = 2 ∨ k = 9 ∨ k = 16) → T.1 k = S.1 k ∧ T.2 k = S.2 k) ∧ ∀ t, t < nt → Rw T (2 + 7 * t) (Tb t) := by
  rw [plan_d]
  refine lq2 (Q := fun x => ∃ T : St, x = cpE G nt nv T ∧ (∀ k, ¬ (k = 2 ∨ k = 9 ∨ k = 16) → T.1 k = S.1 k ∧ T.2 k = S.2 k) ∧ ∀ t, t < nt → Rw T (2 + 7 * t) (Tb t)) (fun d (a : Int32) (T : St) => ∃ k, k + d = nt ∧ a = nI k ∧ (∀ k, ¬ (k = 2 ∨ k = 9 ∨ k = 16) → T.1 k = S.1 k ∧ T.2 k = S.2 k) ∧ ∀ t, t < k → Rw T (2 + 7 * t) (Tb t)) ?_ _ nt _ _ (FU_lt (by omega)) ⟨0, by omega, rfl, fun _ _ => ⟨rfl, rfl⟩, fun t ht => by omega⟩
  rintro d a T g ⟨k, hk, rfl, hF, hT⟩ ih
  have t42 : T.1 42 = nI nt := (hF 42 (by decide)).1.trans h42
  have t56 : T.1 56 = nI nt := (hF 56 (by decide)).1.trans h56
  rw [t42]
  by_cases h0 : d = 0
  · rw [if_pos (nI_le (by omega) (by omega))]
    exact ⟨T, rfl, hF, fun t ht => hT t (by omega)⟩
  · have hkn : k < nt := by omega
    have hl := (hR k hkn).2.1
    rw [dcap_t (by omega)] at hl
    obtain ⟨T1, e1, s1, f1⟩ := takeOver_n (i := 2 + 7 * k) ((hR k hkn).fr (hF _ (by omega)).1 (hF _ (by omega)).2) (by rw [dcap_t (by omega)]; exact hl) (by omega)
    rw [if_neg (nI_ge hkn (by omega)), tableAt_i t42 t56 hnt hkn, cb_s, oc_s, gd_t hkn, e1, cb_s, nI_1]
    refine ih (d - 1) _ _ (by omega) ⟨k + 1, by omega, rfl, fun q hq => ⟨(f1.1 q (by omega)).trans (hF q hq).1, (f1.2 q (by omega)).trans (hF q hq).2⟩, fun t ht => ?_⟩
    by_cases htk : t = k
    · rw [htk]; exact s1
    · exact Rw_fr (hT t (by omega)) f1 (by omega)
theorem cn_9 : cn 9 = 143 := by decide