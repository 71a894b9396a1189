/-! ===== the reference lays all views ===== -/
def OKG (G : Gt) (nt nv : Nat) : Prop := WG G nt nv ∧ (∀ v, v < nv → GA G v) ∧ ∀ v, v < nv → sub (G v 2) (G v 1)
def FrL (M M' : St) : Prop := M'.1 = M.1 ∧ ∀ k, k ≠ 17 → k ≠ 18 → M'.2 k = M.2 k
theorem FrL.rf {M : St} : FrL M M := ⟨rfl, fun _ _ _ => rfl⟩
theorem FrL.tr {M M1 M2 : St} (h1 : FrL M M1) (h2 : FrL M1 M2) : FrL M M2 := ⟨h2.1.trans h1.1, fun k h3 h4 => (h2.2 k h3 h4).trans (h1.2 k h3 h4)⟩
theorem FrV.L {v : Nat} {M M' : St} (h : FrV 18 17 v M M') : FrL M M' := ⟨h.1, fun k h3 h4 => h.2.1 k h4 h3⟩
theorem n12 {v : Nat} : (12 : Int32) * nI v = nI (12 * v) := pk_mul 12 v
theorem FV_n {G : Gt} {Tb : Nat → List Nat} {nt nv v : Nat} (hO : OKG G nt nv) (hT : ∀ t, t < nt → FT G t (Tb t)) (hv : v < nv) : FV G v (VV G Tb v) := FV_all hO.1 hO.2.1 hO.2.2 hT (v + 1) v (Nat.lt_succ_self v) hv
theorem src_F {G : Gt} {Tb : Nat → List Nat} {nt nv v : Nat} (hO : OKG G nt nv) (hT : ∀ t, t < nt → FT G t (Tb t)) (hv : v < nv) : (src G Tb (VV G Tb) v).length ≤ 12 ∧ okL (src G Tb (VV G Tb) v) ∧ ((G v 6 = 6 ∨ G v 6 = 4) → ∀ r, r ∈ src G Tb (VV G Tb) v → pt (G v 1) r = r) ∧ (G v 6 ≠ 6 → ∀ r, r ∈ src G Tb (VV G Tb) v → pt (G (vl G v) 1) r = r) := by
  unfold src
  by_cases h6 : G v 6 = 6
  · rw [if_pos h6]
    obtain ⟨a1, -, -⟩ := (hO.2.1 v hv).1 h6
    have hF := hT _ (hO.1.T' hv h6).2
    exact ⟨hF.1, hF.ok, fun _ r hr => by rw [a1]; exact hF.2.2.1 r hr, fun h => absurd h6 h⟩
  · rw [if_neg h6]
    have hl := (hO.1.L' hv h6).2
    have hF := FV_n hO hT (show vl G v < nv by omega)
    refine ⟨hF.1, hF.ok, fun h r hr => ?_, fun _ => hF.2.2.1⟩
    obtain ⟨a1, -⟩ := (hO.2.1 v hv).2.1 (h.resolve_left h6)
    rw [a1]
    exact hF.2.2.1 r hr
theorem join_W {G : Gt} {Tb : Nat → List Nat} {nt nv v : Nat} (hO : OKG G nt nv) (hT : ∀ t, t < nt → FT G t (Tb t)) (hv : v < nv) (k6 : G v 6 = 2) : (VV G Tb (vr G v)).Nodup ∧ unl (G v 10) (VV G Tb (vr G v)) ∧ (VV G Tb (vr G v)).length ≤ 12 := by
  have hr := (hO.1.R' hv k6).2
  have hF := FV_n hO hT (show vr G v < nv by omega)
  obtain ⟨-, -, -, a10, -, akr⟩ := (hO.2.1 v hv).2.2.2 k6
  refine ⟨Srt_nodup hF.2.1, unl_sub hF.2.2.2 fun j hj hb => ?_, hF.1⟩
  rw [a10, bt_and (by omega), akr j hj hb, hO.2.2 _ (show vr G v < nv by omega) j hj hb]
  rfl