/-! ===== a view's rows, told by membership ===== -/
theorem VV_tab {G : Gt} {Tb : Nat → List Nat} {nt nv v : Nat} (hO : OKG G nt nv) (hT : ∀ t, t < nt → FT G t (Tb t)) (hv : v < nv) (k6 : G v 6 = 6) : VV G Tb v = Tb (vt G v) := by
  have e : src G Tb (VV G Tb) v = Tb (vt G v) := if_pos k6
  rw [VV_eq hO.1 hv, e, stp_6 k6]
  exact fold_srt (hT _ (hO.1.T' hv k6).2).2.1
theorem VV_drop {G : Gt} {Tb : Nat → List Nat} {nt nv v x : Nat} (hG : WG G nt nv) (hv : v < nv) (k6 : G v 6 = 1) : x ∈ VV G Tb v ↔ ∃ r, r ∈ VV G Tb (vl G v) ∧ x = pt (G v 1) r := by
  constructor
  · exact VV_m1 hG hv k6
  · rintro ⟨r, h1, h2⟩
    have e : src G Tb (VV G Tb) v = VV G Tb (vl G v) := if_neg (ne6_1 k6)
    rw [VV_eq hG hv, e, stp_1 k6]
    exact fold_memI (g := pt (G v 1)) (Or.inr ⟨r, h1, h2⟩)
theorem fold_joinI {G : Gt} {v x : Nat} {W : List Nat} : ∀ {l acc : List Nat}, (x ∈ acc ∨ ∃ r, r ∈ l ∧ ∃ q, fnd (G v 10) (pt (G v 10) r) W = some q ∧ x = r + pt (G (vr G v) 1 &&& (G (vl G v) 1 ^^^ (-1))) q) → x ∈ l.foldl (stJ G v W) acc := by
  intro l
  induction l with
  | nil =>
    intro acc h
    rcases h with h | ⟨r, h, -⟩
    · exact h
    · cases h
  | cons a t ih =>
    intro acc h
    rw [List.foldl_cons]
    refine ih ?_
    have key : x ∈ acc → x ∈ stJ G v W acc a := by
      intro hx
      unfold stJ
      split
      · exact hx
      · exact insR_mem.mpr (Or.inr hx)
    rcases h with h | ⟨r, h1, q, h2, h3⟩
    · exact Or.inl (key h)
    · rcases List.mem_cons.mp h1 with rfl | z
      · left
        unfold stJ
        rw [h2]
        exact insR_mem.mpr (Or.inl h3)
      · exact Or.inr ⟨r, z, q, h2, h3⟩
theorem fnd_some {s : Int32} {p q : Nat} {l : List Nat} (hq : q ∈ l) (he : pt s q = p) : ∃ q2, fnd s p l = some q2 := by
  cases h : fnd s p l with
  | none => exact absurd he (fnd_none h hq)
  | some q2 => exact ⟨q2, rfl⟩
theorem VV_join {G : Gt} {Tb : Nat → List Nat} {nt nv v x : Nat} (hO : OKG G nt nv) (hT : ∀ t, t < nt → FT G t (Tb t)) (hv : v < nv) (k6 : G v 6 = 2) : x ∈ VV G Tb v ↔ pt (G v 1) x = x ∧ pt (G (vl G v) 1) x ∈ VV G Tb (vl G v) ∧ pt (G (vr G v) 1) x ∈ VV G Tb (vr G v) := by
  have hl := (hO.1.L' hv (ne6_2 k6)).2
  have hr := (hO.1.R' hv k6).2
  have hFl := FV_n hO hT (show vl G v < nv by omega)
  have hFr := FV_n hO hT (show vr G v < nv by omega)
  obtain ⟨a1, -, -, a10, -, akr⟩ := (hO.2.1 v hv).2.2.2 k6
  have hJW := join_W hO hT hv k6
  constructor
  · intro h
    obtain ⟨r, h1, q, h2, h3⟩ := VV_m2 hO.1 hv k6 h
    have hrv := hFl.2.2.1 r h1
    obtain ⟨hq1, hq2⟩ := fnd_mem h2
    have hqv := hFr.2.2.1 q hq1
    have hd := join_dg (lc := G (vl G v) 1) (rc := G (vr G v) 1) (q := q) hrv
    subst h3
    refine ⟨(FV_n hO hT hv).2.2.1 _ h, ?_, ?_⟩
    · rw [join_pl hrv sub_rf, hrv]
      exact h1
    · have e : pt (G (vr G v) 1) (r + pt (G (vr G v) 1 &&& (G (vl G v) 1 ^^^ (-1))) q) = q := by
        rw [← hqv]
        refine pt_eq.mpr fun j hj hb => ?_
        rw [hqv, hd.2 j hj]
        by_cases hbl : bt (G (vl G v) 1) j = true
        · rw [if_pos hbl]
          have hc : bt (G v 10) j = true := by rw [a10, bt_and (by omega), hbl, hb]; rfl
          exact (pt_eq.mp hq2 j hj hc).symm
        · rw [if_neg hbl, if_pos hb]
      rw [e]
      exact hq1
  · rintro ⟨h1, h2, h3⟩
    have e : src G Tb (VV G Tb) v = VV G Tb (vl G v) := if_neg (ne6_2 k6)
    rw [VV_eq hO.1 hv, e, stp_2 k6]
    have hsl : sub (G v 10) (G (vl G v) 1) := fun j hj hb => by
      rw [a10, bt_and (by omega), Bool.and_eq_true] at hb
      exact hb.1
    have hsr : sub (G v 10) (G (vr G v) 1) := fun j hj hb => by
      rw [a10, bt_and (by omega), Bool.and_eq_true] at hb
      exact hb.2
    have hcm : pt (G v 10) (pt (G (vr G v) 1) x) = pt (G v 10) (pt (G (vl G v) 1) x) := by rw [pt_pt hsl, pt_pt hsr]
    obtain ⟨q2, hq2⟩ := fnd_some h3 hcm
    obtain ⟨hm, he⟩ := fnd_mem hq2
    have eq2 : q2 = pt (G (vr G v) 1) x := hJW.2.1 _ hm _ h3 (he.trans hcm.symm)
    subst eq2
    refine fold_joinI (Or.inr ⟨_, h2, _, hq2, ?_⟩)
    have hlv : pt (G (vl G v) 1) (pt (G (vl G v) 1) x) = pt (G (vl G v) 1) x := pt_id
    have hd := join_dg (lc := G (vl G v) 1) (rc := G (vr G v) 1) (q := pt (G (vr G v) 1) x) hlv
    refine dg_ext (val_lt h1) hd.1 fun j hj => ?_
    rw [hd.2 j hj, dg_pt hj, dg_pt hj]
    cases hbl : bt (G (vl G v) 1) j
    · cases hbr : bt (G (vr G v) 1) j
      · rw [if_neg (by decide), if_neg (by decide)]
        exact val_0 h1 hj (by rw [a1, bt_or (by omega), hbl, hbr]; rfl)
      · rw [if_neg (by decide), if_pos rfl, if_pos rfl]
    · rw [if_pos rfl, if_pos rfl]
/-! ===== the law's words of views ===== -/
theorem w3_n {M : Lt} {k i j : Nat} {v : Int32} (h : j ≠ k) : w3 M k i v j = M j := if_neg h
theorem w3_e {M : Lt} {k i : Nat} {v : Int32} : w3 M k i v k i = v := by
  unfold w3 upd
  rw [if_pos rfl, if_pos rfl]
theorem w3_o {M : Lt} {k i q : Nat} {v : Int32} (h : q ≠ i) : w3 M k i v k q = M k q := by
  unfold w3 upd
  rw [if_pos rfl, if_neg h]
def o3 (s : Int32) : Prop := ∃ c, c < 8 ∧ s = nI c
theorem o3_hi {s : Int32} (h : o3 s) {j : Nat} (h3 : 3 ≤ j) (h6 : j < 6) : bt s j = false := by
  obtain ⟨c, hc, rfl⟩ := h
  have q : ∀ c : Fin 8, ∀ j : Fin 6, 3 ≤ j.1 → bt (nI c.1) j.1 = false := by decide +kernel
  exact q ⟨c, hc⟩ ⟨j, h6⟩ h3
/-- what the law's word of a view tells -/
def KW (G : Gt) (M : Lt) (v : Nat) : Prop := ((M 1 v >>> ((15 : Int32) &&& 31)) &&& 7) = G v 1 ∧ ((M 1 v >>> ((18 : Int32) &&& 31)) &&& 7) = G v 2 ∧ ((M 1 v >>> ((21 : Int32) &&& 31)) &&& 7) = G v 3 ∧
  ((G v 6 = 6 ∧ (M 1 v &&& 3) = nI 0 ∧ ((M 1 v >>> ((2 : Int32) &&& 31)) &&& 15) = G v 11) ∨
   (G v 6 = 4 ∧ (M 1 v &&& 3) = nI 1 ∧ ((M 1 v >>> ((2 : Int32) &&& 31)) &&& 15) = G v 4 ∧ ((M 1 v >>> ((10 : Int32) &&& 31)) &&& 3) = G v 7 ∧ ((M 1 v >>> ((12 : Int32) &&& 31)) &&& 3) = G v 8 ∧ ((M 1 v >>> ((14 : Int32) &&& 31)) &&& 1) = G v 9) ∨
   (G v 6 = 1 ∧ (M 1 v &&& 3) = nI 2 ∧ ((M 1 v >>> ((2 : Int32) &&& 31)) &&& 15) = G v 4 ∧ ((M 1 v >>> ((10 : Int32) &&& 31)) &&& 3) = G v 7 ∧ ((M 1 v >>> ((12 : Int32) &&& 31)) &&& 3) = G v 8) ∨
   (G v 6 = 2 ∧ (M 1 v &&& 3) = nI 3 ∧ ((M 1 v >>> ((2 : Int32) &&& 31)) &&& 15) = G v 4 ∧ ((M 1 v >>> ((6 : Int32) &&& 31)) &&& 15) = G v 5))
theorem KW.fr {G : Gt} {M M' : Lt} {v : Nat} (h : KW G M v) (h1 : M' 1 v = M 1 v) : KW G M' v := by
  unfold KW at h ⊢
  rw [h1]
  exact h
theorem cols_n {G : Gt} {M : Lt} {v : Nat} (h : KW G M v) (hv : v < 10) : l_columnsOf (nI v) M = some (G v 1) := by
  unfold l_columnsOf
  rw [rd_n hv (by decide), h.1]
theorem key_n {G : Gt} {M : Lt} {v : Nat} (h : KW G M v) (hv : v < 10) : l_keyOf (nI v) M = some (G v 2) := by
  unfold l_keyOf
  rw [rd_n hv (by decide), h.2.1]
theorem selB_3 {G : Gt} {v c w s i : Nat} (h7 : G v 7 = nI c) (h8 : G v 8 = nI w) (h9 : G v 9 = nI s) (hc : c < 3) (hw : w < 10) (hs : s < 2) (hi : i < 27) : selB G v (nm i) = (decide (d3 i c = w) == decide (s = 1)) := by
  have hd : d3 i c < 27 := by unfold d3; split <;> (try split) <;> omega
  unfold selB
  rw [h7, h8, h9, nI_clamp (by omega), dg_nm i hi c (by omega), if_pos hc]
  have e1 : (nI (d3 i c) = nI w) ↔ d3 i c = w := nI_eq (by omega) (by omega)
  have z : s = 0 ∨ s = 1 := by omega
  rcases z with rfl | rfl <;> by_cases h1 : d3 i c = w <;> simp [e1, h1] <;> decide
/-- the law's views are small -/
def SmV (G : Gt) (v : Nat) : Prop := o3 (G v 1) ∧ o3 (G v 2) ∧ ((G v 6 = 4 ∨ G v 6 = 1) → ∃ w, w < 3 ∧ G v 8 = nI w)
theorem col_3 {s : Int32} {c : Nat} (h : o3 s) (hc : c < 6) (hb : bt s c = true) : c < 3 := by
  rcases Nat.lt_or_ge c 3 with z | z
  · exact z
  · rw [o3_hi h z hc] at hb
    cases hb
/-- a set of bits has the rows of a list -/
def Is (x : Int32) (l : List Nat) : Prop := okS x ∧ ms x = l
theorem Is_of {x : Int32} {l : List Nat} (hx : ∀ i, i < 32 → (bt x i = true ↔ i < 27 ∧ nm i ∈ l)) (hs : Srt l) (hv : ∀ a, a ∈ l → ∃ i, i < 27 ∧ a = nm i) : Is x l := by
  refine ⟨fun i h1 h2 => ?_, ?_⟩
  · cases h : bt x i
    · rfl
    · have := (hx i h2).mp h
      omega
  · refine srt_eq (Srt_pw (ms_srt x)) (Srt_pw hs) fun a => ?_
    rw [mem_ms]
    constructor
    · rintro ⟨r, h1, h2, rfl⟩
      exact ((hx r (by omega)).mp h2).2
    · intro h
      obtain ⟨i, h1, rfl⟩ := hv a h
      exact ⟨i, h1, (hx i (by omega)).mpr ⟨h1, h⟩, rfl⟩
theorem Is.at {x : Int32} {l : List Nat} (h : Is x l) {i : Nat} (hi : i < 27) : bt x i = true ↔ nm i ∈ l := by rw [← h.2, nm_ms hi]
theorem Is.of {x : Int32} {l : List Nat} (h : Is x l) {a : Nat} (ha : a ∈ l) : ∃ i, i < 27 ∧ bt x i = true ∧ a = nm i := by
  rw [← h.2] at ha
  exact mem_ms.mp ha
theorem Is.uniq {x y : Int32} {l : List Nat} (hx : Is x l) (hy : Is y l) : x = y := ms_ext hx.1 hy.1 (hx.2.trans hy.2.symm)
/-- the law's frame: all but the row of sets -/
def FL2 (M M' : Lt) : Prop := ∀ k, k ≠ 2 → M' k = M k
theorem lay_fin {M S : Lt} {G : Gt} {Tb : Nat → List Nat} {k : Nat} {z : Int32} {S' : Lt} (hS : FL2 M S) (hV : ∀ u, u < k → Is (S 2 u) (VV G Tb u)) (h1 : FL2 S S') (h2 : ∀ q, q ≠ k → S' 2 q = S 2 q) (hz : S' 2 k = z) (h3 : Is z (VV G Tb k)) : FL2 M S' ∧ ∀ u, u < k + 1 → Is (S' 2 u) (VV G Tb u) := by
  refine ⟨fun q hq => (h1 q hq).trans (hS q hq), fun u hu => ?_⟩
  by_cases e : u = k
  · subst e
    rw [hz]
    exact h3
  · rw [h2 u e]
    exact hV u (by omega)
theorem VV_sel3 {G : Gt} {Tb : Nat → List Nat} {nt nv v : Nat} {x z : Int32} (hO : OKG G nt nv) (hT : ∀ t, t < nt → FT G t (Tb t)) (hv : v < nv) (k6 : G v 6 = 4) (hx : Is x (VV G Tb (vl G v))) (hz : ∀ i, i < 32 → (bt z i = true ↔ i < 27 ∧ bt x i = true ∧ selB G v (nm i) = true)) : Is z (VV G Tb v) := by
  refine Is_of (fun i hi => ?_) (FV_n hO hT hv).2.1 fun a ha => ?_
  · rw [hz i hi]
    constructor
    · rintro ⟨h1, h2, h3⟩
      exact ⟨h1, (VV_sel hO.1 hv k6).mpr ⟨(hx.at h1).mp h2, h3⟩⟩
    · rintro ⟨h1, h2⟩
      obtain ⟨h3, h4⟩ := (VV_sel hO.1 hv k6).mp h2
      exact ⟨h1, (hx.at h1).mpr h3, h4⟩
  · obtain ⟨i, h1, -, h3⟩ := hx.of ((VV_sel hO.1 hv k6).mp ha).1
    exact ⟨i, h1, h3⟩
theorem Is_parts {x z s : Int32} {l l2 : List Nat} (hx : Is x l) (hz : ∀ i, i < 32 → (bt z i = true ↔ ∃ r, r < 27 ∧ bt x r = true ∧ p3 s r = i)) (hs : Srt l2) (hm : ∀ a, a ∈ l2 ↔ ∃ r, r ∈ l ∧ a = pt s r) : Is z l2 := by
  refine Is_of (fun i hi => ?_) hs fun a ha => ?_
  · rw [hz i hi]
    constructor
    · rintro ⟨r, h1, h2, rfl⟩
      exact ⟨p3_lt h1, (hm _).mpr ⟨nm r, (hx.at h1).mp h2, (pt_nm h1).symm⟩⟩
    · rintro ⟨h1, h2⟩
      obtain ⟨a, h3, h4⟩ := (hm _).mp h2
      obtain ⟨r, h5, h6, rfl⟩ := hx.of h3
      rw [pt_nm h5] at h4
      exact ⟨r, h5, h6, (nm_inj h1 (p3_lt h5) h4).symm⟩
  · obtain ⟨a2, h3, rfl⟩ := (hm _).mp ha
    obtain ⟨r, h5, h6, rfl⟩ := hx.of h3
    exact ⟨p3 s r, p3_lt h5, pt_nm h5⟩
theorem small_nm {a : Nat} (ha : a < 1000000) (h2 : ∀ j, j < 3 → dg a j ≤ 2) (h0 : ∀ j, 3 ≤ j → j < 6 → dg a j = 0) : ∃ i, i < 27 ∧ a = nm i := by
  have a0 := h2 0 (by omega)
  have a1 := h2 1 (by omega)
  have a2 := h2 2 (by omega)
  refine ⟨dg a 0 + 3 * dg a 1 + 9 * dg a 2, by omega, ?_⟩
  refine dg_ext ha (nm_ok (by omega)) fun j hj => ?_
  rw [dg_nm _ (by omega) j hj]
  by_cases h3 : j < 3
  · rw [if_pos h3]
    have z : j = 0 ∨ j = 1 ∨ j = 2 := by omega
    unfold d3
    rcases z with rfl | rfl | rfl
    · rw [if_pos rfl]
      omega
    · rw [if_neg (by decide), if_pos rfl]
      omega
    · rw [if_neg (by decide), if_neg (by decide)]
      omega
  · rw [if_neg h3]
    exact h0 j (by omega) hj
theorem d3_le {i j : Nat} (hi : i < 27) : d3 i j ≤ 2 := by
  unfold d3
  split
  · omega
  · split <;> omega
theorem VV_join3 {G : Gt} {Tb : Nat → List Nat} {nt nv v : Nat} {x y z : Int32} (hO : OKG G nt nv) (hT : ∀ t, t < nt → FT G t (Tb t)) (hv : v < nv) (k6 : G v 6 = 2) (hsm : o3 (G v 1)) (hx : Is x (VV G Tb (vl G v))) (hy : Is y (VV G Tb (vr G v))) (hz : ∀ i, i < 32 → (bt z i = true ↔ i < 27 ∧ p3 (G v 1) i = i ∧ bt x (p3 (G (vl G v) 1) i) = true ∧ bt y (p3 (G (vr G v) 1) i) = true)) : Is z (VV G Tb v) := by
  have key : ∀ i, i < 27 → (nm i ∈ VV G Tb v ↔ p3 (G v 1) i = i ∧ bt x (p3 (G (vl G v) 1) i) = true ∧ bt y (p3 (G (vr G v) 1) i) = true) := by
    intro i hi
    rw [VV_join hO hT hv k6, ← p3_val hi, pt_nm hi, pt_nm hi, hx.at (p3_lt hi), hy.at (p3_lt hi)]
  refine Is_of (fun i hi => ?_) (FV_n hO hT hv).2.1 fun a ha => ?_
  · rw [hz i hi]
    constructor
    · rintro ⟨h1, h2⟩
      exact ⟨h1, (key i h1).mpr h2⟩
    · rintro ⟨h1, h2⟩
      exact ⟨h1, (key i h1).mp h2⟩
  · have hav := (FV_n hO hT hv).2.2.1 a ha
    obtain ⟨-, h2, h3⟩ := (VV_join hO hT hv k6).mp ha
    obtain ⟨il, e1, -, e2⟩ := hx.of h2
    obtain ⟨ir, f1, -, f2⟩ := hy.of h3
    obtain ⟨a1, -⟩ := (hO.2.1 v hv).2.2.2 k6
    refine small_nm (val_lt hav) (fun j hj => ?_) (fun j h3 h6 => val_0 hav h6 (o3_hi hsm h3 h6))
    cases hb : bt (G v 1) j
    · rw [val_0 hav (by omega) hb]
      exact Nat.zero_le _
    · rw [a1, bt_or (by omega), Bool.or_eq_true] at hb
      rcases hb with hb | hb
      · have e : dg (pt (G (vl G v) 1) a) j = dg a j := by rw [dg_pt (by omega), if_pos hb]
        rw [← e, e2, dg_nm il e1 j (by omega), if_pos hj]
        exact d3_le e1
      · have e : dg (pt (G (vr G v) 1) a) j = dg a j := by rw [dg_pt (by omega), if_pos hb]
        rw [← e, f2, dg_nm ir f1 j (by omega), if_pos hj]
        exact d3_le f1
theorem lay_n {M : Lt} {G : Gt} {nt nv : Nat} (hO : OKG G nt nv) (hsm : ∀ v, v < nv → SmV G v) (hS : ∀ t, t < nt → okS (M 0 (3 + t))) (hT : ∀ t, t < nt → FT G t (ms (M 0 (3 + t)))) (hK : ∀ v, v < nv → KW G M v) (h61 : M 6 1 = nI nv) : ∃ M', l_lay M = some M' ∧ FL2 M M' ∧ ∀ v, v < nv → Is (M' 2 v) (VV G (fun t => ms (M 0 (3 + t))) v) := by
  have hnt : nt ≤ 3 := hO.1.1.1
  have hnv : nv ≤ 10 := hO.1.1.2
  unfold l_lay
  refine lq2 (Q := fun o => ∃ M', o = some M' ∧ FL2 M M' ∧ ∀ v, v < nv → Is (M' 2 v) (VV G (fun t => ms (M 0 (3 + t))) v)) (fun d a S => ∃ k, k + d = nv ∧ a = nI k ∧ FL2 M S ∧ ∀ u, u < k → Is (S 2 u) (VV G (fun t => ms (M 0 (3 + t))) u)) ?_ _ nv _ _ (FU_lt (by omega)) ⟨0, by omega, rfl, fun _ _ => rfl, fun u hu => absurd hu (Nat.not_lt_zero _)⟩
  rintro d a S g ⟨k, hk, rfl, hF, hV⟩ ih
  have r7 : ∀ (f : Nat → Option Lt), rd 1 7 f = f 1 := fun f => rd_n (j := 1) (by decide) (by decide)
  rw [r7, hF 6 (by decide), h61]
  by_cases h : d = 0
  · rw [if_pos (nI_le (by omega) (by omega))]
    exact ⟨S, rfl, hF, fun v hv => hV v (by omega)⟩
  · have hkv : k < nv := by omega
    rw [if_neg (nI_ge (by omega) (by omega))]
    have r10 : ∀ (f : Nat → Option Lt), rd (nI k) 10 f = f k := fun f => rd_n (by omega) (by decide)
    have hS1 : S 1 = M 1 := hF 1 (by decide)
    have hS0 : S 0 = M 0 := hF 0 (by decide)
    have hKs : ∀ v, v < nv → ∀ T : Lt, FL2 S T → KW G T v := fun v hv T hT => (hK v hv).fr (by rw [hT 1 (by decide), hS1])
    have go : ∀ (z : Int32) (S' : Lt), FL2 S S' → (∀ q, q ≠ k → S' 2 q = S 2 q) → S' 2 k = z → Is z (VV G (fun t => ms (M 0 (3 + t))) k) → ∃ M', g (nI k + 1) S' = some M' ∧ FL2 M M' ∧ ∀ v, v < nv → Is (M' 2 v) (VV G (fun t => ms (M 0 (3 + t))) v) := by
      intro z S' h1 h2 h3 h4
      rw [nI_1]
      exact ih (d - 1) _ _ (by omega) ⟨k + 1, by omega, rfl, lay_fin hF hV h1 h2 h3 h4⟩
    have hw : ∀ (x : Int32), FL2 S (w3 S 2 k x) ∧ (∀ q, q ≠ k → (w3 S 2 k x) 2 q = S 2 q) ∧ (w3 S 2 k x) 2 k = x := fun x => ⟨fun q hq => w3_n hq, fun q hq => w3_o hq, w3_e⟩
    have hkw := hK k hkv
    simp only [r10, jn_d, lt_d, hS1]
    rcases hkw.2.2.2 with ⟨k6, kd, el⟩ | ⟨k6, kd, el, e7, e8, e9⟩ | ⟨k6, kd, el, e7, e8⟩ | ⟨k6, kd, el, er⟩
    · have ht := hO.1.T' hkv k6
      have r6 : ∀ (f : Nat → Option Lt), rd ((3 : Int32) + G k 11) 6 f = f (3 + vt G k) := fun f => by
        rw [ht.1, show (3 : Int32) = nI 3 from rfl, nI_add]
        exact rd_n (by omega) (by decide)
      rw [if_pos (by rw [kd]; rfl), el, r6]
      rw [if_neg (by rw [kd]; decide), if_neg (by rw [kd]; decide), if_neg (by rw [kd]; decide)]
      obtain ⟨a1, a2, a3⟩ := hw (S 0 (3 + vt G k))
      refine go _ _ a1 a2 a3 ?_
      rw [hS0, VV_tab hO hT hkv k6]
      exact ⟨hS _ ht.2, rfl⟩
    · have hl := hO.1.L' hkv (ne6_4 k6)
      have rl : ∀ (f : Nat → Option Lt), rd (G k 4) 10 f = f (vl G k) := fun f => by
        rw [hl.1]
        exact rd_n (by omega) (by decide)
      obtain ⟨a1, -, -, ⟨c, hc6, h7, hcb⟩, -, h9⟩ := (hO.2.1 k hkv).2.1 k6
      obtain ⟨w, hw3, h8⟩ := (hsm k hkv).2.2 (Or.inl k6)
      have hc3 : c < 3 := col_3 (hsm k hkv).1 hc6 (by rw [a1]; exact hcb)
      obtain ⟨s, hs2, h9⟩ : ∃ s, s < 2 ∧ G k 9 = nI s := by
        rcases h9 with q | q
        · exact ⟨0, by decide, q⟩
        · exact ⟨1, by decide, q⟩
      obtain ⟨z, hz, hzb⟩ := selected_n (w := M 1 k) (x := S 2 (vl G k)) true (e7.trans h7) hc3 (e8.trans h8) (by omega) (e9.trans h9) hs2
      have hz2 : l_selected (M 1 k) (S 2 (vl G k)) 1 = some z := hz
      rw [if_neg (by rw [kd]; decide), if_pos (by rw [kd]; rfl), el, rl, cb_t hz2, if_neg (by rw [kd]; decide), if_neg (by rw [kd]; decide)]
      obtain ⟨a1, a2, a3⟩ := hw z
      refine go _ _ a1 a2 a3 (VV_sel3 hO hT hkv k6 (hV _ hl.2) fun i hi => ?_)
      rw [hzb i hi]
      constructor
      · rintro ⟨b1, b2, b3⟩
        refine ⟨b1, b2, ?_⟩
        rw [selB_3 h7 h8 h9 hc3 (by omega) hs2 b1]
        simpa using b3
      · rintro ⟨b1, b2, b3⟩
        refine ⟨b1, b2, ?_⟩
        rw [selB_3 h7 h8 h9 hc3 (by omega) hs2 b1] at b3
        simpa using b3
    · have hl := hO.1.L' hkv (ne6_1 k6)
      have rl : ∀ (f : Nat → Option Lt), rd (G k 4) 10 f = f (vl G k) := fun f => by
        rw [hl.1]
        exact rd_n (by omega) (by decide)
      obtain ⟨z, hz, hzb⟩ := parts_n (S 2 (vl G k)) (G k 1)
      rw [if_neg (by rw [kd]; decide), if_neg (by rw [kd]; decide), if_pos (by rw [kd]; rfl), el, rl, cb_t (cols_n (hKs k hkv S (fun _ _ => rfl)) (by omega)), cb_t hz, if_neg (by rw [kd]; decide)]
      obtain ⟨a1, a2, a3⟩ := hw z
      exact go _ _ a1 a2 a3 (Is_parts (hV _ hl.2) hzb (FV_n hO hT hkv).2.1 fun a => VV_drop hO.1 hkv k6)
    · have hl := hO.1.L' hkv (ne6_2 k6)
      have hr := hO.1.R' hkv k6
      have rl : ∀ (f : Nat → Option Lt), rd (G k 4) 10 f = f (vl G k) := fun f => by
        rw [hl.1]
        exact rd_n (by omega) (by decide)
      have rr : ∀ (f : Nat → Option Lt), rd (G k 5) 10 f = f (vr G k) := fun f => by
        rw [hr.1]
        exact rd_n (by omega) (by decide)
      rw [if_neg (by rw [kd]; decide), if_neg (by rw [kd]; decide), if_neg (by rw [kd]; decide), if_pos (by rw [kd]; decide), el, er]
      obtain ⟨a1, a2, a3⟩ := hw 0
      refine lq2 (Q := fun o => ∃ M', o = some M' ∧ FL2 M M' ∧ ∀ v, v < nv → Is (M' 2 v) (VV G (fun t => ms (M 0 (3 + t))) v)) (fun d2 b T => ∃ i, i + d2 = 27 ∧ b = nI i ∧ FL2 S T ∧ (∀ q, q ≠ k → T 2 q = S 2 q) ∧ ∀ j, j < 32 → (bt (T 2 k) j = true ↔ j < i ∧ p3 (G k 1) j = j ∧ bt (S 2 (vl G k)) (p3 (G (vl G k) 1) j) = true ∧ bt (S 2 (vr G k)) (p3 (G (vr G k) 1) j) = true)) ?_ _ 27 _ _ (FU_lt (by omega)) ⟨0, by omega, rfl, a1, a2, fun j hj => ?_⟩
      · rintro d2 b T g2 ⟨i, hi, rfl, hT1, hT2, hT3⟩ ih2
        by_cases h27 : d2 = 0
        · have e : i = 27 := by omega
          subst e
          rw [if_pos (show (27 : Int32) ≤ nI 27 from by decide)]
          exact go _ T hT1 hT2 rfl (VV_join3 hO hT hkv k6 (hsm k hkv).1 (hV _ hl.2) (hV _ hr.2) hT3)
        · have hi27 : i < 27 := by omega
          have stay : ¬ (p3 (G k 1) i = i ∧ bt (S 2 (vl G k)) (p3 (G (vl G k) 1) i) = true ∧ bt (S 2 (vr G k)) (p3 (G (vr G k) 1) i) = true) → ∃ M', g2 (nI i + 1) T = some M' ∧ FL2 M M' ∧ ∀ v, v < nv → Is (M' 2 v) (VV G (fun t => ms (M 0 (3 + t))) v) := by
            intro hn
            rw [nI_1]
            refine ih2 (d2 - 1) _ _ (by omega) ⟨i + 1, by omega, rfl, hT1, hT2, fun j hj => ?_⟩
            rw [hT3 j hj]
            constructor
            · rintro ⟨q1, q2⟩
              exact ⟨by omega, q2⟩
            · rintro ⟨q1, q2⟩
              by_cases e : j = i
              · subst e
                exact absurd q2 hn
              · exact ⟨by omega, q2⟩
          have e1 : (nI (p3 (G k 1) i) = nI i) ↔ p3 (G k 1) i = i := nI_eq (by have := p3_lt (s := G k 1) hi27; omega) (by omega)
          have hKl : ∀ u, u < nv → l_columnsOf (nI u) T = some (G u 1) := fun u hu => cols_n (hKs u hu T hT1) (by omega)
          have h5l : T 2 (vl G k) = S 2 (vl G k) := hT2 _ (by omega)
          have h5r : T 2 (vr G k) = S 2 (vr G k) := hT2 _ (by omega)
          rw [if_neg (show ¬ (27 : Int32) ≤ nI i from nI_ge (b := 27) (by omega) (by decide)), cb_t (hKl k hkv), cb_t (part3_n hi27)]
          simp only [rl, rr, r10, jn_d, lt_d, e1, h5l, h5r, bt_t]
          by_cases c1 : p3 (G k 1) i = i
          · rw [if_pos c1, hl.1, cb_t (hKl _ (by omega)), cb_t (part3_n hi27)]
            simp only [bt_t]
            by_cases c2 : bt (S 2 (vl G k)) (p3 (G (vl G k) 1) i) = true
            · rw [if_pos c2, hr.1, cb_t (hKl _ (by omega)), cb_t (part3_n hi27)]
              simp only [bt_t]
              by_cases c3 : bt (S 2 (vr G k)) (p3 (G (vr G k) 1) i) = true
              · rw [if_pos c3, if_neg (by decide), nI_1]
                refine ih2 (d2 - 1) _ _ (by omega) ⟨i + 1, by omega, rfl, fun q hq => (w3_n hq).trans (hT1 q hq), fun q hq => (w3_o hq).trans (hT2 q hq), fun j hj => ?_⟩
                rw [w3_e, bt_set (by omega) hj, Bool.or_eq_true, hT3 j hj, decide_eq_true_iff]
                constructor
                · rintro (⟨q1, q2⟩ | rfl)
                  · exact ⟨by omega, q2⟩
                  · exact ⟨by omega, c1, c2, c3⟩
                · rintro ⟨q1, q2⟩
                  by_cases e : j = i
                  · exact Or.inr e
                  · exact Or.inl ⟨by omega, q2⟩
              · rw [if_neg c3, if_pos trivial]
                exact stay (fun q => c3 q.2.2)
            · rw [if_neg c2, if_pos trivial]
              exact stay (fun q => c2 q.2.1)
          · rw [if_neg c1, if_pos trivial]
            exact stay (fun q => c1 q.1)
      · rw [w3_e, bt_0 hj]
        constructor
        · intro q
          cases q
        · rintro ⟨q, -⟩
          omega
