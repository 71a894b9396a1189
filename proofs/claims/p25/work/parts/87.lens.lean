/-! ===== what is put back is got again; a view speaks of its own tables alone ===== -/
theorem VV_mask {G : Gt} {Tb Tb' : Nat → List Nat} {nt nv : Nat} (hO : OKG G nt nv) : ∀ b v, v < b → v < nv → (∀ t, t < nt → bt (G v 3) t = true → Tb' t = Tb t) → VV G Tb' v = VV G Tb v := by
  intro b
  induction b with
  | zero => intro v h; omega
  | succ b ih =>
    intro v hb hv hm
    have h3 := hO.1.1.1
    rw [VV_eq hO.1 hv, VV_eq hO.1 hv]
    rcases hO.1.K hv with k6 | k6 | k6 | k6
    · have hl := (hO.1.L' hv (ne6_1 k6)).2
      obtain ⟨-, -, a3, -⟩ := (hO.2.1 v hv).2.2.1 k6
      have e := ih (vl G v) (by omega) (by omega) (fun t ht hb2 => hm t ht (by rw [a3]; exact hb2))
      rw [stp_1 k6, stp_1 k6, show src G Tb' (VV G Tb') v = VV G Tb' (vl G v) from if_neg (ne6_1 k6), show src G Tb (VV G Tb) v = VV G Tb (vl G v) from if_neg (ne6_1 k6), e]
    · have hl := (hO.1.L' hv (ne6_2 k6)).2
      have hr := (hO.1.R' hv k6).2
      obtain ⟨-, -, a3, -⟩ := (hO.2.1 v hv).2.2.2 k6
      have e := ih (vl G v) (by omega) (by omega) (fun t ht hb2 => hm t ht (by rw [a3, bt_or (by omega), hb2]; rfl))
      have e2 := ih (vr G v) (by omega) (by omega) (fun t ht hb2 => hm t ht (by rw [a3, bt_or (by omega), hb2, Bool.or_true]))
      rw [stp_2 k6, stp_2 k6, show src G Tb' (VV G Tb') v = VV G Tb' (vl G v) from if_neg (ne6_2 k6), show src G Tb (VV G Tb) v = VV G Tb (vl G v) from if_neg (ne6_2 k6), e, e2]
    · have hl := (hO.1.L' hv (ne6_4 k6)).2
      obtain ⟨-, -, a3, -⟩ := (hO.2.1 v hv).2.1 k6
      have e := ih (vl G v) (by omega) (by omega) (fun t ht hb2 => hm t ht (by rw [a3]; exact hb2))
      rw [stp_4 k6, stp_4 k6, show src G Tb' (VV G Tb') v = VV G Tb' (vl G v) from if_neg (ne6_4 k6), show src G Tb (VV G Tb) v = VV G Tb (vl G v) from if_neg (ne6_4 k6), e]
    · have ht := (hO.1.T' hv k6).2
      obtain ⟨-, -, a3⟩ := (hO.2.1 v hv).1 k6
      have e := hm _ ht (by rw [a3, bt_one (by omega) (by omega)]; exact decide_eq_true rfl)
      rw [stp_6 k6, stp_6 k6, show src G Tb' (VV G Tb') v = Tb' (vt G v) from if_pos k6, show src G Tb (VV G Tb) v = Tb (vt G v) from if_pos k6, e]
theorem lens_4 {G : Gt} {N : Nat → List Nat} {nt nv v : Nat} {V l : List Nat} (hO : OKG G nt nv) (hN : ∀ t, t < nt → FT G t (N t)) (hv : v < nv) (k6 : G v 6 = 4) (hl : VV G N (vl G v) = paS G V v l) (hall : ∀ r, r ∈ l → selB G v r = true) (hs : Srt l) : VV G N v = l := by
  refine srt_eq (Srt_pw (FV_n hO hN hv).2.1) (Srt_pw hs) fun a => ?_
  rw [VV_sel hO.1 hv k6, hl, paS_mem]
  constructor
  · rintro ⟨h1 | ⟨-, h2, -⟩, h3⟩
    · exact h1
    · rw [h2] at h3
      cases h3
  · intro h
    exact ⟨Or.inl h, hall a h⟩
theorem lens_1 {G : Gt} {N : Nat → List Nat} {nt nv v : Nat} {V l : List Nat} (hO : OKG G nt nv) (hN : ∀ t, t < nt → FT G t (N t)) (hv : v < nv) (k6 : G v 6 = 1) (hl : VV G N (vl G v) = paD G V v l) (hval : ∀ r, r ∈ l → pt (G v 1) r = r) (hs : Srt l) : VV G N v = l := by
  obtain ⟨c, w, hc, hw, h7, h8, e7, e8, hb, hsb⟩ := drop_f (hO.2.1 v hv) k6
  have key : ∀ q, q ∈ l → pt (G v 1) (hid G V v q) = q := by
    intro q hq
    have e : pt (G v 1) (hid G V v q) = pt (G v 1) q := pt_eq.mpr fun j hj hbj => by
      unfold hid
      rw [e7, sd_dg (val_lt (hval q hq)) hc (hvn_lt (hO.2.1 v hv) k6) hj, if_neg]
      intro hjc
      rw [hsb j hj, decide_eq_true hjc, Bool.not_true, Bool.and_false] at hbj
      cases hbj
    rw [e, hval q hq]
  refine srt_eq (Srt_pw (FV_n hO hN hv).2.1) (Srt_pw hs) fun a => ?_
  rw [VV_drop hO.1 hv k6, hl]
  constructor
  · rintro ⟨r, h1, rfl⟩
    obtain ⟨q, h2, rfl⟩ := paD_mem.mp h1
    rw [key q h2]
    exact h2
  · intro h
    exact ⟨_, paD_mem.mpr ⟨a, h, rfl⟩, (key a h).symm⟩
theorem lens_2 {G : Gt} {N : Nat → List Nat} {nt nv v : Nat} {VL VR l : List Nat} (hO : OKG G nt nv) (hN : ∀ t, t < nt → FT G t (N t)) (hv : v < nv) (k6 : G v 6 = 2) (hl : VV G N (vl G v) = paL G VL (paR G VR v l) v l) (hr : VV G N (vr G v) = paR G VR v l) (hval : ∀ r, r ∈ l → pt (G v 1) r = r) (h3 : ∀ r, r ∈ l → ∀ q, q ∈ l → pt (G (vr G v) 2) r = pt (G (vr G v) 2) q → pt (G (vr G v) 1) r = pt (G (vr G v) 1) q) (hs : Srt l) : VV G N v = l := by
  have hl4 := (hO.1.L' hv (ne6_2 k6)).2
  have hr5 := (hO.1.R' hv k6).2
  obtain ⟨a1, a2, a3, a10, a5, akr⟩ := (hO.2.1 v hv).2.2.2 k6
  have hkr := hO.2.2 (vr G v) (by omega)
  have hsl : sub (G v 10) (G (vl G v) 1) := fun j hj hb => by
    rw [a10, bt_and (by omega), Bool.and_eq_true] at hb
    exact hb.1
  have hsr : sub (G v 10) (G (vr G v) 1) := fun j hj hb => by
    rw [a10, bt_and (by omega), Bool.and_eq_true] at hb
    exact hb.2
  refine srt_eq (Srt_pw (FV_n hO hN hv).2.1) (Srt_pw hs) fun a => ?_
  rw [VV_join hO hN hv k6, hl, hr]
  constructor
  · rintro ⟨v1, v2, v3⟩
    have hcm : pt (G v 10) (pt (G (vr G v) 1) a) = pt (G v 10) (pt (G (vl G v) 1) a) := by rw [pt_pt hsl, pt_pt hsr]
    obtain ⟨x, hx, ex⟩ : ∃ x, x ∈ l ∧ pt (G (vl G v) 1) a = pt (G (vl G v) 1) x := by
      rcases paL_mem.mp v2 with q | ⟨-, -, q⟩
      · exact wP_mem.mp q
      · exact absurd hcm (free_iff.mp q _ v3)
    have ekx : pt (G (vr G v) 2) x = pt (G (vr G v) 2) a := by rw [← pt_pt (s := G (vl G v) 1) akr, ← ex, pt_pt akr]
    obtain ⟨y, hy, ey⟩ : ∃ y, y ∈ l ∧ pt (G (vr G v) 1) a = pt (G (vr G v) 1) y := by
      rcases paR_mem.mp v3 with q | ⟨-, q⟩
      · exact wP_mem.mp q
      · refine absurd ?_ (free_iff.mp q (pt (G (vr G v) 1) x) (wP_mem.mpr ⟨x, hx, rfl⟩))
        rw [pt_pt hkr, pt_pt hkr, ekx]
    have eky : pt (G (vr G v) 2) y = pt (G (vr G v) 2) a := by rw [← pt_pt (s := G (vr G v) 1) hkr, ← ey, pt_pt hkr]
    have exy := h3 x hx y hy (ekx.trans eky.symm)
    have e : a = x := by
      rw [← v1, ← hval x hx]
      refine pt_eq.mpr fun j hj hb => ?_
      rw [a1, bt_or (by omega), Bool.or_eq_true] at hb
      rcases hb with hb | hb
      · exact pt_eq.mp ex j hj hb
      · exact pt_eq.mp (ey.trans exy.symm) j hj hb
    rw [e]
    exact hx
  · intro h
    exact ⟨hval a h, paL_mem.mpr (Or.inl (wP_mem.mpr ⟨a, h, rfl⟩)), paR_mem.mpr (Or.inl (wP_mem.mpr ⟨a, h, rfl⟩))⟩
/-! ===== both at work ===== -/
def CQ (S : St) (M : Lt) : Prop := S.1 46 = M 6 4 ∧ S.1 47 = (M 6 5 - M 6 5 / 1000 * 1000) - 1 ∧ S.1 48 = (M 6 5 / 1000) - 1 ∧ ((M 6 4 = 0 ∧ M 6 5 = 0) ∨ ¬ M 6 4 ≤ 0)
def Wn3 (G : Gt) (nv : Nat) (Tb : Nat → List Nat) (S : St) (M : Lt) (w : Nat) : Prop := w < nv ∧ okS (M 3 w) ∧ Rw S (23 + 2 * w) (ms (M 3 w)) ∧ okW G (VV G Tb w) w (ms (M 3 w))
def Re3 (G : Gt) (nt nv : Nat) (Tb : Nat → List Nat) (S0 : St) (M0 : Lt) (P : Nat → Prop) (S : St) (M : Lt) : Prop := FrC S0 S ∧ (∀ k, k ≠ 3 → k ≠ 4 → k ≠ 6 → k ≠ 7 → M k = M0 k) ∧ (∀ j, j ≠ 4 → j ≠ 5 → M 6 j = M0 6 j) ∧ CQ S M ∧ (∀ t, t < nt → okS (M 4 t) ∧ Rw S (2 + 7 * t) (ms (M 4 t)) ∧ FT G t (ms (M 4 t))) ∧ (∀ t, nt ≤ t → M 4 t = M0 4 t) ∧ ∀ w, P w → Wn3 G nv Tb S M w
def PC3 (G : Gt) (nt nv : Nat) (Tb : Nat → List Nat) (S0 : St) (M0 : Lt) : Prop := StH G nt nv Tb M0 ∧ (∀ v, v < nv → Rw S0 (22 + 2 * v) (VV G Tb v)) ∧ ∀ v, v < nv → G v 0 = nI v
def Stk3 (M : Lt) (st : List Nat) : Prop := ∀ j, j < st.length → M 7 j = nI (gl st j)
theorem PC3.st {G : Gt} {nt nv : Nat} {Tb : Nat → List Nat} {S0 S : St} {M0 M : Lt} {P : Nat → Prop} (hC : PC3 G nt nv Tb S0 M0) (h : Re3 G nt nv Tb S0 M0 P S M) : StH G nt nv Tb M := by
  obtain ⟨h1, h2, h3, h4, h5⟩ := hC.1
  have e1 : M 1 = M0 1 := h.2.1 1 (by decide) (by decide) (by decide) (by decide)
  have e2 : M 2 = M0 2 := h.2.1 2 (by decide) (by decide) (by decide) (by decide)
  exact ⟨h1, h2, fun u hu => (h3 u hu).fr (by rw [e1]), h4, fun u hu => by rw [e2]; exact h5 u hu⟩
theorem PC3.rs {G : Gt} {nt nv : Nat} {Tb : Nat → List Nat} {S0 S : St} {M0 M : Lt} {P : Nat → Prop} (hC : PC3 G nt nv Tb S0 M0) (h : Re3 G nt nv Tb S0 M0 P S M) {v : Nat} (hv : v < nv) : Rw S (22 + 2 * v) (VV G Tb v) := by
  have h10 := hC.1.1.1.1.2
  have hs : ¬ scr (22 + 2 * v) := by unfold scr; omega
  exact (hC.2.1 v hv).fr (h.1.1 _ hs) (h.1.2 _ (by omega) hs)
theorem Re3.mono {G : Gt} {nt nv : Nat} {Tb : Nat → List Nat} {S0 S : St} {M0 M : Lt} {P Q : Nat → Prop} (h : Re3 G nt nv Tb S0 M0 P S M) (hPQ : ∀ w, Q w → P w) : Re3 G nt nv Tb S0 M0 Q S M := ⟨h.1, h.2.1, h.2.2.1, h.2.2.2.1, h.2.2.2.2.1, h.2.2.2.2.2.1, fun w hw => h.2.2.2.2.2.2 w (hPQ w hw)⟩
theorem Re3.upd {G : Gt} {nt nv : Nat} {Tb : Nat → List Nat} {S0 S S' : St} {M0 M M' : Lt} {P Q : Nat → Prop} (h : Re3 G nt nv Tb S0 M0 P S M) (hnt : nt ≤ 3) (hs : ∀ k, ¬ (23 ≤ k ∧ k < 42 ∧ k % 2 = 1) → S'.1 k = S.1 k ∧ S'.2 k = S.2 k) (hm : ∀ k, k ≠ 3 → k ≠ 7 → M' k = M k) (hw : ∀ w, Q w → Wn3 G nv Tb S' M' w) : Re3 G nt nv Tb S0 M0 Q S' M' := by
  obtain ⟨h1, h2, h3, h4, h5, h6, h7⟩ := h
  have e4 : M' 4 = M 4 := hm 4 (by decide) (by decide)
  have e6 : M' 6 = M 6 := hm 6 (by decide) (by decide)
  refine ⟨h1.tr ⟨fun k hk => (hs k (fun z => hk (by unfold scr; omega))).1, fun k _ hk => (hs k (fun z => hk (by unfold scr; omega))).2⟩, fun k a b c d => (hm k a d).trans (h2 k a b c d), fun j a b => by rw [e6]; exact h3 j a b, ?_, fun t ht => ?_, fun t ht => by rw [e4]; exact h6 t ht, hw⟩
  · unfold CQ
    rw [e6, (hs 46 (by omega)).1, (hs 47 (by omega)).1, (hs 48 (by omega)).1]
    exact h4
  · rw [e4]
    obtain ⟨q1, q2, q3⟩ := h5 t ht
    exact ⟨q1, q2.fr (hs _ (by omega)).1 (hs _ (by omega)).2, q3⟩
theorem Re3.tell {G : Gt} {nt nv : Nat} {Tb : Nat → List Nat} {S0 S : St} {M0 M M' : Lt} {P : Nat → Prop} {c a b : Int32} (h : Re3 G nt nv Tb S0 M0 P S M) (hnt : nt ≤ 3) (hnv : nv ≤ 10) (hc : ¬ c ≤ 0) (hR : CR c a b M M') : Re3 G nt nv Tb S0 M0 P (apC S c a b) M' := by
  obtain ⟨h1, h2, h3, h4, h5, h6, h7⟩ := h
  obtain ⟨r1, r2, r3, r4, r5⟩ := hR
  have hs : ∀ k, k ≠ 46 → k ≠ 47 → k ≠ 48 → (apC S c a b).1 k = S.1 k := fun k x y z => by
    unfold apC
    rw [w1_ne z, w1_ne y, w1_ne x]
  have hs2 : (apC S c a b).2 = S.2 := rfl
  refine ⟨h1.tr ⟨fun k hk => hs k (fun z => hk (by unfold scr; omega)) (fun z => hk (by unfold scr; omega)) (fun z => hk (by unfold scr; omega)), fun k _ _ => by rw [hs2]⟩, fun k x y z w => (r1 k z).trans (h2 k x y z w), fun j x y => (r2 j x y).trans (h3 j x y), ?_, fun t ht => ?_, fun t ht => by rw [r1 4 (by decide)]; exact h6 t ht, fun w hw => ?_⟩
  · refine ⟨?_, ?_, ?_, Or.inr (by rw [r3]; exact hc)⟩
    · rw [apC_46, r3]
    · rw [r4]
      unfold apC
      rw [w1_ne (by decide), w1_eq]
    · rw [r5]
      unfold apC
      rw [w1_eq]
  · rw [r1 4 (by decide)]
    obtain ⟨q1, q2, q3⟩ := h5 t ht
    exact ⟨q1, q2.fr (hs _ (by omega) (by omega) (by omega)) (by rw [hs2]), q3⟩
  · obtain ⟨q1, q2, q3, q4⟩ := h7 w hw
    unfold Wn3
    rw [r1 3 (by decide)]
    exact ⟨q1, q2, q3.fr (hs _ (by omega) (by omega) (by omega)) (by rw [hs2]), q4⟩
