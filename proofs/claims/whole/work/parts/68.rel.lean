/-! ===== class and reference while they plan ===== -/
def PC (G : Gt) (nt nv : Nat) (Tb : Nat → List Nat) (S0 M0 : St) : Prop := RR S0 G nt nv M0 ∧ RB G nt S0 M0 Tb ∧ RV G nv S0 Tb ∧ ∀ v, v < nv → Vm M0 18 17 v (VV G Tb v)
def Wn (G : Gt) (nv : Nat) (Tb : Nat → List Nat) (S M : St) (w : Nat) : Prop := w < nv ∧ ∃ l, Rw S (23 + 2 * w) l ∧ Vm M 20 19 w l ∧ okW G (VV G Tb w) w l
def Rel (G : Gt) (nt nv : Nat) (Tb : Nat → List Nat) (S0 M0 : St) (P : Nat → Prop) (S M : St) : Prop := FrC S0 S ∧ FrX M0 M ∧ (M.2 17 = M0.2 17 ∧ M.2 18 = M0.2 18 ∧ M.1 0 = M0.1 0) ∧ (S.1 46 = M.1 25 ∧ S.1 47 = M.1 26 ∧ S.1 48 = M.1 27 ∧ (M.1 25 = 0 ∨ ¬ M.1 25 ≤ 0)) ∧ (∀ t, t < nt → ∃ l, Rw S (2 + 7 * t) l ∧ Tn M t l ∧ FT G t l) ∧ ∀ w, P w → Wn G nv Tb S M w
def Stk (M : St) (st : List Nat) : Prop := M.1 30 = nI st.length ∧ Sg (M.2 31) 0 st
theorem comes_n {M : St} {st : List Nat} {v : Nat} (h : Stk M st) (hl : st.length < 10) : ∃ M', m_comes (nI v) M = some M' ∧ Stk M' (st ++ [v]) ∧ (∀ k, k ≠ 30 → M'.1 k = M.1 k) ∧ ∀ k, k ≠ 31 → M'.2 k = M.2 k := by
  unfold m_comes
  rw [h.1, rd_n hl (by decide), lt_d, w2_1, h.1, nI_1, lt_d]
  refine ⟨_, rfl, ⟨by rw [w1_eq, List.length_append]; rfl, fun j hj => ?_⟩, fun k hk => w1_ne hk, fun k hk => w2_ne hk⟩
  rw [List.length_append, List.length_singleton] at hj
  rw [w1_2, Nat.zero_add]
  by_cases hje : j = st.length
  · rw [hje, w2_at, gl_append_at]
  · rw [w2_nj hje, gl_append_l (by omega)]
    have := h.2 j (by omega)
    rwa [Nat.zero_add] at this
theorem Stk.fr {M M' : St} {st : List Nat} (h : Stk M st) (h1 : M'.1 30 = M.1 30) (h2 : M'.2 31 = M.2 31) : Stk M' st := ⟨h1.trans h.1, by rw [h2]; exact h.2⟩
theorem PC.km {G : Gt} {nt nv : Nat} {Tb : Nat → List Nat} {S0 M0 S M : St} {P : Nat → Prop} (hC : PC G nt nv Tb S0 M0) (h : Rel G nt nv Tb S0 M0 P S M) {v : Nat} (hv : v < nv) : KM G M v := KM_fr (hC.1.km hv) fun k a b => h.2.1.2 k (by omega)
theorem PC.pw {G : Gt} {nt nv : Nat} {Tb : Nat → List Nat} {S0 M0 S M : St} {P : Nat → Prop} (hC : PC G nt nv Tb S0 M0) (h : Rel G nt nv Tb S0 M0 P S M) : PW M := fun c hc => by
  rw [h.2.1.2 1 (by omega)]
  exact hC.1.2.1.2.1 c hc
theorem PC.ok {G : Gt} {nt nv : Nat} {Tb : Nat → List Nat} {S0 M0 : St} (hC : PC G nt nv Tb S0 M0) : OKG G nt nv := hC.1.2.1.1
theorem PC.ft {G : Gt} {nt nv : Nat} {Tb : Nat → List Nat} {S0 M0 : St} (hC : PC G nt nv Tb S0 M0) {t : Nat} (ht : t < nt) : FT G t (Tb t) := (hC.2.1 t ht).2.2
theorem PC.fv {G : Gt} {nt nv : Nat} {Tb : Nat → List Nat} {S0 M0 : St} (hC : PC G nt nv Tb S0 M0) {v : Nat} (hv : v < nv) : FV G v (VV G Tb v) := FV_n hC.ok (fun _ ht => hC.ft ht) hv
theorem PC.rs {G : Gt} {nt nv : Nat} {Tb : Nat → List Nat} {S0 M0 S M : St} {P : Nat → Prop} (hC : PC G nt nv Tb S0 M0) (h : Rel G nt nv Tb S0 M0 P S M) {v : Nat} (hv : v < nv) : Rw S (22 + 2 * v) (VV G Tb v) := by
  have hb := hC.1.b
  exact (hC.2.2.1 v hv).fr (h.1.1 _ (by unfold scr; omega)) (h.1.2 _ (by omega) (by unfold scr; omega))
theorem PC.vm {G : Gt} {nt nv : Nat} {Tb : Nat → List Nat} {S0 M0 S M : St} {P : Nat → Prop} (hC : PC G nt nv Tb S0 M0) (h : Rel G nt nv Tb S0 M0 P S M) {v : Nat} (hv : v < nv) : Vm M 18 17 v (VV G Tb v) := by
  obtain ⟨a, b, c⟩ := hC.2.2.2 v hv
  exact ⟨by rw [h.2.2.1.1]; exact a, by rw [h.2.2.1.2.1]; exact b, c⟩
theorem Rel.mono {G : Gt} {nt nv : Nat} {Tb : Nat → List Nat} {S0 M0 S M : St} {P Q : Nat → Prop} (h : Rel G nt nv Tb S0 M0 P S M) (hPQ : ∀ w, Q w → P w) : Rel G nt nv Tb S0 M0 Q S M := ⟨h.1, h.2.1, h.2.2.1, h.2.2.2.1, h.2.2.2.2.1, fun w hw => h.2.2.2.2.2 w (hPQ w hw)⟩
theorem Tn.fr {M M' : St} {t : Nat} {l : List Nat} (h : Tn M t l) (h8 : M'.2 28 = M.2 28) (h9 : M'.2 29 = M.2 29) : Tn M' t l := ⟨by rw [h8]; exact h.1, by rw [h9]; exact h.2⟩
theorem Rel.upd {G : Gt} {nt nv : Nat} {Tb : Nat → List Nat} {S0 M0 S M S' M' : St} {P Q : Nat → Prop} (h : Rel G nt nv Tb S0 M0 P S M) (hnt : nt ≤ 3) (hs : ∀ k, ¬ (23 ≤ k ∧ k < 42 ∧ k % 2 = 1) → S'.1 k = S.1 k ∧ S'.2 k = S.2 k) (hm1 : ∀ k, k ≠ 30 → M'.1 k = M.1 k) (hm2 : ∀ k, k ≠ 19 → k ≠ 20 → k ≠ 31 → k ≠ 35 → M'.2 k = M.2 k) (hw : ∀ w, Q w → Wn G nv Tb S' M' w) : Rel G nt nv Tb S0 M0 Q S' M' := by
  obtain ⟨a, b, ⟨c1, c2, c3⟩, ⟨d1, d2, d3, d4⟩, e, f⟩ := h
  refine ⟨a.tr ⟨fun k hk => (hs k (fun z => hk (by unfold scr; omega))).1, fun k _ hk => (hs k (fun z => hk (by unfold scr; omega))).2⟩, b.tr ⟨fun k _ _ _ _ h30 => hm1 k h30, fun k hk => hm2 k (by omega) (by omega) (by omega) (by omega)⟩, ⟨?_, ?_, (hm1 0 (by decide)).trans c3⟩, ⟨?_, ?_, ?_, (by rw [hm1 25 (by decide)]; exact d4)⟩, fun t ht => ?_, hw⟩
  · rw [hm2 17 (by decide) (by decide) (by decide) (by decide)]; exact c1
  · rw [hm2 18 (by decide) (by decide) (by decide) (by decide)]; exact c2
  · rw [(hs 46 (by omega)).1, hm1 25 (by decide)]; exact d1
  · rw [(hs 47 (by omega)).1, hm1 26 (by decide)]; exact d2
  · rw [(hs 48 (by omega)).1, hm1 27 (by decide)]; exact d3
  · obtain ⟨l, l1, l2, l3⟩ := e t ht
    exact ⟨l, l1.fr (hs _ (by omega)).1 (hs _ (by omega)).2, l2.fr (hm2 28 (by decide) (by decide) (by decide) (by decide)) (hm2 29 (by decide) (by decide) (by decide) (by decide)), l3⟩
theorem Rel.tab {G : Gt} {nt nv t0 : Nat} {Tb : Nat → List Nat} {S0 M0 S M S' M' : St} {P : Nat → Prop} {l0 : List Nat} (h : Rel G nt nv Tb S0 M0 P S M) (hnt : nt ≤ 3) (ht0 : t0 < nt) (hF : Fr (2 + 7 * t0) S S') (hR : Rw S' (2 + 7 * t0) l0) (hT : Tn M' t0 l0) (hFT : FT G t0 l0) (hm1 : M'.1 = M.1) (hm2 : ∀ k, k ≠ 28 → k ≠ 29 → M'.2 k = M.2 k) (hm3 : ∀ j, j ≠ t0 → M'.2 28 j = M.2 28 j) (hm4 : ∀ j, (j < 12 * t0 ∨ 12 * t0 + 12 ≤ j) → M'.2 29 j = M.2 29 j) : Rel G nt nv Tb S0 M0 P S' M' := by
  obtain ⟨a, b, ⟨c1, c2, c3⟩, ⟨d1, d2, d3, d4⟩, e, f⟩ := h
  have hscr : scr (2 + 7 * t0) := by unfold scr; omega
  refine ⟨a.tr ⟨fun k hk => hF.1 k (fun z => hk (z ▸ hscr)), fun k _ hk => hF.2 k (fun z => hk (z ▸ hscr))⟩, b.tr ⟨fun k _ _ _ _ _ => by rw [hm1], fun k hk => hm2 k (by omega) (by omega)⟩, ⟨?_, ?_, (by rw [hm1]; exact c3)⟩, ⟨?_, ?_, ?_, (by rw [hm1]; exact d4)⟩, fun t ht => ?_, fun w hw => ?_⟩
  · rw [hm2 17 (by decide) (by decide)]; exact c1
  · rw [hm2 18 (by decide) (by decide)]; exact c2
  · rw [hF.1 46 (by omega), hm1]; exact d1
  · rw [hF.1 47 (by omega), hm1]; exact d2
  · rw [hF.1 48 (by omega), hm1]; exact d3
  · by_cases htt : t = t0
    · subst htt
      exact ⟨l0, hR, hT, hFT⟩
    · obtain ⟨l, l1, ⟨l2, l3⟩, l4⟩ := e t ht
      have h12 := l4.1
      refine ⟨l, Rw_fr l1 hF (by omega), ⟨(hm3 t htt).trans l2, fun j hj => ?_⟩, l4⟩
      rw [hm4 _ (by omega)]
      exact l3 j hj
  · obtain ⟨hw2, l, l1, l2, l3⟩ := f w hw
    exact ⟨hw2, l, Rw_fr l1 hF (by omega), ⟨by rw [hm2 19 (by decide) (by decide)]; exact l2.1, by rw [hm2 20 (by decide) (by decide)]; exact l2.2.1, l2.2.2⟩, l3⟩
def kids (G : Gt) (v : Nat) : List Nat := if G v 6 = 6 then [] else if G v 6 = 2 then [vl G v, vr G v] else [vl G v]
theorem Vm_W {M M' : St} {w : Nat} {l : List Nat} (h : Vm M 20 19 w l) (h9 : M'.2 19 = M.2 19) (h0 : M'.2 20 = M.2 20) : Vm M' 20 19 w l := ⟨by rw [h9]; exact h.1, by rw [h0]; exact h.2.1, h.2.2⟩
theorem mask_ne {G : Gt} {nt nv : Nat} (hO : OKG G nt nv) : ∀ b v, v < b → v < nv → ∃ c, c < 32 ∧ bt (G v 3) c = true := by
  intro b
  induction b with
  | zero => intro v h; omega
  | succ b ih =>
    intro v hb hv
    have h3 := hO.1.1.1
    rcases hO.1.K hv with k6 | k6 | k6 | k6
    · have := (hO.1.L' hv (ne6_1 k6)).2
      obtain ⟨-, -, a3, -⟩ := (hO.2.1 v hv).2.2.1 k6
      rw [a3]
      exact ih _ (by omega) (by omega)
    · have := (hO.1.L' hv (ne6_2 k6)).2
      obtain ⟨-, -, a3, -⟩ := (hO.2.1 v hv).2.2.2 k6
      obtain ⟨c, hc, hb2⟩ := ih (vl G v) (by omega) (by omega)
      exact ⟨c, hc, by rw [a3, bt_or hc, hb2]; rfl⟩
    · have := (hO.1.L' hv (ne6_4 k6)).2
      obtain ⟨-, -, a3, -⟩ := (hO.2.1 v hv).2.1 k6
      rw [a3]
      exact ih _ (by omega) (by omega)
    · have := (hO.1.T' hv k6).2
      obtain ⟨-, -, a3⟩ := (hO.2.1 v hv).1 k6
      exact ⟨vt G v, by omega, by rw [a3, bt_one (by omega) (by omega), decide_eq_true rfl]⟩
theorem kids_ne {G : Gt} {nt nv v : Nat} (hO : OKG G nt nv) (hv : v < nv) (k6 : G v 6 = 2) : vl G v ≠ vr G v := by
  intro he
  have hl := (hO.1.L' hv (ne6_2 k6)).2
  obtain ⟨-, -, -, -, a5, -⟩ := (hO.2.1 v hv).2.2.2 k6
  obtain ⟨c, hc, hb⟩ := mask_ne hO _ (vl G v) (Nat.lt_succ_self _) (by omega)
  rw [← he] at a5
  have h1 : bt (G (vl G v) 3 &&& G (vl G v) 3) c = false := by rw [a5, bt_0 hc]
  rw [bt_and hc, hb] at h1
  cases h1
