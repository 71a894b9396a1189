theorem pt_1 {G : Gt} {nt nv v n : Nat} {Tb : Nat → List Nat} {M : Lt} {g : Int32 → Lt → Option Lt} (h : StH G nt nv Tb M) (hv : v < nv) (hst : M 7 n = nI v) (hn : n < 10) (k6 : G v 6 = 1) (hx : okS (M 3 v)) (hval : ∀ r, r ∈ ms (M 3 v) → pt (G v 1) r = r) : ∃ T, ptP g (nI (n + 1)) n M M = g (nI (n + 1)) (w3 T 7 n (nI (vl G v))) ∧ (∀ k, k ≠ 3 → T k = M k) ∧ (∀ q, q ≠ vl G v → T 3 q = M 3 q) ∧ Is (T 3 (vl G v)) (paD G (VV G Tb (vl G v)) v (ms (M 3 v))) := by
  obtain ⟨hv10, r10, e1, r12⟩ := pt_pre h hv hst hn
  obtain ⟨hO, hT, hK, hsm, hV⟩ := h
  have hl := hO.1.L' hv (ne6_1 k6)
  have hA := hO.2.1 v hv
  have rl : ∀ (f : Nat → Option Lt), rd (nI (vl G v)) 10 f = f (vl G v) := fun f => rd_n (by omega) (by decide)
  have hF := FV_n hO hT (show vl G v < nv by omega)
  have hV2 := hV (vl G v) (by omega)
  obtain ⟨b1, b2, b3, ⟨c, hc6, h7, hcb, hck⟩, -⟩ := hA.2.2.1 k6
  obtain ⟨w, hw3, h8⟩ := (hsm v hv).2.2 (Or.inr k6)
  have hc3 : c < 3 := col_3 (hsm _ (show vl G v < nv by omega)).1 hc6 hcb
  have c7 : (G v 7).toNatClampNeg = c := by rw [h7, nI_clamp (by omega)]
  have c8 : (G v 8).toNatClampNeg = w := by rw [h8, nI_clamp (by omega)]
  -- the digit of each row
  have hrow : ∀ r, r < 27 → bt (M 3 v) r = true → hvn G (VV G Tb (vl G v)) v (nm r) < 3 ∧ r + hvn G (VV G Tb (vl G v)) v (nm r) * 3 ^ c < 27 ∧ nm (r + hvn G (VV G Tb (vl G v)) v (nm r) * 3 ^ c) = hid G (VV G Tb (vl G v)) v (nm r) := by
    intro r hr hb
    have h0 : d3 r c = 0 := by
      have q := val_0 (hval _ ((nm_ms hr).mpr hb)) (j := c) hc6 (by rw [b1, bt_and (by omega), bt_not (by omega), h7, bt_one (by omega) (by omega), decide_eq_true rfl, Bool.not_true, Bool.and_false])
      rw [dg_nm r hr c hc6, if_pos hc3] at q
      exact q
    have hlt : hvn G (VV G Tb (vl G v)) v (nm r) < 3 := by
      unfold hvn
      split
      · rw [c8]; exact hw3
      · rename_i q hq
        obtain ⟨i, h1, h2, rfl⟩ := hV2.of (fnd_mem hq).1
        rw [c7, dg_nm i h1 c hc6, if_pos hc3]
        have := d3_le (j := c) h1
        omega
    have hadd := nm_add hr hc3 hlt h0
    refine ⟨hlt, hadd.1, ?_⟩
    unfold hid
    rw [c7]
    exact hadd.2
  rcases (hK v hv).2.2.2 with ⟨z, -⟩ | ⟨z, -⟩ | ⟨-, kd, el, e7, e8⟩ | ⟨z, -⟩
  · exact absurd (k6.symm.trans z) (by decide)
  · exact absurd (k6.symm.trans z) (by decide)
  · unfold ptP
    simp only [hst, r10, jn_d, lt_d, el, hl.1, e1]
    rw [if_neg (by rw [kd]; decide), if_neg (by rw [kd]; decide), if_pos (by rw [kd]; rfl), rl]
    have f1 : ∀ y, (w3 M 3 (vl G v) y) 1 = M 1 := fun y => w3_n (by decide)
    rw [f1, e7.trans h7]
    refine lq2 (Q := fun o => ∃ T, o = g (nI (n + 1)) (w3 T 7 n (nI (vl G v))) ∧ (∀ k, k ≠ 3 → T k = M k) ∧ (∀ q, q ≠ vl G v → T 3 q = M 3 q) ∧ Is (T 3 (vl G v)) (paD G (VV G Tb (vl G v)) v (ms (M 3 v)))) (fun d a T => ∃ k, k + d = 27 ∧ a = nI k ∧ (∀ k, k ≠ 3 → T k = M k) ∧ (∀ q, q ≠ vl G v → T 3 q = M 3 q) ∧ ∀ i, i < 32 → (bt (T 3 (vl G v)) i = true ↔ ∃ r, r < k ∧ bt (M 3 v) r = true ∧ r + hvn G (VV G Tb (vl G v)) v (nm r) * 3 ^ c = i)) ?_ _ 27 _ _ (FU_lt (by omega)) ⟨0, by omega, rfl, fun k hk => w3_n hk, fun q hq => w3_o hq, fun i hi => ?_⟩
    · rintro d a T g2 ⟨k, hk, rfl, hT1, hT2, hT3⟩ ih
      by_cases h0 : d = 0
      · have e : k = 27 := by omega
        subst e
        rw [if_pos (show (27 : Int32) ≤ nI 27 from by decide)]
        rw [if_neg (by rw [kd]; decide), if_neg (by rw [kd]; decide), r12, if_neg (by rw [kd]; decide), nI_1]
        refine ⟨T, rfl, hT1, hT2, Is_of (fun i hi => ?_) fold_srtP fun a ha => ?_⟩
        · rw [hT3 i hi]
          constructor
          · rintro ⟨r, h1, h2, rfl⟩
            obtain ⟨-, q2, q3⟩ := hrow r h1 h2
            refine ⟨q2, paD_mem.mpr ⟨nm r, (nm_ms h1).mpr h2, q3⟩⟩
          · rintro ⟨h1, h2⟩
            obtain ⟨a, h3, h4⟩ := paD_mem.mp h2
            obtain ⟨r, h5, h6, rfl⟩ := mem_ms.mp h3
            obtain ⟨-, q2, q3⟩ := hrow r h5 h6
            exact ⟨r, h5, h6, nm_inj q2 h1 (q3.trans h4.symm)⟩
        · obtain ⟨a2, h3, rfl⟩ := paD_mem.mp ha
          obtain ⟨r, h5, h6, rfl⟩ := mem_ms.mp h3
          obtain ⟨-, q2, q3⟩ := hrow r h5 h6
          exact ⟨_, q2, q3.symm⟩
      · have hk27 : k < 27 := by omega
        rw [if_neg (show ¬ (27 : Int32) ≤ nI k from nI_ge (b := 27) (by omega) (by decide)), hT2 v (by omega)]
        simp only [bt_f]
        cases hb : bt (M 3 v) k
        · rw [if_pos rfl, nI_1]
          refine ih (d - 1) _ _ (by omega) ⟨k + 1, by omega, rfl, hT1, hT2, fun i hi => ?_⟩
          rw [hT3 i hi, ex_succ]
          constructor
          · intro q
            exact Or.inl q
          · rintro (q | q)
            · exact q
            · rw [hb] at q
              cases q.1
        · obtain ⟨q1, q2, q3⟩ := hrow k hk27 hb
          have hKT : KW G T v := (hK v hv).fr (by rw [hT1 1 (by decide)])
          have t1 : T 1 = M 1 := hT1 1 (by decide)
          have t2 : T 2 = M 2 := hT1 2 (by decide)
          rw [if_neg (by decide), t1, e8.trans h8]
          refine lq2 (Q := fun o => ∃ T, o = g (nI (n + 1)) (w3 T 7 n (nI (vl G v))) ∧ (∀ k, k ≠ 3 → T k = M k) ∧ (∀ q, q ≠ vl G v → T 3 q = M 3 q) ∧ Is (T 3 (vl G v)) (paD G (VV G Tb (vl G v)) v (ms (M 3 v)))) (fun d2 a b => ∃ m, m + d2 = 27 ∧ b = nI m ∧ (((∀ q, q < m → ¬ (bt (M 2 (vl G v)) q = true ∧ p3 (G v 2) q = p3 (G v 2) k)) ∧ a = nI w) ∨ ∃ q, q < m ∧ bt (M 2 (vl G v)) q = true ∧ p3 (G v 2) q = p3 (G v 2) k ∧ a = nI (d3 q c))) ?_ _ 27 _ _ (FU_lt (by omega)) ⟨0, by omega, rfl, Or.inl ⟨fun q hq => absurd hq (Nat.not_lt_zero _), rfl⟩⟩
          rintro d2 a b g3 ⟨m, hm, rfl, ha⟩ ih2
          by_cases h1 : d2 = 0
          · have e : m = 27 := by omega
            subst e
            have hav : a = nI (hvn G (VV G Tb (vl G v)) v (nm k)) := by
              rcases ha with ⟨n1, rfl⟩ | ⟨q, n1, n2, n3, rfl⟩
              · have hf : fnd (G v 2) (pt (G v 2) (nm k)) (VV G Tb (vl G v)) = none := by
                  cases hf : fnd (G v 2) (pt (G v 2) (nm k)) (VV G Tb (vl G v)) with
                  | none => rfl
                  | some q2 =>
                    obtain ⟨m1, m2⟩ := fnd_mem hf
                    obtain ⟨q, h5, h6, rfl⟩ := hV2.of m1
                    exact absurd ⟨h6, (p3_pt h5 hk27).mpr m2⟩ (n1 q h5)
                unfold hvn
                rw [hf]
                dsimp only
                rw [c8]
              · obtain ⟨q2, hf⟩ := fnd_some (s := G v 2) ((hV2.at n1).mp n2) ((p3_pt n1 hk27).mp n3)
                obtain ⟨m1, m2⟩ := fnd_mem hf
                have e : q2 = nm q := hF.2.2.2 _ m1 _ ((hV2.at n1).mp n2) (by
                  rw [← b2, m2]
                  exact ((p3_pt n1 hk27).mp n3).symm)
                unfold hvn
                rw [hf, e]
                dsimp only
                rw [c7, dg_nm q n1 c hc6, if_pos hc3]
            subst hav
            rw [if_pos (show (27 : Int32) ≤ nI 27 from by decide), rl, cb_t (unit_n hc3), rl, pk_mul, nI_add, nI_1]
            refine ih (d - 1) _ _ (by omega) ⟨k + 1, by omega, rfl, fun k hk => (w3_n hk).trans (hT1 k hk), fun q hq => (w3_o hq).trans (hT2 q hq), fun i hi => ?_⟩
            rw [w3_e, bt_set (by omega) hi, Bool.or_eq_true, hT3 i hi, decide_eq_true_iff, ex_succ]
            constructor
            · rintro (q | q)
              · exact Or.inl q
              · exact Or.inr ⟨hb, q.symm⟩
            · rintro (q | q)
              · exact Or.inl q
              · exact Or.inr q.2.symm
          · have hm27 : m < 27 := by omega
            have stay : ¬ (bt (M 2 (vl G v)) m = true ∧ p3 (G v 2) m = p3 (G v 2) k) → ∃ T, g3 a (nI m + 1) = g (nI (n + 1)) (w3 T 7 n (nI (vl G v))) ∧ (∀ k, k ≠ 3 → T k = M k) ∧ (∀ q, q ≠ vl G v → T 3 q = M 3 q) ∧ Is (T 3 (vl G v)) (paD G (VV G Tb (vl G v)) v (ms (M 3 v))) := by
              intro hn2
              rw [nI_1]
              refine ih2 (d2 - 1) _ _ (by omega) ⟨m + 1, by omega, rfl, ?_⟩
              rcases ha with ⟨n1, n2⟩ | ⟨q, n1, n2⟩
              · refine Or.inl ⟨fun q hq => ?_, n2⟩
                by_cases e : q = m
                · rw [e]; exact hn2
                · exact n1 q (by omega)
              · exact Or.inr ⟨q, by omega, n2⟩
            rw [if_neg (show ¬ (27 : Int32) ≤ nI m from nI_ge (b := 27) (by omega) (by decide)), rl, t2]
            simp only [bt_t]
            by_cases hbm : bt (M 2 (vl G v)) m = true
            · rw [if_pos hbm, cb_t (key_n hKT hv10), cb_t (part3_n hm27), cb_t (key_n hKT hv10), cb_t (part3_n hk27)]
              have e5 : (nI (p3 (G v 2) m) = nI (p3 (G v 2) k)) ↔ p3 (G v 2) m = p3 (G v 2) k := nI_eq (by have := p3_lt (s := G v 2) hm27; omega) (by have := p3_lt (s := G v 2) hk27; omega)
              by_cases hp : p3 (G v 2) m = p3 (G v 2) k
              · rw [if_pos (e5.mpr hp), cb_t (digit3_n hm27 hc3), nI_1]
                exact ih2 (d2 - 1) _ _ (by omega) ⟨m + 1, by omega, rfl, Or.inr ⟨m, by omega, hbm, hp, rfl⟩⟩
              · rw [if_neg (fun z => hp (e5.mp z))]
                exact stay (fun z => hp z.2)
            · rw [if_neg hbm]
              exact stay (fun z => hbm z.1)
    · rw [w3_e, bt_0 hi]
      constructor
      · intro q
        cases q
      · rintro ⟨r, hr, -⟩
        omega
  · exact absurd (k6.symm.trans z) (by decide)
