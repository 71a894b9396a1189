/-! ===== a new view: the law's word, the relation ===== -/
def wv (k l r c v s a b d : Nat) : Nat := k + 4 * l + 64 * r + 1024 * c + 4096 * v + 16384 * s + 32768 * a + 262144 * b + 2097152 * d
theorem wfld {W : Nat} (h : W < 2 ^ 31) (s : Int32) (k : Nat) (hs : (s.toBitVec.smod 32).toNat = k) {m : Int32} (b : Nat) (hm : m.toBitVec.toNat = 2 ^ b - 1) : ((nI W >>> s) &&& m) = nI (W / 2 ^ k % 2 ^ b) := by
  rw [pk_shrN h s k hs, pk_andN (Nat.lt_of_le_of_lt (Nat.div_le_self _ _) (by omega)) b hm]
theorem wv_f {k l r c v s a b d : Nat} (hk : k < 4) (hl : l < 16) (hr : r < 16) (hc : c < 4) (hv : v < 4) (hs : s < 2) (ha : a < 8) (hb : b < 8) (hd : d < 8) : ((nI (wv k l r c v s a b d) >>> ((15 : Int32) &&& 31)) &&& 7) = nI a ∧ ((nI (wv k l r c v s a b d) >>> ((18 : Int32) &&& 31)) &&& 7) = nI b ∧ ((nI (wv k l r c v s a b d) >>> ((21 : Int32) &&& 31)) &&& 7) = nI d ∧ (nI (wv k l r c v s a b d) &&& 3) = nI k ∧ ((nI (wv k l r c v s a b d) >>> ((2 : Int32) &&& 31)) &&& 15) = nI l ∧ ((nI (wv k l r c v s a b d) >>> ((6 : Int32) &&& 31)) &&& 15) = nI r ∧ ((nI (wv k l r c v s a b d) >>> ((10 : Int32) &&& 31)) &&& 3) = nI c ∧ ((nI (wv k l r c v s a b d) >>> ((12 : Int32) &&& 31)) &&& 3) = nI v ∧ ((nI (wv k l r c v s a b d) >>> ((14 : Int32) &&& 31)) &&& 1) = nI s := by
  have hW : wv k l r c v s a b d < 2 ^ 31 := by unfold wv; omega
  refine ⟨?_, ?_, ?_, ?_, ?_, ?_, ?_, ?_, ?_⟩
  · rw [wfld hW _ 15 (by decide) 3 (by decide)]
    congr 1
    unfold wv
    omega
  · rw [wfld hW _ 18 (by decide) 3 (by decide)]
    congr 1
    unfold wv
    omega
  · rw [wfld hW _ 21 (by decide) 3 (by decide)]
    congr 1
    unfold wv
    omega
  · rw [pk_andN (by omega) 2 (by decide)]
    congr 1
    unfold wv
    omega
  · rw [wfld hW _ 2 (by decide) 4 (by decide)]
    congr 1
    unfold wv
    omega
  · rw [wfld hW _ 6 (by decide) 4 (by decide)]
    congr 1
    unfold wv
    omega
  · rw [wfld hW _ 10 (by decide) 2 (by decide)]
    congr 1
    unfold wv
    omega
  · rw [wfld hW _ 12 (by decide) 2 (by decide)]
    congr 1
    unfold wv
    omega
  · rw [wfld hW _ 14 (by decide) 1 (by decide)]
    congr 1
    unfold wv
    omega
theorem RQ.nv {S : St} {G : Gt} {nt nv : Nat} {M : Lt} {g : Nat → Int32} {W : Int32} (h : RQ (S, G, nt, nv) M) (hnv : nv < 10) (hW : WV (nVG G nv g) nt nv) (hA : GA (nVG G nv g) nv) (hS : sub (g 2) (g 1)) (h0 : g 0 = nI nv) (hk : ∀ c, c < 32 → bt (g 3) c = true → c < nt) (hKW : ∀ M' : Lt, M' 1 nv = W → KW (nVG G nv g) M' nv) (hsm : SmV (nVG G nv g) nv) : ∃ S', d10_keepView (nVG G nv g) nt (nv + 1) nv (nVS S nv) = some (nI nv, S') ∧ RQ (S', nVG G nv g, nt, nv + 1) (w3 (w3 M 1 nv W) 6 1 (nI (nv + 1))) := by
  have hb := h.b
  obtain ⟨⟨a1, a2, a3, a4, a5⟩, ⟨⟨hG, hA0, hS0⟩, g2, g7, gv, gt⟩, ⟨hB, hz, hV⟩, hD, nu, u1, u2, u3, u4⟩ := h
  dsimp only at a1 a2 a3 a4 a5 hG hA0 hS0 g2 g7 gv gt hB hz hV hD u2 u4
  obtain ⟨M', eM'⟩ : ∃ M', M' = w3 (w3 M 1 nv W) 6 1 (nI (nv + 1)) := ⟨_, rfl⟩
  rw [← eM']
  have mn : ∀ q, q ≠ 1 → q ≠ 6 → M' q = M q := fun q a b => by rw [eM', w3_n b, w3_n a]
  have m6 : ∀ j, j ≠ 1 → M' 6 j = M 6 j := fun j a => by rw [eM', w3_o a, w3_n (by decide)]
  have m61 : M' 6 1 = nI (nv + 1) := by rw [eM', w3_e]
  have m1 : ∀ j, j ≠ nv → M' 1 j = M 1 j := fun j a => by rw [eM', w3_n (by decide), w3_o a]
  have m1n : M' 1 nv = W := by rw [eM', w3_n (by decide), w3_e]
  have s1 : ∀ k, (k < 22 + 2 * nv ∨ 24 + 2 * nv ≤ k) → (nVS S nv).1 k = S.1 k := fun k r => if_neg (by omega)
  have s2 : ∀ k, (k < 22 + 2 * nv ∨ 24 + 2 * nv ≤ k) → (nVS S nv).2 k = S.2 k := fun k r => if_neg (by omega)
  have hGv : ∀ v, v < nv → nVG G nv g v = G v := fun v hv => nVG_n (by omega)
  have hGt : ∀ t, nVG G nv g (20 + t) = G (20 + t) := fun t => nVG_n (by omega)
  have hTb : TbM M' = TbM M := TbM.fr (mn 0 (by decide) (by decide))
  have hcg : ∀ v, v < nv → VV (nVG G nv g) (TbM M) v = VV G (TbM M) v := fun v hv => VV_cg hG hGv (fun t ht => rfl) (v + 1) v (Nat.lt_succ_self v) hv (v + 1) (Nat.lt_succ_self v)
  have hO : OKG (nVG G nv g) nt (nv + 1) := by
    refine ⟨⟨⟨hb.1, by omega⟩, fun v hv => ?_⟩, fun v hv => ?_, fun v hv => ?_⟩
    · by_cases hvn : v = nv
      · subst hvn; exact hW
      · exact WV_cg (hG.2 v (by omega)) (hGv v (by omega)) (Nat.le_refl _)
    · by_cases hvn : v = nv
      · subst hvn; exact hA
      · have hv2 : v < nv := by omega
        refine GA_cg (hA0 v hv2) (hGv v hv2) (fun h6 => ?_) (fun h6 => ?_) (fun h6 => hGt _)
        · have := (hG.L' hv2 h6).2
          exact hGv _ (by omega)
        · have := (hG.R' hv2 h6).2
          exact hGv _ (by omega)
    · by_cases hvn : v = nv
      · subst hvn; rw [nVG_s]; exact hS
      · rw [hGv v (by omega)]; exact hS0 v (by omega)
  have hF : ∀ t, t < nt → FT (nVG G nv g) t (TbM M t) := fun t ht => FT_cg (hB t ht).2.2 (hGt t)
  obtain ⟨S', e1, f1, f2, f3, f4, f5⟩ := keepView_n (S := nVS S nv) (Tb := TbM M) hO hF (fun t ht => Rw.fr (hB t ht).2.1 (s1 _ (by omega)) (s2 _ (by omega))) (fun u hu => by rw [hcg u hu]; exact (hV u hu).fr (s1 _ (by omega)) (s2 _ (by omega))) ((s1 43 (by omega)).trans a4) ((s1 55 (by omega)).trans a2)
  rw [nVG_s, h0] at e1
  have n1 : ∀ k, k ≠ 43 → k ≠ 55 → (k < 22 + 2 * nv ∨ 24 + 2 * nv ≤ k) → S'.1 k = S.1 k := fun k p q r => (f4 k (by omega) p q).trans (s1 k r)
  have n2 : ∀ k, (k < 22 + 2 * nv ∨ 24 + 2 * nv ≤ k) → S'.2 k = S.2 k := fun k r => (f5 k (by omega)).trans (s2 k r)
  refine ⟨S', e1, RQ.of ⟨?_, f3, ?_, f2, ?_⟩ ⟨hO, (m6 0 (by decide)).trans g2, m61, fun v hv => ?_, fun t ht => ?_⟩ ⟨fun t ht => ?_, fun t p q => ?_, fun v hv => ?_⟩ ?_ ⟨nu, u1, ?_, (m6 6 (by decide)).trans u3, fun j hj t ht => ?_⟩⟩
  · rw [n1 56 (by decide) (by decide) (by omega)]; exact a1
  · rw [n1 42 (by decide) (by decide) (by omega)]; exact a3
  · rw [n1 44 (by decide) (by decide) (by omega)]
    rcases a5 with z | ⟨u, p, q⟩
    · exact Or.inl z
    · exact Or.inr ⟨u, by omega, q⟩
  · by_cases hvn : v = nv
    · subst hvn
      exact ⟨hKW M' m1n, hsm, by rw [nVG_s]; exact h0, by rw [nVG_s]; exact hk⟩
    · obtain ⟨b1, b2, b3, b4⟩ := gv v (by omega)
      have b1 := b1.fr (M' := M') (m1 v hvn)
      refine ⟨?_, ?_, by rw [hGv v (by omega)]; exact b3, by rw [hGv v (by omega)]; exact b4⟩
      · unfold KW at b1 ⊢
        rw [hGv v (by omega)]
        exact b1
      · unfold SmV at b2 ⊢
        rw [hGv v (by omega)]
        exact b2
  · rw [hGt t, mn 0 (by decide) (by decide)]
    exact gt t ht
  · obtain ⟨b1, b2, b3⟩ := hB t ht
    rw [hTb, mn 0 (by decide) (by decide)]
    exact ⟨b1, b2.fr (n1 _ (by omega) (by omega) (by omega)) (n2 _ (by omega)), hF t ht⟩
  · rw [mn 0 (by decide) (by decide)]
    exact hz t p q
  · rw [hTb]
    by_cases hvn : v = nv
    · subst hvn; exact f1
    · rw [hcg v (by omega)]
      exact (hV v (by omega)).fr (n1 _ (by omega) (by omega) (by omega)) (n2 _ (by omega))
  · rcases hD with ⟨q1, q2⟩ | ⟨u, q1, q2, q3, q4, q5, q6⟩
    · exact Or.inl ⟨(n1 44 (by decide) (by decide) (by omega)).trans q1, (m6 2 (by decide)).trans q2⟩
    · exact Or.inr ⟨u, by omega, (n1 44 (by decide) (by decide) (by omega)).trans q2, (m6 2 (by decide)).trans q3, by rw [m6 3 (by decide)]; exact q4, by rw [m6 3 (by decide)]; exact q5.fr (n1 0 (by decide) (by decide) (by omega)) (n2 0 (by omega)), by
        rw [m6 3 (by decide), hGv u q1]
        exact q6⟩
  · exact (n1 45 (by decide) (by decide) (by omega)).trans u2
  · obtain ⟨e1, e2, e3⟩ := u4 j hj t ht
    rw [mn 5 (by decide) (by decide)]
    exact ⟨e1, fun htn => ⟨(e2 htn).1.fr (n1 _ (by omega) (by omega) (by omega)) (n2 _ (by omega)), FT_cg (e2 htn).2 (hGt t)⟩, e3⟩
/-! of -/
theorem kof_o {S : St} {G : Gt} {nt nv : Nat} {M : Lt} {x : Int32} (h : RQ (S, G, nt, nv) M) (hx : x < 0 ∨ nI nt ≤ x) : k_of x (S, G, nt, nv) = some (-7100, (S, G, nt, nv)) := by
  unfold k_of d10_of
  dsimp only
  rw [gp_i (show SX S nt nv from h.1), tableAt_o h.s43.2.2.1 hx, cb_s, oc_o]
  rfl
theorem kof_x {S : St} {G : Gt} {nt t : Nat} {M : Lt} (h : RQ (S, G, nt, 10) M) (ht : t < nt) : k_of (nI t) (S, G, nt, 10) = some (-7300, (S, G, nt, 10)) := by
  unfold k_of d10_of
  dsimp only
  rw [gp_i (show SX S nt 10 from h.1), h.ta ht, cb_s, oc_s, gd_t ht, h.s43.1, if_neg h10f.1]
  rfl
theorem sgl_3 : ∀ t : Fin 3, (1 : Int32) <<< (nI t.1 &&& 31) = nI (2 ^ t.1) := by decide +kernel
theorem kof_i {S : St} {G : Gt} {nt nv t c k : Nat} {M : Lt} (h : RQ (S, G, nt, nv) M) (ht : t < nt) (hnv : nv < 10) (hc8 : c < 8) (hk8 : k < 8) (hc : G (20 + t) 0 = nI c) (hk : G (20 + t) 1 = nI k) : ∃ S' G', k_of (nI t) (S, G, nt, nv) = some (nI nv, (S', G', nt, nv + 1)) ∧ RQ (S', G', nt, nv + 1) (w3 (w3 M 1 nv (nI (wv 0 t 0 0 0 0 c k (2 ^ t)))) 6 1 (nI (nv + 1))) := by
  obtain ⟨hb3, hb10⟩ := h.b
  have ht3 : t < 3 := by omega
  have hks : sub (G (20 + t) 1) (G (20 + t) 0) := (h.2.1.2.2.2.2 t ht).2.2.1
  have hp2 : 2 ^ t < 8 := by
    have : t = 0 ∨ t = 1 ∨ t = 2 := by omega
    rcases this with rfl | rfl | rfl <;> decide
  have hgs : nVG G nv (gL [nI nv, (G (20 + t) 0), (G (20 + t) 1), (1 <<< (nI t &&& 31)), -1, -1, 6, 0, 0, 0, 0, nI t]) nv = gL [nI nv, (G (20 + t) 0), (G (20 + t) 1), (1 <<< (nI t &&& 31)), -1, -1, 6, 0, 0, 0, 0, nI t] := nVG_s
  have hvt : vt (nVG G nv (gL [nI nv, (G (20 + t) 0), (G (20 + t) 1), (1 <<< (nI t &&& 31)), -1, -1, 6, 0, 0, 0, 0, nI t])) nv = t := by
    unfold vt
    rw [hgs]
    exact nI_clamp (by omega)
  obtain ⟨f1, f2, f3, f4, f5, -⟩ := wv_f (k := 0) (l := t) (r := 0) (c := 0) (v := 0) (s := 0) (a := c) (b := k) (d := 2 ^ t) (by decide) (by omega) (by decide) (by decide) (by decide) (by decide) hc8 hk8 hp2
  obtain ⟨S', k1, k2⟩ := h.nv (g := gL [nI nv, (G (20 + t) 0), (G (20 + t) 1), (1 <<< (nI t &&& 31)), -1, -1, 6, 0, 0, 0, 0, nI t]) (W := nI (wv 0 t 0 0 0 0 c k (2 ^ t))) hnv
    (by
      unfold WV
      rw [hgs]
      exact Or.inr (Or.inr (Or.inr ⟨rfl, rfl, rfl, t, ht, rfl⟩)))
    (by
      unfold GA
      rw [hvt, hgs, nVG_n (show 20 + t ≠ nv by omega)]
      exact ⟨fun _ => ⟨rfl, rfl, rfl⟩, fun z => absurd (show (6 : Int32) = 4 from z) (by decide), fun z => absurd (show (6 : Int32) = 1 from z) (by decide), fun z => absurd (show (6 : Int32) = 2 from z) (by decide)⟩)
    hks rfl
    (fun c hc hbt => by
      have z : bt (1 <<< (nI t &&& 31)) c = true := hbt
      rw [bt_one (by omega) hc] at z
      have := of_decide_eq_true z
      omega)
    (fun M' hM => by
      unfold KW
      rw [hgs, hM, f1, f2, f3, f4, f5]
      exact ⟨hc.symm, hk.symm, (sgl_3 ⟨t, ht3⟩).symm, Or.inl ⟨rfl, rfl, rfl⟩⟩)
    (by
      unfold SmV
      rw [hgs]
      exact ⟨⟨c, hc8, hc⟩, ⟨k, hk8, hk⟩, fun z => z.elim (fun z => absurd (show (6 : Int32) = 4 from z) (by decide)) (fun z => absurd (show (6 : Int32) = 1 from z) (by decide))⟩)
  refine ⟨S', _, ?_, k2⟩
  unfold k_of d10_of
  dsimp only
  rw [gp_i (show SX S nt nv from h.1), h.ta ht, cb_s, oc_s, gd_t ht, h.s43.1, if_pos (h10n hnv).1, gd_t hnv, k1, cb2_s]
  rfl
