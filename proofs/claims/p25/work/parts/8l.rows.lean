/-! ===== rows of tables ===== -/
theorem kins_o {S : St} {G : Gt} {nt nv : Nat} {M : Lt} {x y : Int32} (h : RQ (S, G, nt, nv) M) (hx : x < 0 ∨ nI nt ≤ x) : k_insert x y (S, G, nt, nv) = some (-7100, (S, G, nt, nv)) := by
  unfold k_insert d10_insert
  dsimp only
  rw [tableAt_o h.s43.2.2.1 hx, cb_s, oc_o]
  rfl
theorem kdel_o {S : St} {G : Gt} {nt nv : Nat} {M : Lt} {x y : Int32} (h : RQ (S, G, nt, nv) M) (hx : x < 0 ∨ nI nt ≤ x) : k_delete x y (S, G, nt, nv) = some (-7100, (S, G, nt, nv)) := by
  unfold k_delete d10_delete
  dsimp only
  rw [tableAt_o h.s43.2.2.1 hx, cb_s, oc_o]
  rfl
theorem RQ.ta {S : St} {G : Gt} {nt nv t : Nat} {M : Lt} (h : RQ (S, G, nt, nv) M) (ht : t < nt) : d10_tableAt (nI t) S = some (some t) := tableAt_i h.s43.2.2.1 h.s43.2.2.2 h.b.1 ht
theorem kins_r {S : St} {G : Gt} {nt nv t : Nat} {M : Lt} {y : Int32} (h : RQ (S, G, nt, nv) M) (ht : t < nt) (hy : d1_isRow y (G (20 + t) 0) = some 0) : k_insert (nI t) y (S, G, nt, nv) = some (-7200, (S, G, nt, nv)) := by
  unfold k_insert d10_insert
  dsimp only
  rw [h.ta ht, cb_s, oc_s, gd_t ht, hy, cb_s, if_pos z00]
  rfl
theorem RQ.up {S S1 : St} {G : Gt} {nt nv t : Nat} {M : Lt} {y : Int32} (h : RQ (S, G, nt, nv) M) (ht : t < nt) (hF : Fr (1 + 7 * t) S S1) (hy : okS y) (hR : Rw S1 (1 + 7 * t) (ms y)) (hFT : FT G t (ms y)) : ∃ S', d10_showViews G nt nv S1 = some S' ∧ FrS S1 S' ∧ RQ (S', G, nt, nv) (w3 M 0 (3 + t) y) := by
  obtain ⟨hb3, hb10⟩ := h.b
  have hX : SX S nt nv := h.1
  have hD : RLd G nv S M := h.2.2.2.1
  have hU : RLu G nt S M := h.2.2.2.2
  refine RQ.tab (hX.fr fun k hk => hF.1 k (by omega)) (h.2.1.mv (fun q hq => w3_o (by omega)) (w3_n (by decide)) (by rw [w3_n (by decide)]) (by rw [w3_n (by decide)])) (fun q hq => ?_) (fun q a b => ?_) ((hD.fm (by rw [w3_n (by decide)]) (by rw [w3_n (by decide)])).fs (hF.1 44 (by omega)) (hF.1 0 (by omega)) (hF.2 0 (by omega))) ?_
  · by_cases e : q = t
    · subst e
      have e1 : TbM (w3 M 0 (3 + q) y) q = ms y := by unfold TbM; rw [w3_e]
      rw [e1, w3_e]
      exact ⟨hy, hR, hFT⟩
    · have e1 : TbM (w3 M 0 (3 + t) y) q = TbM M q := by unfold TbM; rw [w3_o (by omega)]
      obtain ⟨a, b, c⟩ := h.2.2.1.1 q hq
      rw [e1, w3_o (by omega)]
      exact ⟨a, Rw.fr b (hF.1 _ (by omega)) (hF.2 _ (by omega)), c⟩
  · rw [w3_o (by omega)]
    exact h.2.2.1.2.1 q a b
  · obtain ⟨nu, c1, c2, c3, c4⟩ := hU.fs (S' := S1) (hF.1 45 (by omega)) (fun q hq j hj => ⟨hF.1 _ (by omega), hF.2 _ (by omega)⟩)
    exact ⟨nu, c1, c2, by rw [w3_n (by decide)]; exact c3, fun j hj q hq => by rw [w3_n (by decide)]; exact c4 j hj q hq⟩
theorem kins_x {S : St} {G : Gt} {nt nv t r : Nat} {M : Lt} (h : RQ (S, G, nt, nv) M) (ht : t < nt) (hr : r < 27) (hv : pt (G (20 + t) 0) (nm r) = nm r) (hx : cnt (M 0 (3 + t)) = 12 ∨ ∃ q, q ∈ TbM M t ∧ pt (G (20 + t) 1) q = pt (G (20 + t) 1) (nm r)) : k_insert (nI t) (nI (nm r)) (S, G, nt, nv) = some (-7300, (S, G, nt, nv)) := by
  have h1 := nm_lt hr
  obtain ⟨b1, b2, b3⟩ := h.2.2.1.1 t ht
  have b2' : Rw S (1 + 7 * t) (TbM M t) := b2
  have hl : (TbM M t).length ≤ 12 := b3.1
  have hc : (TbM M t).length = cnt (M 0 (3 + t)) := ms_len _
  unfold k_insert d10_insert
  dsimp only
  rw [h.ta ht, cb_s, oc_s, gd_t ht, cRow (nm_ok hr), cb_s, if_pos hv, if_neg z10, size_n b2', cb_s]
  by_cases h12 : cnt (M 0 (3 + t)) = 12
  · rw [if_pos (show (12 : Int32) ≤ nI (TbM M t).length by rw [hc, h12]; decide)]
    rfl
  · rw [if_neg (show ¬ (12 : Int32) ≤ nI (TbM M t).length from nI_ge (b := 12) (by omega) (by decide)), firstLike_n b2' (by omega), cb_s]
    obtain ⟨q, hq, he⟩ := hx.resolve_left h12
    cases hf : fnd (G (20 + t) 1) (pt (G (20 + t) 1) (nm r)) (TbM M t) with
    | none => exact absurd he (fnd_none hf hq)
    | some q2 =>
      rw [if_neg (show ¬ oN (some q2) = -1 from nm1 (Nat.lt_of_lt_of_le (b3.ok q2 (fnd_mem hf).1) (by decide)))]
      rfl
theorem kins_i {S : St} {G : Gt} {nt nv t r : Nat} {M : Lt} (h : RQ (S, G, nt, nv) M) (ht : t < nt) (hr : r < 27) (hv : pt (G (20 + t) 0) (nm r) = nm r) (h12 : cnt (M 0 (3 + t)) ≠ 12) (hx : ¬ ∃ q, q ∈ TbM M t ∧ pt (G (20 + t) 1) q = pt (G (20 + t) 1) (nm r)) : ∃ S1, k_insert (nI t) (nI (nm r)) (S, G, nt, nv) = some (nI (cnt (M 0 (3 + t) ||| ((1 : Int32) <<< (nI r &&& 31)))), (S1, G, nt, nv)) ∧ RQ (S1, G, nt, nv) (w3 M 0 (3 + t) (M 0 (3 + t) ||| ((1 : Int32) <<< (nI r &&& 31)))) := by
  have h1 := nm_lt hr
  have hb3 := h.b.1
  obtain ⟨b1, b2, b3⟩ := h.2.2.1.1 t ht
  have b1' : okS (M 0 (3 + t)) := b1
  have b2' : Rw S (1 + 7 * t) (TbM M t) := b2
  have b3' : FT G t (TbM M t) := b3
  have hl : (TbM M t).length ≤ 12 := b3.1
  have hc : (TbM M t).length = cnt (M 0 (3 + t)) := ms_len _
  have hf : fnd (G (20 + t) 1) (pt (G (20 + t) 1) (nm r)) (TbM M t) = none := by
    cases hf : fnd (G (20 + t) 1) (pt (G (20 + t) 1) (nm r)) (TbM M t) with
    | none => rfl
    | some q2 => exact absurd ⟨q2, fnd_mem hf⟩ hx
  obtain ⟨S1, p1, p2, p3⟩ := put_n b2' (nm_ok hr) (Or.inr (by rw [dcap_t (by omega)]; omega))
  have hFi := FT_ins b3' (by omega) hv hf
  have e : insR (nm r) (TbM M t) = ms (M 0 (3 + t) ||| ((1 : Int32) <<< (nI r &&& 31))) := (ms_or hr).symm
  rw [e] at p2 hFi
  obtain ⟨S', v1, v2, v3⟩ := h.up ht p3 (okS_or b1' hr) p2 hFi
  refine ⟨S', ?_, v3⟩
  unfold k_insert d10_insert
  dsimp only
  rw [h.ta ht, cb_s, oc_s, gd_t ht, cRow (nm_ok hr), cb_s, if_pos hv, if_neg z10, size_n b2', cb_s, if_neg (show ¬ (12 : Int32) ≤ nI (TbM M t).length from nI_ge (b := 12) (by omega) (by decide)), firstLike_n b2' (by omega), cb_s, hf, if_pos (show oN none = -1 from rfl), p1, cb_s, v1, cb_s, size_n (Rw_frS p2 v2 (fun v hv => by omega)), ms_len, cb_s]
  rfl
theorem kdel_x {S : St} {G : Gt} {nt nv t : Nat} {M : Lt} {y : Int32} (h : RQ (S, G, nt, nv) M) (ht : t < nt) (hy : d4_has (1 + 7 * t) y S = some 0) : k_delete (nI t) y (S, G, nt, nv) = some (-7400, (S, G, nt, nv)) := by
  unfold k_delete d10_delete
  dsimp only
  rw [h.ta ht, cb_s, oc_s, gd_t ht, hy, cb_s, if_pos z00]
  rfl
theorem kdel_i {S : St} {G : Gt} {nt nv t r : Nat} {M : Lt} (h : RQ (S, G, nt, nv) M) (ht : t < nt) (hr : r < 27) (hb : bt (M 0 (3 + t)) r = true) : ∃ S1, k_delete (nI t) (nI (nm r)) (S, G, nt, nv) = some (nI (cnt (M 0 (3 + t) &&& (((1 : Int32) <<< (nI r &&& 31)) ^^^ (-1)))), (S1, G, nt, nv)) ∧ RQ (S1, G, nt, nv) (w3 M 0 (3 + t) (M 0 (3 + t) &&& (((1 : Int32) <<< (nI r &&& 31)) ^^^ (-1)))) := by
  have hb3 := h.b.1
  obtain ⟨b1, b2, b3⟩ := h.2.2.1.1 t ht
  have b1' : okS (M 0 (3 + t)) := b1
  have b2' : Rw S (1 + 7 * t) (ms (M 0 (3 + t))) := b2
  have b3' : FT G t (ms (M 0 (3 + t))) := b3
  obtain ⟨S1, p1, p2, p3⟩ := remove_n b2' (nm_ok hr)
  have hFi := FT_rem (r := nm r) b3'
  rw [← ms_clr hr] at p2 hFi
  obtain ⟨S', v1, v2, v3⟩ := h.up ht p3 (okS_cl b1') p2 hFi
  refine ⟨S', ?_, v3⟩
  unfold k_delete d10_delete
  dsimp only
  rw [h.ta ht, cb_s, oc_s, gd_t ht, shas_t b2' hr hb, cb_s, if_neg z10, p1, cb_s, v1, cb_s, size_n (Rw_frS p2 v2 (fun v hv => by omega)), ms_len, cb_s]
  rfl
theorem ptI_n {S : St} {G : Gt} {nt nv t r : Nat} {M : Lt} {x26 : Int32} (h : RQ (S, G, nt, nv) M) (ht : t < nt) (hr : r < 27) (hx : x26 = 0 ↔ ¬ pt (G (20 + t) 0) (nm r) = nm r) : OKq (ptI (nI t) (nI r) x26 ((S, G, nt, nv), M, 0)) := by
  have hb3 := h.b.1
  have h1 := nm_lt hr
  obtain ⟨d1, d2, d3, ⟨c, hc0, hc8, hcs⟩, kk, hk8, hks⟩ := h.2.1.2.2.2.2 t ht
  have d2' : (M 0 t >>> ((3 : Int32) &&& 31)) = G (20 + t) 1 := d2
  have hcs' : G (20 + t) 0 = nI c := hcs
  have ho3 : o3 (G (20 + t) 0) := ⟨c, hc8, hcs⟩
  have b1' : okS (M 0 (3 + t)) := (h.2.2.1.1 t ht).1
  have hb12 : cnt (M 0 (3 + t)) ≤ 12 := by
    have : (TbM M t).length ≤ 12 := (h.2.2.1.1 t ht).2.2.1
    rwa [show (TbM M t).length = cnt (M 0 (3 + t)) from ms_len _] at this
  unfold ptI
  rw [kcall (by omega) (kins_r h ht cRow_m), if_pos rfl, kcall (by omega) (kins_r h ht cRow_b), if_pos rfl, kcall (by omega) (kins_r h ht (cRow_k ho3)), if_pos rfl]
  by_cases hv : pt (G (20 + t) 0) (nm r) = nm r
  · rw [if_neg (fun z => hx.mp z hv), show ((3 : Int32) + nI t) = nI (3 + t) from nI_add 3 t, rd_n (by omega) (by decide), rd_n (by omega) (by decide), hp1, d2']
    obtain ⟨z, ez, hz⟩ := like_n (x := (1 : Int32) <<< (nI r &&& 31)) (y := M 0 (3 + t)) (s := G (20 + t) 1) true
    have ez' : l_like ((1 : Int32) <<< (nI r &&& 31)) (M 0 (3 + t)) (G (20 + t) 1) 1 = some z := ez
    have hzz : z = 0 ↔ ¬ ∃ q, q ∈ TbM M t ∧ pt (G (20 + t) 1) q = pt (G (20 + t) 1) (nm r) := by
      constructor
      · rintro rfl ⟨q, hq, he⟩
        obtain ⟨i, hi, hb, rfl⟩ := mem_ms.mp hq
        have := (hz r (by omega)).mpr ⟨hr, by rw [bt_one (by omega) (by omega), decide_eq_true rfl], by
          constructor
          · intro _; rfl
          · intro _; exact ⟨i, hi, hb, (p3_pt hi hr).mpr he⟩⟩
        rw [bt_0 (by omega)] at this
        cases this
      · intro hn
        refine bt_ext fun i hi => ?_
        rw [bt_0 hi]
        cases hb : bt z i
        · rfl
        · obtain ⟨q1, q2, q3⟩ := (hz i hi).mp hb
          rw [bt_one (by omega) hi] at q2
          have e := of_decide_eq_true q2
          subst e
          obtain ⟨j, hj, hbj, hp⟩ := q3.mpr rfl
          exact absurd ⟨nm j, (nm_ms hj).mpr hbj, (p3_pt hj hr).mp hp⟩ hn
    have hbad : ∀ (hxx : cnt (M 0 (3 + t)) = 12 ∨ ∃ q, q ∈ TbM M t ∧ pt (G (20 + t) 1) q = pt (G (20 + t) 1) (nm r)), OKq (gd ((((S, G, nt, nv), M, 0 + 1 + 1 + 1) : Tt).2.2 ≤ 16) <| cb (l_number (nI r)) fun (z90 : Int32) => gd ((((S, G, nt, nv), M, 0 + 1 + 1 + 1) : Tt).2.2 + 1 ≤ 16) <| cb2 (k_insert (nI t) z90 (((S, G, nt, nv), M, 0 + 1 + 1 + 1) : Tt).1) fun (z92 : Int32) (C94 : Cs) => lt (tc ((S, G, nt, nv), M, 0 + 1 + 1 + 1) C94) fun (S95 : Tt) => if z92 = (-7300) then (gd (S95.2.2 ≤ 16) <| some ((1 : Int32), S95)) else (gd (S95.2.2 ≤ 16) <| some ((0 : Int32), S95))) := by
      intro hxx
      rw [kown (by omega) (number_n hr), kcall (by omega) (kins_x h ht hr hv hxx), if_pos rfl, kend (by omega)]
      exact ⟨_, _, _, rfl, h⟩
    rw [kown (by omega) ez', jn_d]
    by_cases hz0 : z = 0
    · rw [if_pos hz0, rd_n (by omega) (by decide), kown (by omega) (count_n b1')]
      by_cases h12 : cnt (M 0 (3 + t)) = 12
      · rw [if_pos (show nI (cnt (M 0 (3 + t))) = (12 : Int32) by rw [h12]; rfl)]
        exact hbad (Or.inl h12)
      · obtain ⟨S1, e1, hR1⟩ := kins_i h ht hr hv h12 (hzz.mp hz0)
        rw [if_neg (show ¬ nI (cnt (M 0 (3 + t))) = (12 : Int32) from fun z => h12 ((nI_eq (b := 12) (by omega) (by decide)).mp z)), rd_n (by omega) (by decide), rd_n (by omega) (by decide), lt_d, htw, kown (by omega) (number_n hr), kcall (by omega) e1, rd_n (by omega) (by decide), kown (by omega) (cnt_e (okS_or b1' hr)), if_pos rfl, kend (by omega)]
        exact ⟨_, _, _, rfl, hR1⟩
    · rw [if_neg hz0]
      exact hbad (Or.inr (Classical.byContradiction fun hn => hz0 (hzz.mpr hn)))
  · rw [if_pos (hx.mpr hv), kown (by omega) (number_n hr), kcall (by omega) (kins_r h ht (by rw [cRow (nm_ok hr), if_neg hv])), if_pos rfl, kend (by omega)]
    exact ⟨_, _, _, rfl, h⟩
theorem ptD_n {S : St} {G : Gt} {nt nv t r : Nat} {M : Lt} (h : RQ (S, G, nt, nv) M) (ht : t < nt) (hr : r < 27) : OKq (ptD (nI t) (nI r) ((S, G, nt, nv), M, 0)) := by
  have hb3 := h.b.1
  have b1' : okS (M 0 (3 + t)) := (h.2.2.1.1 t ht).1
  have b2' : Rw S (1 + 7 * t) (ms (M 0 (3 + t))) := (h.2.2.1.1 t ht).2.1
  unfold ptD
  rw [show ((3 : Int32) + nI t) = nI (3 + t) from nI_add 3 t, rd_n (by omega) (by decide)]
  show OKq (if (((M 0 (3 + t)) >>> (nI r &&& 31)) &&& 1) = 0 then _ else _)
  cases hb : bt (M 0 (3 + t)) r
  · rw [if_pos (by rw [bt_f, hb]), kown (by omega) (number_n hr), kcall (by omega) (kdel_x h ht (shas_f b2' hr hb)), if_pos rfl, kcall (by omega) (kdel_x h ht (shas_no b2' neg_no)), if_pos rfl, kend (by omega)]
    exact ⟨_, _, _, rfl, h⟩
  · obtain ⟨S1, e1, hR1⟩ := kdel_i h ht hr hb
    rw [if_neg (by rw [bt_f, hb]; decide), rd_n (by omega) (by decide), rd_n (by omega) (by decide), lt_d, htw, kown (by omega) (number_n hr), kcall (by omega) e1, rd_n (by omega) (by decide), kown (by omega) (cnt_e (okS_cl b1')), if_pos rfl, kend (by omega)]
    exact ⟨_, _, _, rfl, hR1⟩
theorem tables_n {S : St} {G : Gt} {nt nv : Nat} {M : Lt} {x2 x3 x4 : Int32} (h : RQ (S, G, nt, nv) M) : OKq (p_tables x2 x3 x4 ((S, G, nt, nv), M, 0)) := by
  obtain ⟨hb3, hb10⟩ := h.b
  have h60 : M 6 0 = nI nt := h.2.1.2.1
  have r0 : ∀ (f : Nat → Option (Int32 × Tt)), rd 0 7 f = f 0 := fun f => rd_n (j := 0) (by decide) (by decide)
  rw [ptb_d]
  by_cases hx0 : x2 = 0
  · rw [if_pos hx0]
    obtain ⟨a, ha, ea⟩ := low_n x3 (n := 7) (by decide) (by decide)
    obtain ⟨b, hb, eb⟩ := low_n x4 (n := 3) (by decide) (by decide)
    obtain ⟨c, hc, ec⟩ := low_n (x4 >>> ((6 : Int32) &&& 31)) (n := 7) (by decide) (by decide)
    have ea' : l_low x3 7 = some (nI a) := ea
    have eb' : l_low x4 3 = some (nI b) := eb
    have ec' : l_low (x4 >>> ((6 : Int32) &&& 31)) 7 = some (nI c) := ec
    have e1 : ((1 : Int32) + nI a) = nI (1 + a) := nI_add 1 a
    have e2 : ((1 : Int32) + nI c) = nI (1 + c) := nI_add 1 c
    have hsh : ((1 : Int32) <<< (nI b &&& 31)) = nI (2 ^ b) := shl_n ⟨b, by omega⟩
    rw [kown (by omega) ea', kown (by omega) eb', lt_d, jn_d, e1]
    by_cases h48 : (x4 &&& 48) = 0
    · rw [if_pos h48, kown (by omega) ec', lt_d, e2, nI_and]
      have hle : (1 + a) &&& (1 + c) ≤ 1 + a := Nat.and_le_left
      refine pt0_n h ha (by omega) ?_
      rw [Nat.and_comm, ← nI_and]
      exact and_out
    · rw [if_neg h48, hsh, nI_and]
      have hle : 2 ^ b &&& (1 + a) ≤ 1 + a := Nat.and_le_right
      refine pt0_n h ha (by omega) ?_
      rw [← nI_and]
      exact and_out
  · rw [if_neg hx0, r0]
    obtain ⟨t, ht, et⟩ := low_n x3 (n := nt + 1) (by omega) (by omega)
    have et' : l_low x3 (M 6 0 + 1) = some (nI t) := by rw [h60, nI_1]; exact et
    rw [kown (by omega) et', r0]
    show OKq (if nI t = M 6 0 then _ else _)
    rw [h60]
    by_cases htn : t = nt
    · subst htn
      have ho : nI t < 0 ∨ nI t ≤ nI t := Or.inr (Int32.le_refl _)
      rw [if_pos rfl, kcall (by omega) (kins_o h ho), if_pos rfl, kcall (by omega) (kdel_o h ho), if_pos rfl, kcall (by omega) (kins_o h (Or.inl neg1)), if_pos rfl, kend (by omega)]
      exact ⟨_, _, _, rfl, h⟩
    · have htn2 : t < nt := by omega
      obtain ⟨r0', hr0, er⟩ := low_n x4 (n := 27) (by decide) (by decide)
      have er' : l_low x4 27 = some (nI r0') := er
      have d1 : (M 0 t &&& 7) = G (20 + t) 0 := (h.2.1.2.2.2.2 t htn2).1
      rw [if_neg (fun z => htn ((nI_eq (by omega) (by omega)).mp z)), kown (by omega) er', jn_d]
      have hgo : ∀ x18 : Int32, OKq (gd ((((S, G, nt, nv), M, 0) : Tt).2.2 ≤ 16) <| cb (l_part (nI r0') x18) fun (z20 : Int32) => rd (nI t) 6 fun (j22 : Nat) => gd ((((S, G, nt, nv), M, 0) : Tt).2.2 ≤ 16) <| cb (l_part z20 (((((S, G, nt, nv), M, 0) : Tt).2.1 0 j22) &&& 7)) fun (z24 : Int32) => jn (fun (x26 : Int32) => if x2 = 1 then ptI (nI t) z20 x26 ((S, G, nt, nv), M, 0) else ptD (nI t) z20 ((S, G, nt, nv), M, 0)) fun k27 => if z24 = z20 then (k27 1) else (k27 0)) := by
        intro x18
        have hp := p3_lt (s := x18) hr0
        have hq := p3_lt (s := G (20 + t) 0) hp
        have ep : l_part (nI (p3 x18 r0')) (M 0 t &&& 7) = some (nI (p3 (G (20 + t) 0) (p3 x18 r0'))) := by
          rw [d1]
          exact part3_n hp
        rw [kown (by omega) (part3_n hr0), rd_n (by omega) (by decide), kown (by omega) ep, jn_d]
        by_cases he : p3 (G (20 + t) 0) (p3 x18 r0') = p3 x18 r0'
        · rw [if_pos (by rw [he])]
          dsimp only
          by_cases hx1 : x2 = 1
          · rw [if_pos hx1]
            exact ptI_n h htn2 hp ⟨fun z => absurd z z10, fun z => absurd ((p3_val hp).mp he) z⟩
          · rw [if_neg hx1]
            exact ptD_n h htn2 hp
        · rw [if_neg (fun z => he ((nI_eq (by omega) (by omega)).mp z))]
          dsimp only
          by_cases hx1 : x2 = 1
          · rw [if_pos hx1]
            exact ptI_n h htn2 hp ⟨fun _ z => he ((p3_val hp).mpr z), fun _ => rfl⟩
          · rw [if_neg hx1]
            exact ptD_n h htn2 hp
      by_cases h768 : (x3 &&& 768) = 0
      · rw [if_pos h768]
        exact hgo 7
      · rw [if_neg h768, rd_n (by omega) (by decide)]
        exact hgo _
