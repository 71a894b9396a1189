/-! ===== putting back: what is wanted below, by membership; the law's step ===== -/
theorem fold_if {f : List Nat → Nat → List Nat} {C : Nat → Prop} (hf : ∀ acc r, (C r ∧ f acc r = insR r acc) ∨ (¬ C r ∧ f acc r = acc)) : ∀ {L acc : List Nat} {x : Nat}, x ∈ L.foldl f acc ↔ x ∈ acc ∨ (x ∈ L ∧ C x) := by
  intro L
  induction L with
  | nil =>
    intro acc x
    exact ⟨fun h => Or.inl h, fun h => h.elim id (fun z => by cases z.1)⟩
  | cons a t ih =>
    intro acc x
    rw [List.foldl_cons, ih, List.mem_cons]
    rcases hf acc a with ⟨hc, he⟩ | ⟨hc, he⟩
    · rw [he, insR_mem]
      constructor
      · rintro ((rfl | h) | ⟨h1, h2⟩)
        · exact Or.inr ⟨Or.inl rfl, hc⟩
        · exact Or.inl h
        · exact Or.inr ⟨Or.inr h1, h2⟩
      · rintro (h | ⟨rfl | h1, h2⟩)
        · exact Or.inl (Or.inr h)
        · exact Or.inl (Or.inl rfl)
        · exact Or.inr ⟨h1, h2⟩
    · rw [he]
      constructor
      · rintro (h | ⟨h1, h2⟩)
        · exact Or.inl h
        · exact Or.inr ⟨Or.inr h1, h2⟩
      · rintro (h | ⟨rfl | h1, h2⟩)
        · exact Or.inl h
        · exact absurd h2 hc
        · exact Or.inr ⟨h1, h2⟩
theorem if_or {C : Prop} {d : Decidable C} {r : Nat} {acc : List Nat} : (C ∧ (if C then insR r acc else acc) = insR r acc) ∨ (¬ C ∧ (if C then insR r acc else acc) = acc) := by
  by_cases h : C
  · exact Or.inl ⟨h, if_pos h⟩
  · exact Or.inr ⟨h, if_neg h⟩
theorem paD_mem {G : Gt} {V l : List Nat} {v x : Nat} : x ∈ paD G V v l ↔ ∃ r, r ∈ l ∧ x = hid G V v r := ⟨fun h => fold_memP h, fun h => fold_memI (g := hid G V v) (Or.inr h)⟩
theorem wP_mem {s : Int32} {l : List Nat} {x : Nat} : x ∈ wP s l ↔ ∃ r, r ∈ l ∧ x = pt s r := ⟨fun h => fold_memP h, fun h => fold_memI (g := pt s) (Or.inr h)⟩
theorem paS_mem {G : Gt} {V l : List Nat} {v x : Nat} : x ∈ paS G V v l ↔ x ∈ l ∨ (x ∈ V ∧ selB G v x = false ∧ free (G v 2) l x = true) := fold_if (f := adS G v l) (C := fun r => selB G v r = false ∧ free (G v 2) l r = true) (fun acc r => if_or)
theorem paR_mem {G : Gt} {V l : List Nat} {v x : Nat} : x ∈ paR G V v l ↔ x ∈ wP (G (vr G v) 1) l ∨ (x ∈ V ∧ free (G (vr G v) 2) (wP (G (vr G v) 1) l) x = true) := fold_if (f := adF (G (vr G v) 2) (wP (G (vr G v) 1) l)) (C := fun r => free (G (vr G v) 2) (wP (G (vr G v) 1) l) r = true) (fun acc r => if_or)
theorem paL_mem {G : Gt} {V W l : List Nat} {v x : Nat} : x ∈ paL G V W v l ↔ x ∈ wP (G (vl G v) 1) l ∨ (x ∈ V ∧ free (G (vl G v) 2) (wP (G (vl G v) 1) l) x = true ∧ free (G v 10) W x = true) := fold_if (f := adL (G (vl G v) 2) (G v 10) (wP (G (vl G v) 1) l) W) (C := fun r => free (G (vl G v) 2) (wP (G (vl G v) 1) l) r = true ∧ free (G v 10) W r = true) (fun acc r => if_or)
/-- free, in bits -/
theorem free_3 {k x : Int32} {l : List Nat} (hx : Is x l) {i : Nat} (hi : i < 27) : free k l (nm i) = true ↔ ¬ ∃ r, r < 27 ∧ bt x r = true ∧ p3 k r = p3 k i := by
  rw [free_iff]
  constructor
  · rintro h ⟨r, h1, h2, h3⟩
    exact h _ ((hx.at h1).mp h2) ((p3_pt h1 hi).mp h3)
  · intro h q hq he
    obtain ⟨r, h1, h2, rfl⟩ := hx.of hq
    exact h ⟨r, h1, h2, (p3_pt h1 hi).mpr he⟩
theorem like_f {x y s : Int32} : ∃ z, l_like x y s 0 = some z ∧ ∀ i, i < 32 → (bt z i = true ↔ i < 27 ∧ bt x i = true ∧ ¬ ∃ r, r < 27 ∧ bt y r = true ∧ p3 s r = p3 s i) := by
  obtain ⟨z, h1, h2⟩ := like_n (x := x) (y := y) (s := s) false
  refine ⟨z, h1, fun i hi => ?_⟩
  rw [h2 i hi]
  constructor
  · rintro ⟨a, b, c⟩
    exact ⟨a, b, fun w => by cases c.mp w⟩
  · rintro ⟨a, b, c⟩
    exact ⟨a, b, ⟨fun w => absurd w c, fun w => by cases w⟩⟩
theorem Is_like {x y z s : Int32} {V l : List Nat} (hx : Is x V) (hy : Is y l) (hV : Srt V) (hz : ∀ i, i < 32 → (bt z i = true ↔ i < 27 ∧ bt x i = true ∧ ¬ ∃ r, r < 27 ∧ bt y r = true ∧ p3 s r = p3 s i)) : Is z (V.filter (fun a => free s l a)) := by
  refine Is_of (fun i hi => ?_) (pw_Srt ((Srt_pw hV).filter _)) fun a ha => ?_
  · rw [hz i hi, List.mem_filter]
    constructor
    · rintro ⟨a, b, c⟩
      exact ⟨a, (hx.at a).mp b, (free_3 hy a).mpr c⟩
    · rintro ⟨a, b, c⟩
      exact ⟨a, (hx.at a).mpr b, (free_3 hy a).mp c⟩
  · obtain ⟨i, h1, -, h3⟩ := hx.of (List.mem_filter.mp ha).1
    exact ⟨i, h1, h3⟩
theorem Is_or {x y : Int32} {l1 l2 l : List Nat} (hx : Is x l1) (hy : Is y l2) (hs : Srt l) (hm : ∀ a, a ∈ l ↔ a ∈ l1 ∨ a ∈ l2) : Is (x ||| y) l := by
  refine Is_of (fun i hi => ?_) hs fun a ha => ?_
  · rw [bt_or hi, Bool.or_eq_true]
    constructor
    · rintro (h | h)
      · have h27 : i < 27 := by
          rcases Nat.lt_or_ge i 27 with z | z
          · exact z
          · rw [hx.1 i z hi] at h; cases h
        exact ⟨h27, (hm _).mpr (Or.inl ((hx.at h27).mp h))⟩
      · have h27 : i < 27 := by
          rcases Nat.lt_or_ge i 27 with z | z
          · exact z
          · rw [hy.1 i z hi] at h; cases h
        exact ⟨h27, (hm _).mpr (Or.inr ((hy.at h27).mp h))⟩
    · rintro ⟨h27, h⟩
      rcases (hm _).mp h with h | h
      · exact Or.inl ((hx.at h27).mpr h)
      · exact Or.inr ((hy.at h27).mpr h)
  · rcases (hm a).mp ha with h | h
    · obtain ⟨i, h1, -, h3⟩ := hx.of h
      exact ⟨i, h1, h3⟩
    · obtain ⟨i, h1, -, h3⟩ := hy.of h
      exact ⟨i, h1, h3⟩
theorem Is_ms {x : Int32} (h : okS x) : Is x (ms x) := ⟨h, rfl⟩
theorem fold_Srt' {f : List Nat → Nat → List Nat} (hf : ∀ acc r, f acc r = acc ∨ f acc r = insR r acc) {L acc : List Nat} (h : Srt acc) : Srt (L.foldl f acc) := fold_Srt (fun acc r h => by
  rcases hf acc r with e | e
  · rw [e]; exact h
  · rw [e]; exact insR_srt h) h
theorem wP_srt {s : Int32} {l : List Nat} : Srt (wP s l) := fold_srtP
theorem nm_add {r c w : Nat} (hr : r < 27) (hc : c < 3) (hw : w < 3) (h0 : d3 r c = 0) : r + w * 3 ^ c < 27 ∧ nm (r + w * 3 ^ c) = sd (nm r) c w := by
  have q : ∀ r : Fin 27, ∀ c : Fin 3, ∀ w : Fin 3, d3 r.1 c.1 = 0 → r.1 + w.1 * 3 ^ c.1 < 27 ∧ nm (r.1 + w.1 * 3 ^ c.1) = sd (nm r.1) c.1 w.1 := by decide +kernel
  exact q ⟨r, hr⟩ ⟨c, hc⟩ ⟨w, hw⟩ h0
def ptP (g34 : Int32 → Lt → Option Lt) (x32 : Int32) (j36 : Nat) (M S : Lt) : Option Lt :=
  rd (M 7 j36) 10 fun (j43 : Nat) => rd (M 7 j36) 10 fun (j45 : Nat) => lt (((S 1 j45) >>> ((2 : Int32) &&& 31)) &&& 15) fun (x47 : Int32) => rd (M 7 j36) 10 fun (j48 : Nat) => lt (((S 1 j48) >>> ((6 : Int32) &&& 31)) &&& 15) fun (x50 : Int32) => jn (fun (S51 : Lt) => jn (fun (S53 : Lt) => jn (fun (S55 : Lt) => jn (fun (S57 : Lt) => jn (fun (x59 : Int32) (S60 : Lt) => if ((S 1 j43) &&& 3) = 3 then (rd x59 12 fun (j63 : Nat) => lt (w3 S60 7 j63 x50) fun (S65 : Lt) => g34 (x59 + 1) S65) else (g34 x59 S60)) fun k61 => if ((S 1 j43) &&& 3) ≤ 0 then (k61 (x32 + (-1)) S57) else (rd (x32 + (-1)) 12 fun (j67 : Nat) => lt (w3 S57 7 j67 x47) fun (S69 : Lt) => k61 ((x32 + (-1)) + 1) S69)) fun k58 => if ((S 1 j43) &&& 3) = 3 then (cb (l_columnsOf x47 S55) fun (z71 : Int32) => cb (l_columnsOf x50 S55) fun (z72 : Int32) => rd (M 7 j36) 10 fun (j73 : Nat) => cb (l_columnsOf x50 S55) fun (z75 : Int32) => cb (l_parts (S55 3 j73) z75) fun (z76 : Int32) => rd x50 10 fun (j77 : Nat) => cb (l_keyOf x50 S55) fun (z79 : Int32) => cb (l_like (S55 2 j77) z76 z79 0) fun (z80 : Int32) => rd x50 10 fun (j81 : Nat) => lt (w3 S55 3 j81 (z76 ||| z80)) fun (S83 : Lt) => rd x47 10 fun (j84 : Nat) => rd (M 7 j36) 10 fun (j86 : Nat) => cb (l_keyOf (M 7 j36) S83) fun (z88 : Int32) => cb (l_like (S83 2 j84) (S83 3 j86) z88 0) fun (z89 : Int32) => rd (M 7 j36) 10 fun (j90 : Nat) => cb (l_columnsOf x47 S83) fun (z92 : Int32) => cb (l_parts (S83 3 j90) z92) fun (z93 : Int32) => rd x50 10 fun (j94 : Nat) => cb (l_like z89 (S83 3 j94) (z71 &&& z72) 0) fun (z96 : Int32) => rd x47 10 fun (j97 : Nat) => lt (w3 S83 3 j97 (z93 ||| z96)) fun (S99 : Lt) => k58 S99) else (k58 S55)) fun k56 => if ((S 1 j43) &&& 3) = 2 then (rd x47 10 fun (j101 : Nat) => lt (w3 S53 3 j101 0) fun (S103 : Lt) => rd (M 7 j36) 10 fun (j104 : Nat) => lt (((S103 1 j104) >>> ((10 : Int32) &&& 31)) &&& 3) fun (x106 : Int32) => lp (fun _ _ => none) (fun (g109 : Int32 → Lt → Option Lt) (x107 : Int32) (S108 : Lt) => if 27 ≤ x107 then (k56 S108) else (rd (M 7 j36) 10 fun (j111 : Nat) => if (((S108 3 j111) >>> (x107 &&& 31)) &&& 1) = 0 then (g109 (x107 + 1) S108) else (rd (M 7 j36) 10 fun (j114 : Nat) => lt (((S108 1 j114) >>> ((12 : Int32) &&& 31)) &&& 3) fun (x116 : Int32) => lp (fun _ _ => none) (fun (g119 : Int32 → Int32 → Option Lt) (x117 : Int32) (x118 : Int32) => if 27 ≤ x118 then (rd x47 10 fun (j121 : Nat) => cb (l_unit x106) fun (z123 : Int32) => rd x47 10 fun (j124 : Nat) => lt (w3 S108 3 j124 ((S108 3 j121) ||| ((1 : Int32) <<< ((x107 + (x117 * z123)) &&& 31)))) fun (S126 : Lt) => g109 (x107 + 1) S126) else (rd x47 10 fun (j127 : Nat) => if (((S108 2 j127) >>> (x118 &&& 31)) &&& 1) = 1 then (cb (l_keyOf (M 7 j36) S108) fun (z130 : Int32) => cb (l_part x118 z130) fun (z131 : Int32) => cb (l_keyOf (M 7 j36) S108) fun (z132 : Int32) => cb (l_part x107 z132) fun (z133 : Int32) => if z131 = z133 then (cb (l_digit x118 x106) fun (z135 : Int32) => g119 z135 (x118 + 1)) else (g119 x117 (x118 + 1))) else (g119 x117 (x118 + 1)))) FU x116 0))) FU 0 S103) else (k56 S53)) fun k54 => if ((S 1 j43) &&& 3) = 1 then (rd (M 7 j36) 10 fun (j137 : Nat) => rd (M 7 j36) 10 fun (j139 : Nat) => rd x47 10 fun (j141 : Nat) => cb (l_selected (S51 1 j139) (S51 2 j141) 0) fun (z143 : Int32) => rd (M 7 j36) 10 fun (j144 : Nat) => cb (l_keyOf (M 7 j36) S51) fun (z146 : Int32) => cb (l_like z143 (S51 3 j144) z146 0) fun (z147 : Int32) => rd x47 10 fun (j148 : Nat) => lt (w3 S51 3 j148 ((S51 3 j137) ||| z147)) fun (S150 : Lt) => k54 S150) else (k54 S51)) fun k52 => if ((S 1 j43) &&& 3) = 0 then (rd (M 7 j36) 10 fun (j152 : Nat) => rd x47 3 fun (j154 : Nat) => lt (w3 S 4 j154 (S 3 j152)) fun (S156 : Lt) => k52 S156) else (k52 S)
def ptF (g34 : Int32 → Lt → Option Lt) (x32 : Int32) (S33 : Lt) : Option Lt :=
  if x32 ≤ 0 then (some S33) else (rd (x32 + (-1)) 12 fun (j36 : Nat) => rd (S33 7 j36) 10 fun (j38 : Nat) => cb2 (l_hinders (S33 7 j36) (S33 3 j38) S33) fun (z40 : Int32) (S41 : Lt) => if z40 = 0 then ptP g34 x32 j36 S33 S41 else (some S41))
theorem putT_d {M : Lt} : l_putT M = rd 2 7 fun (j20 : Nat) => rd 0 12 fun (j22 : Nat) => lt (w3 M 7 j22 ((M 6 j20) - 1)) fun (S24 : Lt) => rd 2 7 fun (j25 : Nat) => rd 3 7 fun (j27 : Nat) => rd ((S24 6 j25) - 1) 10 fun (j29 : Nat) => lt (w3 S24 3 j29 (S24 6 j27)) fun (S31 : Lt) => lp (fun _ _ => none) ptF FU 1 S31 := rfl
/-- what the law's step is given -/
def StH (G : Gt) (nt nv : Nat) (Tb : Nat → List Nat) (M : Lt) : Prop := OKG G nt nv ∧ (∀ t, t < nt → FT G t (Tb t)) ∧ (∀ u, u < nv → KW G M u) ∧ (∀ u, u < nv → SmV G u) ∧ ∀ u, u < nv → Is (M 2 u) (VV G Tb u)
theorem pt_pre {G : Gt} {nt nv v n : Nat} {Tb : Nat → List Nat} {M : Lt} (h : StH G nt nv Tb M) (hv : v < nv) (hst : M 7 n = nI v) (hn : n < 10) : v < 10 ∧ (∀ (f : Nat → Option Lt), rd (nI v) 10 f = f v) ∧ (nI (n + 1) + (-1) = nI n) ∧ (∀ (f : Nat → Option Lt), rd (nI n) 12 f = f n) :=
  have hv10 : v < 10 := Nat.lt_of_lt_of_le hv h.1.1.1.2
  ⟨hv10, fun f => rd_n hv10 (by decide), pk_m1 n, fun f => rd_n (by omega) (by decide)⟩
theorem pt_6 {G : Gt} {nt nv v n : Nat} {Tb : Nat → List Nat} {M : Lt} {g : Int32 → Lt → Option Lt} (h : StH G nt nv Tb M) (hv : v < nv) (hst : M 7 n = nI v) (hn : n < 10) (k6 : G v 6 = 6) : ptP g (nI (n + 1)) n M M = g (nI n) (w3 M 4 (vt G v) (M 3 v)) := by
  obtain ⟨hv10, r10, e1, r12⟩ := pt_pre h hv hst hn
  have ht := h.1.1.T' hv k6
  have h3 := h.1.1.1.1
  have r3 : ∀ (f : Nat → Option Lt), rd (G v 11) 3 f = f (vt G v) := fun f => by
    rw [ht.1]
    exact rd_n (by omega) (by decide)
  rcases (h.2.2.1 v hv).2.2.2 with ⟨-, kd, el⟩ | ⟨z, -⟩ | ⟨z, -⟩ | ⟨z, -⟩
  · unfold ptP
    simp only [hst, r10, jn_d, lt_d, el, r3, e1]
    rw [if_pos (by rw [kd]; rfl), if_neg (by rw [kd]; decide), if_neg (by rw [kd]; decide), if_neg (by rw [kd]; decide), if_pos (by rw [kd]; decide), if_neg (by rw [kd]; decide)]
  · exact absurd (k6.symm.trans z) (by decide)
  · exact absurd (k6.symm.trans z) (by decide)
  · exact absurd (k6.symm.trans z) (by decide)
theorem pt_4 {G : Gt} {nt nv v n : Nat} {Tb : Nat → List Nat} {M : Lt} {g : Int32 → Lt → Option Lt} (h : StH G nt nv Tb M) (hv : v < nv) (hst : M 7 n = nI v) (hn : n < 10) (k6 : G v 6 = 4) (hx : okS (M 3 v)) : ∃ y, ptP g (nI (n + 1)) n M M = g (nI (n + 1)) (w3 (w3 M 3 (vl G v) y) 7 n (nI (vl G v))) ∧ Is y (paS G (VV G Tb (vl G v)) v (ms (M 3 v))) := by
  obtain ⟨hv10, r10, e1, r12⟩ := pt_pre h hv hst hn
  obtain ⟨hO, hT, hK, hsm, hV⟩ := h
  have hl := hO.1.L' hv (ne6_4 k6)
  have rl : ∀ (f : Nat → Option Lt), rd (nI (vl G v)) 10 f = f (vl G v) := fun f => rd_n (by omega) (by decide)
  rcases (hK v hv).2.2.2 with ⟨z, -⟩ | ⟨-, kd, el, e7, e8, e9⟩ | ⟨z, -⟩ | ⟨z, -⟩
  · exact absurd (k6.symm.trans z) (by decide)
  · obtain ⟨a1, -, -, ⟨c, hc6, h7, hcb⟩, -, h9⟩ := (hO.2.1 v hv).2.1 k6
    obtain ⟨w, hw3, h8⟩ := (hsm v hv).2.2 (Or.inl k6)
    have hc3 : c < 3 := col_3 (hsm v hv).1 hc6 (by rw [a1]; exact hcb)
    obtain ⟨s, hs2, h9⟩ : ∃ s, s < 2 ∧ G v 9 = nI s := by
      rcases h9 with q | q
      · exact ⟨0, by decide, q⟩
      · exact ⟨1, by decide, q⟩
    obtain ⟨z, hz, hzb⟩ := selected_n (w := M 1 v) (x := M 2 (vl G v)) false (e7.trans h7) hc3 (e8.trans h8) (by omega) (e9.trans h9) hs2
    have hz2 : l_selected (M 1 v) (M 2 (vl G v)) 0 = some z := hz
    obtain ⟨y, hy, hyb⟩ := like_f (x := z) (y := M 3 v) (s := G v 2)
    refine ⟨M 3 v ||| y, ?_, ?_⟩
    · unfold ptP
      simp only [hst, r10, jn_d, lt_d, el, hl.1, e1]
      rw [if_neg (by rw [kd]; decide), if_pos (by rw [kd]; rfl), rl, cb_t hz2, cb_t (key_n (hK v hv) hv10), cb_t hy, rl, if_neg (by rw [kd]; decide), if_neg (by rw [kd]; decide), if_neg (by rw [kd]; decide), r12, if_neg (by rw [kd]; decide), nI_1]
    · have hx2 := hV (vl G v) (by omega)
      have hF := FV_n hO hT (show vl G v < nv by omega)
      have hzI : Is z ((VV G Tb (vl G v)).filter (fun a => !selB G v a)) := by
        refine Is_of (fun i hi => ?_) (pw_Srt ((Srt_pw hF.2.1).filter _)) fun a ha => ?_
        · rw [hzb i hi, List.mem_filter]
          constructor
          · rintro ⟨b1, b2, b3⟩
            refine ⟨b1, (hx2.at b1).mp b2, ?_⟩
            rw [selB_3 h7 h8 h9 hc3 (by omega) hs2 b1]
            simpa using b3
          · rintro ⟨b1, b2, b3⟩
            refine ⟨b1, (hx2.at b1).mpr b2, ?_⟩
            rw [selB_3 h7 h8 h9 hc3 (by omega) hs2 b1] at b3
            simpa using b3
        · obtain ⟨i, h1, -, h3⟩ := hx2.of (List.mem_filter.mp ha).1
          exact ⟨i, h1, h3⟩
      refine Is_or (Is_ms hx) (Is_like hzI (Is_ms hx) (pw_Srt ((Srt_pw hF.2.1).filter _)) hyb) (fold_Srt' adS_or (ms_srt _)) fun a => ?_
      rw [paS_mem, List.mem_filter, List.mem_filter]
      simp [and_assoc]
  · exact absurd (k6.symm.trans z) (by decide)
  · exact absurd (k6.symm.trans z) (by decide)
theorem pt_2 {G : Gt} {nt nv v n : Nat} {Tb : Nat → List Nat} {M : Lt} {g : Int32 → Lt → Option Lt} (h : StH G nt nv Tb M) (hv : v < nv) (hst : M 7 n = nI v) (hn : n < 10) (k6 : G v 6 = 2) (hx : okS (M 3 v)) : ∃ y1 y2, ptP g (nI (n + 1)) n M M = g (nI (n + 2)) (w3 (w3 (w3 (w3 M 3 (vr G v) y1) 3 (vl G v) y2) 7 n (nI (vl G v))) 7 (n + 1) (nI (vr G v))) ∧ Is y1 (paR G (VV G Tb (vr G v)) v (ms (M 3 v))) ∧ Is y2 (paL G (VV G Tb (vl G v)) (paR G (VV G Tb (vr G v)) v (ms (M 3 v))) v (ms (M 3 v))) := by
  obtain ⟨hv10, r10, e1, r12⟩ := pt_pre h hv hst hn
  have hne := kids_ne h.1 hv k6
  obtain ⟨hO, hT, hK, hsm, hV⟩ := h
  have hl := hO.1.L' hv (ne6_2 k6)
  have hr := hO.1.R' hv k6
  have rl : ∀ (f : Nat → Option Lt), rd (nI (vl G v)) 10 f = f (vl G v) := fun f => rd_n (by omega) (by decide)
  have rr : ∀ (f : Nat → Option Lt), rd (nI (vr G v)) 10 f = f (vr G v) := fun f => rd_n (by omega) (by decide)
  have r13 : ∀ (f : Nat → Option Lt), rd (nI (n + 1)) 12 f = f (n + 1) := fun f => rd_n (by omega) (by decide)
  have hFl := FV_n hO hT (show vl G v < nv by omega)
  have hFr := FV_n hO hT (show vr G v < nv by omega)
  obtain ⟨a1, a2, a3, a10, a5, akr⟩ := (hO.2.1 v hv).2.2.2 k6
  rcases (hK v hv).2.2.2 with ⟨z, -⟩ | ⟨z, -⟩ | ⟨z, -⟩ | ⟨-, kd, el, er⟩
  · exact absurd (k6.symm.trans z) (by decide)
  · exact absurd (k6.symm.trans z) (by decide)
  · exact absurd (k6.symm.trans z) (by decide)
  · obtain ⟨o1, ho1, hb1⟩ := parts_n (M 3 v) (G (vr G v) 1)
    obtain ⟨o2, ho2, hb2⟩ := like_f (x := M 2 (vr G v)) (y := o1) (s := G (vr G v) 2)
    obtain ⟨o3, ho3, hb3⟩ := like_f (x := M 2 (vl G v)) (y := M 3 v) (s := G v 2)
    obtain ⟨o4, ho4, hb4⟩ := parts_n (M 3 v) (G (vl G v) 1)
    obtain ⟨o5, ho5, hb5⟩ := like_f (x := o3) (y := o1 ||| o2) (s := G (vl G v) 1 &&& G (vr G v) 1)
    have I1 : Is o1 (wP (G (vr G v) 1) (ms (M 3 v))) := Is_parts (Is_ms hx) hb1 wP_srt (fun a => wP_mem)
    have I2 := Is_like (hV _ (by omega)) I1 hFr.2.1 hb2
    have IR : Is (o1 ||| o2) (paR G (VV G Tb (vr G v)) v (ms (M 3 v))) := Is_or I1 I2 (fold_Srt' adF_or wP_srt) fun a => by
      rw [paR_mem, List.mem_filter]
    have I3 := Is_like (hV _ (by omega)) (Is_ms hx) hFl.2.1 hb3
    have I4 : Is o4 (wP (G (vl G v) 1) (ms (M 3 v))) := Is_parts (Is_ms hx) hb4 wP_srt (fun a => wP_mem)
    have I5 := Is_like I3 IR (pw_Srt ((Srt_pw hFl.2.1).filter _)) hb5
    have IL : Is (o4 ||| o5) (paL G (VV G Tb (vl G v)) (paR G (VV G Tb (vr G v)) v (ms (M 3 v))) v (ms (M 3 v))) := Is_or I4 I5 (fold_Srt' adL_or wP_srt) fun a => by
      rw [paL_mem, List.mem_filter, List.mem_filter, a10, a2]
      have hfw : free (G (vl G v) 2) (wP (G (vl G v) 1) (ms (M 3 v))) a = free (G (vl G v) 2) (ms (M 3 v)) a := free_wP (hO.2.2 _ (by omega))
      rw [hfw, and_assoc]
    refine ⟨o1 ||| o2, o4 ||| o5, ?_, IR, IL⟩
    have hK1 : ∀ u, u < nv → ∀ y, KW G (w3 M 3 (vr G v) y) u := fun u hu y => (hK u hu).fr (by rw [w3_n (by decide)])
    have f2 : ∀ y, (w3 M 3 (vr G v) y) 2 = M 2 := fun y => w3_n (by decide)
    have f3 : ∀ y, (w3 M 3 (vr G v) y) 3 v = M 3 v := fun y => w3_o (by omega)
    unfold ptP
    simp only [hst, r10, jn_d, lt_d, el, er, hl.1, hr.1, e1]
    rw [if_neg (by rw [kd]; decide), if_neg (by rw [kd]; decide), if_neg (by rw [kd]; decide), if_pos (by rw [kd]; rfl)]
    rw [cb_t (cols_n (hK _ (by omega)) (by omega)), cb_t (cols_n (hK _ (by omega)) (by omega)), cb_t (cols_n (hK _ (by omega)) (by omega)), cb_t ho1, rr, cb_t (key_n (hK _ (by omega)) (by omega)), cb_t ho2, rr, rl]
    rw [cb_t (key_n (hK1 v hv _) (by omega)), f2, f3, cb_t ho3, cb_t (cols_n (hK1 _ (by omega) _) (by omega)), cb_t ho4, rr, w3_e, cb_t ho5, rl]
    rw [if_neg (by rw [kd]; decide), r12, if_pos (by rw [kd]; rfl), nI_1, r13, nI_1]
