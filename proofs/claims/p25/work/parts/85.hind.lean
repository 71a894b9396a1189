/-! ===== conflicts: the law's twins and hinders, the class's seekConflict ===== -/
theorem nm_300 : ∀ r, r < 27 → nm r < 300 := by decide +kernel
theorem nm_rev {r q : Nat} (hr : r < 27) (hq : q < 27) (h : nm r < nm q) : r < q := by
  rcases Nat.lt_trichotomy r q with z | z | z
  · exact z
  · rw [z] at h
    omega
  · have := nm_mono r hr q z
    omega
def pA (ks cs : Int32) (l : List Nat) (i j : Nat) : Prop := pt ks (gl l i) = pt ks (gl l j) ∧ pt cs (gl l i) ≠ pt cs (gl l j)
def pB (ks cs : Int32) (r q : Nat) : Prop := p3 ks r = p3 ks q ∧ p3 cs r ≠ p3 cs q
theorem pAB {ks cs : Int32} {l : List Nat} {i j r q : Nat} (hr : r < 27) (hq : q < 27) (ei : gl l i = nm r) (ej : gl l j = nm q) : pA ks cs l i j ↔ pB ks cs r q := by
  unfold pA pB
  rw [ei, ej, p3_pt hr hq, Ne, Ne, p3_pt hr hq]
def enc (a b : Nat) : Int32 := nI (a + 1 + 1000 * (b + 1))
def FB (x ks cs : Int32) (r q : Nat) : Prop := r < q ∧ q < 27 ∧ bt x r = true ∧ bt x q = true ∧ pB ks cs r q ∧ ∀ r' q', r' < q' → q' < 27 → bt x r' = true → bt x q' = true → (r' < r ∨ (r' = r ∧ q' < q)) → ¬ pB ks cs r' q'
theorem twins_b {M : Lt} {x ks cs : Int32} {v its : Nat} (hv : v < 10) : ((∀ r q, r < q → q < 27 → bt x r = true → bt x q = true → ¬ pB ks cs r q) ∧ l_twins (nI v) (nI its) x ks cs M = some (0, M)) ∨ ∃ r q, FB x ks cs r q ∧ l_twins (nI v) (nI its) x ks cs M = some (1, w3 (w3 M 6 4 (nI (10 * v + its))) 6 5 (enc (nm r) (nm q))) := by
  unfold l_twins
  refine lq1 (Q := fun o => ((∀ r q, r < q → q < 27 → bt x r = true → bt x q = true → ¬ pB ks cs r q) ∧ o = some (0, M)) ∨ ∃ r q, FB x ks cs r q ∧ o = some (1, w3 (w3 M 6 4 (nI (10 * v + its))) 6 5 (enc (nm r) (nm q)))) (fun d a => ∃ k, k + d = 27 ∧ a = nI k ∧ ∀ r q, r < k → r < q → q < 27 → bt x r = true → bt x q = true → ¬ pB ks cs r q) ?_ _ 27 _ (FU_lt (by omega)) ⟨0, by omega, rfl, fun r q h => absurd h (Nat.not_lt_zero _)⟩
  rintro d a g ⟨k, hk, rfl, hno⟩ ih
  by_cases h0 : d = 0
  · have e : k = 27 := by omega
    subst e
    rw [if_pos (show (27 : Int32) ≤ nI 27 from by decide)]
    exact Or.inl ⟨fun r q h1 h2 => hno r q (by omega) h1 h2, rfl⟩
  · rw [if_neg (show ¬ (27 : Int32) ≤ nI k from nI_ge (b := 27) (by omega) (by decide)), nI_1]
    by_cases hb : bt x k = true
    · rw [if_neg (by rw [bt_f, hb]; decide)]
      refine lq1 (Q := fun o => ((∀ r q, r < q → q < 27 → bt x r = true → bt x q = true → ¬ pB ks cs r q) ∧ o = some (0, M)) ∨ ∃ r q, FB x ks cs r q ∧ o = some (1, w3 (w3 M 6 4 (nI (10 * v + its))) 6 5 (enc (nm r) (nm q)))) (fun d2 b => ∃ m, m + d2 = 27 ∧ b = nI m ∧ k < m ∧ ∀ q, k < q → q < m → bt x q = true → ¬ pB ks cs k q) ?_ _ (27 - (k + 1)) _ (FU_lt (by omega)) ⟨k + 1, by omega, rfl, by omega, fun q h1 h2 => by omega⟩
      rintro d2 b g2 ⟨m, hm, rfl, hkm, hno2⟩ ih2
      by_cases h1 : d2 = 0
      · have e : m = 27 := by omega
        subst e
        rw [if_pos (show (27 : Int32) ≤ nI 27 from by decide)]
        refine ih (d - 1) _ (by omega) ⟨k + 1, by omega, rfl, fun r q h2 h3 h4 h5 h6 => ?_⟩
        by_cases e : r = k
        · subst e
          exact hno2 q h3 h4 h6
        · exact hno r q (by omega) h3 h4 h5 h6
      · have hm27 : m < 27 := by omega
        rw [if_neg (show ¬ (27 : Int32) ≤ nI m from nI_ge (b := 27) (by omega) (by decide)), nI_1]
        have hnext : (bt x m = true → ¬ pB ks cs k m) → ((∀ r q, r < q → q < 27 → bt x r = true → bt x q = true → ¬ pB ks cs r q) ∧ g2 (nI (m + 1)) = some (0, M)) ∨ ∃ r q, FB x ks cs r q ∧ g2 (nI (m + 1)) = some (1, w3 (w3 M 6 4 (nI (10 * v + its))) 6 5 (enc (nm r) (nm q))) := by
          intro hn
          refine ih2 (d2 - 1) _ (by omega) ⟨m + 1, by omega, rfl, by omega, fun q h3 h4 h5 => ?_⟩
          by_cases e : q = m
          · subst e
            exact hn h5
          · exact hno2 q h3 (by omega) h5
        by_cases hbm : bt x m = true
        · have hk27 : k < 27 := by omega
          rw [if_neg (by rw [bt_f, hbm]; decide), cb_t (part3_n hk27), cb_t (part3_n hm27)]
          have e1 : (nI (p3 ks k) = nI (p3 ks m)) ↔ p3 ks k = p3 ks m := nI_eq (by have := p3_lt (s := ks) hk27; omega) (by have := p3_lt (s := ks) hm27; omega)
          by_cases hA : p3 ks k = p3 ks m
          · rw [if_pos (e1.mpr hA), cb_t (part3_n hk27), cb_t (part3_n hm27)]
            have e2 : (nI (p3 cs k) = nI (p3 cs m)) ↔ p3 cs k = p3 cs m := nI_eq (by have := p3_lt (s := cs) hk27; omega) (by have := p3_lt (s := cs) hm27; omega)
            by_cases hB : p3 cs k = p3 cs m
            · rw [if_pos (e2.mpr hB)]
              exact hnext fun _ z => z.2 hB
            · rw [if_neg (fun z => hB (e2.mp z)), show (4 : Int32) = nI 4 from rfl, rd_n (by decide) (by decide), lt_d, cb_t (number_n hk27), cb_t (number_n hm27), show (5 : Int32) = nI 5 from rfl, rd_n (by decide) (by decide), lt_d, nI_1, nI_1, show (1000 : Int32) = nI 1000 from rfl, pk_mul, nI_add, n10c]
              exact Or.inr ⟨k, m, ⟨hkm, hm27, hb, hbm, ⟨hA, hB⟩, fun r' q' h3 h4 h5 h6 h7 => by
                rcases h7 with h7 | ⟨rfl, h7⟩
                · exact hno r' q' h7 h3 h4 h5 h6
                · exact hno2 q' h3 h7 h6⟩, rfl⟩
          · rw [if_neg (fun z => hA (e1.mp z))]
            exact hnext fun _ z => hA z.1
        · rw [if_pos (by rw [bt_f]; simpa using hbm)]
          exact hnext fun z => absurd z hbm
    · rw [if_pos (by rw [bt_f]; simpa using hb)]
      refine ih (d - 1) _ (by omega) ⟨k + 1, by omega, rfl, fun r q h2 h3 h4 h5 h6 => ?_⟩
      by_cases e : r = k
      · subst e
        exact absurd h5 hb
      · exact hno r q (by omega) h3 h4 h5 h6
theorem gl_ms {x : Int32} {i : Nat} (h : i < (ms x).length) : ∃ r, r < 27 ∧ bt x r = true ∧ gl (ms x) i = nm r := mem_ms.mp (gl_mem h)
theorem at_ms {x : Int32} {r : Nat} (hr : r < 27) (h : bt x r = true) : ∃ i, i < (ms x).length ∧ gl (ms x) i = nm r := mem_gl ((nm_ms hr).mpr h)
theorem ms_lt {x : Int32} {i j r q : Nat} (hi : i < (ms x).length) (hj : j < (ms x).length) (hr : r < 27) (hq : q < 27) (ei : gl (ms x) i = nm r) (ej : gl (ms x) j = nm q) : i < j ↔ r < q := by
  constructor
  · intro h
    have := ms_srt x i j h hj
    rw [ei, ej] at this
    exact nm_rev hr hq this
  · intro h
    have h2 := nm_mono q hq r h
    rcases Nat.lt_trichotomy i j with z | z | z
    · exact z
    · subst z
      omega
    · have := ms_srt x j i z hi
      omega
theorem twins_n {M : Lt} {x ks cs : Int32} {v its : Nat} (hv : v < 10) : (noP (pA ks cs (ms x)) (ms x).length ∧ l_twins (nI v) (nI its) x ks cs M = some (0, M)) ∨ ∃ i j, FP (pA ks cs (ms x)) (ms x).length i j ∧ ∃ r q, r < 27 ∧ q < 27 ∧ gl (ms x) i = nm r ∧ gl (ms x) j = nm q ∧ l_twins (nI v) (nI its) x ks cs M = some (1, w3 (w3 M 6 4 (nI (10 * v + its))) 6 5 (enc (nm r) (nm q))) := by
  rcases twins_b (M := M) (x := x) (ks := ks) (cs := cs) (its := its) hv with ⟨h1, h2⟩ | ⟨r, q, hF, h2⟩
  · refine Or.inl ⟨fun i j hij hj hA => ?_, h2⟩
    obtain ⟨r, a1, a2, a3⟩ := gl_ms (x := x) (i := i) (by omega)
    obtain ⟨q, b1, b2, b3⟩ := gl_ms hj
    exact h1 r q ((ms_lt (by omega) hj a1 b1 a3 b3).mp hij) b1 a2 b2 ((pAB a1 b1 a3 b3).mp hA)
  · obtain ⟨f1, f2, f3, f4, f5, f6⟩ := hF
    obtain ⟨i, hi, ei⟩ := at_ms (x := x) (r := r) (by omega) f3
    obtain ⟨j, hj, ej⟩ := at_ms (x := x) f2 f4
    refine Or.inr ⟨i, j, ⟨(ms_lt hi hj (by omega) f2 ei ej).mpr f1, hj, (pAB (by omega) f2 ei ej).mpr f5, fun i' j' p1 p2 p3 hA => ?_⟩, r, q, by omega, f2, ei, ej, h2⟩
    obtain ⟨r', a1, a2, a3⟩ := gl_ms (x := x) (i := i') (by omega)
    obtain ⟨q', b1, b2, b3⟩ := gl_ms p2
    refine f6 r' q' ((ms_lt (by omega) p2 a1 b1 a3 b3).mp p1) b1 a2 b2 ?_ ((pAB a1 b1 a3 b3).mp hA)
    rcases p3 with p3 | ⟨rfl, p3⟩
    · exact Or.inl ((ms_lt (by omega) hi a1 (by omega) a3 ei).mp p3)
    · have e : r' = r := nm_inj a1 (by omega) (a3.symm.trans ei)
      exact Or.inr ⟨e, (ms_lt p2 hj b1 f2 b3 ej).mp p3⟩
theorem ap_srt {ks cs : Int32} {l : List Nat} (hv : ∀ r, r ∈ l → pt cs r = r) (hs : Srt l) {i j : Nat} (hij : i < j) (hj : j < l.length) : pA ks cs l i j ↔ pt ks (gl l i) = pt ks (gl l j) := ⟨fun z => z.1, fun z => ⟨z, by
  rw [hv _ (gl_mem (by omega)), hv _ (gl_mem hj)]
  exact Srt_ne hs hij hj⟩⟩
theorem p3_7 {r : Nat} (h : r < 27) : p3 7 r = r := by
  unfold p3
  rw [if_pos (by decide), if_pos (by decide), if_pos (by decide)]
  omega
theorem ms_7 {x : Int32} : ∀ r, r ∈ ms x → pt 7 r = r := by
  intro a ha
  obtain ⟨r, h1, -, rfl⟩ := mem_ms.mp ha
  exact (p3_val h1).mp (p3_7 h1)
/-- a conflict that is told by both -/
def CR (c a b : Int32) (M M' : Lt) : Prop := (∀ k, k ≠ 6 → M' k = M k) ∧ (∀ j, j ≠ 4 → j ≠ 5 → M' 6 j = M 6 j) ∧ M' 6 4 = c ∧ (M' 6 5 - M' 6 5 / 1000 * 1000) - 1 = a ∧ (M' 6 5 / 1000) - 1 = b
theorem rem1k {a : Nat} (h : a < 2 ^ 31) : nI a - nI a / 1000 * 1000 = nI (a % 1000) := pk_rem h (by decide) (by decide)
theorem div1k {a : Nat} (h : a < 2 ^ 31) : nI a / 1000 = nI (a / 1000) := pk_div (d := 1000) h (by decide) (by decide)
theorem w3_65 {M : Lt} {c w : Int32} : (w3 (w3 M 6 4 c) 6 5 w) 6 4 = c := by rw [w3_o (by decide), w3_e]
theorem CR_two {M : Lt} {c : Int32} {r q : Nat} (hr : r < 27) (hq : q < 27) : CR c (nI (nm r)) (nI (nm q)) M (w3 (w3 M 6 4 c) 6 5 (enc (nm r) (nm q))) := by
  have h1 := nm_300 r hr
  have h2 := nm_300 q hq
  refine ⟨fun k hk => by rw [w3_n hk, w3_n hk], fun j h4 h5 => by rw [w3_o h5, w3_o h4], w3_65, ?_, ?_⟩
  · rw [w3_e]
    unfold enc
    rw [rem1k (by omega), show (nm r + 1 + 1000 * (nm q + 1)) % 1000 = nm r + 1 by omega, nI_pred]
  · rw [w3_e]
    unfold enc
    rw [div1k (by omega), show (nm r + 1 + 1000 * (nm q + 1)) / 1000 = nm q + 1 by omega, nI_pred]
theorem CR_one {M : Lt} {c : Int32} {r : Nat} (hr : r < 27) : CR c (nI (nm r)) (-1) M (w3 (w3 M 6 4 c) 6 5 (nI (nm r + 1))) := by
  have h1 := nm_300 r hr
  refine ⟨fun k hk => by rw [w3_n hk, w3_n hk], fun j h4 h5 => by rw [w3_o h5, w3_o h4], w3_65, ?_, ?_⟩
  · rw [w3_e, rem1k (by omega), show (nm r + 1) % 1000 = nm r + 1 by omega, nI_pred]
  · rw [w3_e, div1k (by omega), show (nm r + 1) / 1000 = 0 by omega]
    decide
theorem CR_none {M : Lt} {c : Int32} (h5 : M 6 5 = 0) : CR c (-1) (-1) M (w3 M 6 4 c) := by
  refine ⟨fun k hk => w3_n hk, fun j h4 h5 => w3_o h4, w3_e, ?_, ?_⟩
  · rw [w3_o (by decide), h5]
    decide
  · rw [w3_o (by decide), h5]
    decide
theorem noP_pt {ks cs : Int32} {l : List Nat} (h : noP (pA ks cs l) l.length) : ∀ r, r ∈ l → ∀ q, q ∈ l → pt ks r = pt ks q → pt cs r = pt cs q := by
  intro r hr q hq he
  obtain ⟨a, ha, rfl⟩ := mem_gl hr
  obtain ⟨b, hb, rfl⟩ := mem_gl hq
  rcases Classical.em (pt cs (gl l a) = pt cs (gl l b)) with z | z
  · exact z
  · rcases Nat.lt_trichotomy a b with w | w | w
    · exact absurd ⟨he, z⟩ (h a b w hb)
    · rw [w]
    · exact absurd ⟨he.symm, fun y => z y.symm⟩ (h b a w ha)
/-- behind the first two tests -/
def hdT (x3 x4 : Int32) (M S10 : Lt) (j6 : Nat) : Option (Int32 × Lt) :=
  rd x3 10 fun (j16 : Nat) => lt (((S10 1 j16) >>> ((6 : Int32) &&& 31)) &&& 15) fun (x18 : Int32) => jn (fun (S19 : Lt) => lp (fun _ _ => none) (fun (g23 : Int32 → Int32 → Option (Int32 × Lt)) (x21 : Int32) (x22 : Int32) => if 27 ≤ x22 then (jn (fun (S25 : Lt) => rd 4 7 fun (j27 : Nat) => if (S25 6 j27) ≤ 0 then (some (0, S25)) else (some (1, S25))) fun k26 => if ((M 1 j6) &&& 3) = 0 then (if x21 ≤ 12 then (k26 S19) else (rd 4 7 fun (j32 : Nat) => lt (w3 S19 6 j32 (((10 : Int32) * x3) + 4)) fun (S34 : Lt) => k26 S34)) else (k26 S19)) else (g23 (x21 + ((x4 >>> (x22 &&& 31)) &&& 1)) (x22 + 1))) FU 0 0) fun k20 => if ((M 1 j6) &&& 3) = 3 then (cb (l_keyOf x18 S10) fun (z36 : Int32) => cb (l_columnsOf x18 S10) fun (z37 : Int32) => cb2 (l_twins x3 3 x4 z36 z37 S10) fun (z38 : Int32) (S39 : Lt) => if z38 = 0 then (k20 S39) else (some (1, S39))) else (k20 S10)
theorem flt_l {f : Nat → Bool} {n : Nat} : flt f (n + 1) = flt f n + if f n = true then 1 else 0 := by
  unfold flt
  rw [List.range_succ, List.filter_append, List.length_append]
  congr 1
  by_cases h : f n = true
  · rw [if_pos h, List.filter_cons_of_pos h]
    rfl
  · rw [if_neg h, List.filter_cons_of_neg h]
    rfl
theorem many_l {x : Int32} {β : Type} {E : Int32 → Option β} {F : (Int32 → Int32 → Option β) → Int32 → Int32 → Option β} (h1 : ∀ (g : Int32 → Int32 → Option β) (a : Int32) (k : Nat), k < 27 → F g a (nI k) = g (a + ((x >>> (nI k &&& 31)) &&& 1)) (nI k + 1)) (h2 : ∀ (g : Int32 → Int32 → Option β) (a : Int32), F g a (nI 27) = E a) : lp (fun _ _ => none) F FU 0 0 = E (nI (cnt x)) := by
  refine lq2 (Q := fun o => o = E (nI (cnt x))) (fun d a b => ∃ k, k + d = 27 ∧ b = nI k ∧ a = nI (flt (fun r => bt x r) k)) ?_ _ 27 _ _ (FU_lt (by omega)) ⟨0, by omega, rfl, rfl⟩
  rintro d a b g ⟨k, hk, rfl, rfl⟩ ih
  by_cases h : d = 0
  · have e : k = 27 := by omega
    subst e
    rw [h2]
    rfl
  · rw [h1 g _ k (by omega), nI_1, b01]
    refine ih (d - 1) _ _ (by omega) ⟨k + 1, by omega, rfl, ?_⟩
    rw [flt_l]
    cases bt x k
    · rw [if_neg (by decide), if_neg (by decide), show (0 : Int32) = nI 0 from rfl, nI_add]
    · rw [if_pos rfl, if_pos rfl, nI_1]
def hdE (x3 : Int32) (M S19 : Lt) (j6 : Nat) (x21 : Int32) : Option (Int32 × Lt) := (jn (fun (S25 : Lt) => rd 4 7 fun (j27 : Nat) => if (S25 6 j27) ≤ 0 then (some ((0 : Int32), S25)) else (some (1, S25))) fun k26 => if ((M 1 j6) &&& 3) = 0 then (if x21 ≤ 12 then (k26 S19) else (rd 4 7 fun (j32 : Nat) => lt (w3 S19 6 j32 (((10 : Int32) * x3) + 4)) fun (S34 : Lt) => k26 S34)) else (k26 S19))
theorem nI_le0 {n : Nat} (h : 0 < n) (hn : n < 2 ^ 31) : ¬ nI n ≤ 0 := nI_nle h hn
theorem hdT_n {M : Lt} {G : Gt} {nt nv v : Nat} {x : Int32} (h4 : M 6 4 = 0) (h5 : M 6 5 = 0) (hK : KW G M v) (hKr : G v 6 = 2 → KW G M (vr G v)) (hO : OKG G nt nv) (hv : v < nv) : (hdT (nI v) x M M v = some (0, M) ∧ (G v 6 = 6 → (ms x).length ≤ 12) ∧ (G v 6 = 2 → noP (pA (G (vr G v) 2) (G (vr G v) 1) (ms x)) (ms x).length)) ∨ (G v 6 = 6 ∧ 12 < (ms x).length ∧ ∃ M', hdT (nI v) x M M v = some (1, M') ∧ CR (nI (10 * v + 4)) (-1) (-1) M M') ∨ (G v 6 = 2 ∧ ∃ i j, FP (pA (G (vr G v) 2) (G (vr G v) 1) (ms x)) (ms x).length i j ∧ ∃ M', hdT (nI v) x M M v = some (1, M') ∧ CR (nI (10 * v + 3)) (nI (gl (ms x) i)) (nI (gl (ms x) j)) M M') := by
  have hv10 : v < 10 := Nat.lt_of_lt_of_le hv hO.1.1.2
  have hml : ∀ S19 : Lt, lp (fun _ _ => none) (fun (g23 : Int32 → Int32 → Option (Int32 × Lt)) (x21 : Int32) (x22 : Int32) => if 27 ≤ x22 then (jn (fun (S25 : Lt) => rd 4 7 fun (j27 : Nat) => if (S25 6 j27) ≤ 0 then (some (0, S25)) else (some (1, S25))) fun k26 => if ((M 1 v) &&& 3) = 0 then (if x21 ≤ 12 then (k26 S19) else (rd 4 7 fun (j32 : Nat) => lt (w3 S19 6 j32 (((10 : Int32) * nI v) + 4)) fun (S34 : Lt) => k26 S34)) else (k26 S19)) else (g23 (x21 + ((x >>> (x22 &&& 31)) &&& 1)) (x22 + 1))) FU 0 0 = hdE (nI v) M S19 v (nI (cnt x)) := fun S19 => many_l (E := hdE (nI v) M S19 v) (fun g a k hk => if_neg (show ¬ (27 : Int32) ≤ nI k from nI_ge (b := 27) (by omega) (by decide))) (fun g a => if_pos (show (27 : Int32) ≤ nI 27 from by decide))
  have r4 : ∀ (f : Nat → Option (Int32 × Lt)), rd 4 7 f = f 4 := fun f => rd_n (j := 4) (by decide) (by decide)
  unfold hdT
  rw [rd_n hv10 (by decide), lt_d, jn_d]
  simp only [hml]
  have hc := cnt_le x
  have hle := Int32.le_refl 0
  rcases hK.2.2.2 with ⟨k6, kd, el⟩ | ⟨k6, kd, el, -⟩ | ⟨k6, kd, el, -⟩ | ⟨k6, kd, el, er⟩
  · rw [if_neg (by rw [kd]; decide)]
    simp only [hdE, jn_d, r4, lt_d]
    rw [if_pos (by rw [kd]; rfl), show (12 : Int32) = nI 12 from rfl]
    by_cases h12 : cnt x ≤ 12
    · rw [if_pos (nI_le h12 (by decide)), h4, if_pos (by decide)]
      exact Or.inl ⟨rfl, fun _ => by rw [ms_len]; exact h12, fun z => absurd (k6.symm.trans z) (by decide)⟩
    · rw [if_neg (nI_ge (by omega) (by omega)), w3_e, show ((10 : Int32) * nI v + 4) = nI (10 * v + 4) from n10c, if_neg (nI_le0 (by omega) (by omega))]
      exact Or.inr (Or.inl ⟨k6, by rw [ms_len]; omega, _, rfl, CR_none h5⟩)
  · rw [if_neg (by rw [kd]; decide)]
    simp only [hdE, jn_d, r4, lt_d]
    rw [if_neg (by rw [kd]; decide), h4, if_pos (by decide)]
    exact Or.inl ⟨rfl, fun z => absurd (k6.symm.trans z) (by decide), fun z => absurd (k6.symm.trans z) (by decide)⟩
  · rw [if_neg (by rw [kd]; decide)]
    simp only [hdE, jn_d, r4, lt_d]
    rw [if_neg (by rw [kd]; decide), h4, if_pos (by decide)]
    exact Or.inl ⟨rfl, fun z => absurd (k6.symm.trans z) (by decide), fun z => absurd (k6.symm.trans z) (by decide)⟩
  · have hr := hO.1.R' hv k6
    rw [if_pos (by rw [kd]; rfl), er, hr.1, cb_t (key_n (hKr k6) (by omega)), cb_t (cols_n (hKr k6) (by omega))]
    rcases twins_n (M := M) (x := x) (ks := G (vr G v) 2) (cs := G (vr G v) 1) (its := 3) hv10 with ⟨hn, e1⟩ | ⟨i, j, hF, r, q, hr27, hq27, ei, ej, e1⟩
    · rw [cb2_t (show l_twins (nI v) 3 x _ _ M = some (0, M) from e1), if_pos rfl]
      simp only [hdE, jn_d, r4, lt_d]
      rw [if_neg (by rw [kd]; decide), h4, if_pos (by decide)]
      exact Or.inl ⟨rfl, fun z => absurd (k6.symm.trans z) (by decide), fun _ => hn⟩
    · rw [cb2_t (show l_twins (nI v) 3 x _ _ M = some (1, _) from e1), if_neg (by decide)]
      refine Or.inr (Or.inr ⟨k6, i, j, hF, _, rfl, ?_⟩)
      rw [ei, ej]
      exact CR_two hr27 hq27
theorem hind_n {S : St} {M : Lt} {G : Gt} {nt nv v : Nat} {x : Int32} (hS : Rw S (23 + 2 * v) (ms x)) (h46 : S.1 46 = 0) (h4 : M 6 4 = 0) (h5 : M 6 5 = 0) (hK : KW G M v) (hKr : G v 6 = 2 → KW G M (vr G v)) (hsm : SmV G v) (hO : OKG G nt nv) (hv : v < nv) (g0 : G v 0 = nI v) (hval : ∀ r, r ∈ ms x → pt (G v 1) r = r) :
    (d9_seekConflict G nt nv v S = some S ∧ l_hinders (nI v) x M = some (0, M) ∧ unl (G v 2) (ms x) ∧ (G v 6 = 6 → (ms x).length ≤ 12) ∧ (G v 6 = 4 → ∀ r, r ∈ ms x → selB G v r = true) ∧ (G v 6 = 2 → ∀ r, r ∈ ms x → ∀ q, q ∈ ms x → pt (G (vr G v) 2) r = pt (G (vr G v) 2) q → pt (G (vr G v) 1) r = pt (G (vr G v) 1) q)) ∨
    ∃ c a b M', ¬ c ≤ 0 ∧ d9_seekConflict G nt nv v S = some (apC S c a b) ∧ l_hinders (nI v) x M = some (1, M') ∧ CR c a b M M' := by
  have hv10 : v < 10 := Nat.lt_of_lt_of_le hv hO.1.1.2
  have hA := hO.2.1 v hv
  have hs := ms_srt x
  have hnz : ∀ c, 0 < c → c < 5 → ¬ nI (10 * v + c) = 0 := fun c p q => nI_ne0 (by omega) (by omega)
  have hnp : ∀ c, 0 < c → c < 5 → ¬ nI (10 * v + c) ≤ 0 := fun c p q => nI_nle (by omega) (by omega)
  have hAB : ∀ i j, i < j → j < (ms x).length → (pA (G v 2) (G v 1) (ms x) i j ↔ pA (G v 2) 7 (ms x) i j) := fun i j hij hj => (ap_srt hval hs hij hj).trans (ap_srt ms_7 hs hij hj).symm
  have r10 : ∀ (f : Nat → Option (Int32 × Lt)), rd (nI v) 10 f = f v := fun f => rd_n hv10 (by decide)
  have hh : l_hinders (nI v) x M = cb2 (l_twins (nI v) 1 x (G v 2) 7 M) fun (z9 : Int32) (S10 : Lt) => if z9 = 0 then (if ((M 1 v) &&& 3) = 1 then (cb (l_selected (S10 1 v) x 0) fun (z51 : Int32) => lp (fun _ => none) (fun (g53 : Int32 → Option (Int32 × Lt)) (x52 : Int32) => if 27 ≤ x52 then hdT (nI v) x M S10 v else (if ((z51 >>> (x52 &&& 31)) &&& 1) = 0 then (g53 (x52 + 1)) else (rd 4 7 fun (j81 : Nat) => lt (w3 S10 6 j81 (((10 : Int32) * nI v) + 2)) fun (S83 : Lt) => cb (l_number x52) fun (z84 : Int32) => rd 5 7 fun (j85 : Nat) => lt (w3 S83 6 j85 (z84 + 1)) fun (S87 : Lt) => some (1, S87)))) FU 0) else (lp (fun _ => none) (fun (g14 : Int32 → Option (Int32 × Lt)) (x13 : Int32) => if 27 ≤ x13 then hdT (nI v) x M S10 v else (if (((0 : Int32) >>> (x13 &&& 31)) &&& 1) = 0 then (g14 (x13 + 1)) else (rd 4 7 fun (j42 : Nat) => lt (w3 S10 6 j42 (((10 : Int32) * nI v) + 2)) fun (S44 : Lt) => cb (l_number x13) fun (z45 : Int32) => rd 5 7 fun (j46 : Nat) => lt (w3 S44 6 j46 (z45 + 1)) fun (S48 : Lt) => some (1, S48)))) FU 0)) else (some (1, S10)) := by
    unfold l_hinders
    rw [r10, cb_t (key_n hK hv10)]
    simp only [hdT, r10]
  have hs1 := seekPair_n (G := G) (nt := nt) (nv := nv) (x2 := 1) (ks := G v 2) (cs := G v 1) hS
  rcases hs1 with ⟨hn, e1⟩ | ⟨i, j, hF, e1⟩
  · rcases twins_n (M := M) (x := x) (ks := G v 2) (cs := 7) (its := 1) hv10 with ⟨hn2, e2⟩ | ⟨i', j', hF2, -⟩
    · have hunl : unl (G v 2) (ms x) := fun q hq q2 hq2 he => by
        have := noP_pt (ks := G v 2) (cs := G v 1) hn q hq q2 hq2 he
        rw [hval q hq, hval q2 hq2] at this
        exact this
      have hcd : d9_seekConflict G nt nv v S = cb (vd (G v 6) (d2_seekOwnConflict v S) (d3_seekOwnConflict G nt nv v S) (d5_seekOwnConflict G nt nv v S) (d7_seekOwnConflict G nt nv v S)) fun (S19 : St) => some S19 := by
        unfold d9_seekConflict
        rw [e1, cb_s, told0 h46, cb_s, if_pos z00]
      rw [cb2_t (show l_twins (nI v) 1 x (G v 2) 7 M = some (0, M) from e2), if_pos rfl] at hh
      have skip : ¬ ((M 1 v) &&& 3) = 1 → l_hinders (nI v) x M = hdT (nI v) x M M v := by
        intro hk
        rw [hh, if_neg hk]
        refine lq1 (Q := fun o => o = hdT (nI v) x M M v) (fun d a => ∃ k, k + d = 27 ∧ a = nI k) ?_ _ 27 _ (FU_lt (by omega)) ⟨0, by omega, rfl⟩
        rintro d a g ⟨k, hk2, rfl⟩ ih
        by_cases h0 : d = 0
        · have e : k = 27 := by omega
          subst e
          rw [if_pos (show (27 : Int32) ≤ nI 27 from by decide)]
        · rw [if_neg (show ¬ (27 : Int32) ≤ nI k from nI_ge (b := 27) (by omega) (by decide)), if_pos (by rw [bt_f, bt_0 (by omega)]), nI_1]
          exact ih (d - 1) _ (by omega) ⟨k + 1, by omega, rfl⟩
      have hT := hdT_n (x := x) h4 h5 hK hKr hO hv
      rcases hK.2.2.2 with ⟨k6, kd, el⟩ | ⟨k6, kd, el, e7, e8, e9⟩ | ⟨k6, kd, el, e7, e8⟩ | ⟨k6, kd, el, er⟩
      · have n4 : ¬ G v 6 = 4 := fun z => absurd (k6.symm.trans z) (by decide)
        have n2 : ¬ G v 6 = 2 := fun z => absurd (k6.symm.trans z) (by decide)
        rw [vd6 k6] at hcd
        unfold d7_seekOwnConflict at hcd
        rw [size_n hS, cb_s, show (12 : Int32) = nI 12 from rfl] at hcd
        rw [skip (by rw [kd]; decide)]
        have hlen : (ms x).length ≤ 27 := by rw [ms_len]; exact cnt_le x
        rcases hT with ⟨t1, t2, t3⟩ | ⟨-, t2, M', t3, t4⟩ | ⟨z, -⟩
        · rw [if_pos (nI_le (t2 k6) (by decide)), cb_s] at hcd
          exact Or.inl ⟨hcd, t1, hunl, t2, fun z => absurd z n4, fun z => absurd z n2⟩
        · rw [if_neg (nI_ge t2 (by omega)), tell_n, cb_s, cb_s, g0, show ((10 : Int32) * nI v + 4) = nI (10 * v + 4) from n10c] at hcd
          exact Or.inr ⟨_, _, _, M', hnp 4 (by decide) (by decide), hcd, t3, t4⟩
        · exact absurd z n2
      · have n6 : ¬ G v 6 = 6 := fun z => absurd (k6.symm.trans z) (by decide)
        have n2 : ¬ G v 6 = 2 := fun z => absurd (k6.symm.trans z) (by decide)
        rw [vd4 k6] at hcd
        obtain ⟨a1, -, -, ⟨c, hc6, h7, hcb⟩, -, h9⟩ := hA.2.1 k6
        obtain ⟨w, hw3, h8⟩ := hsm.2.2 (Or.inl k6)
        have hc3 : c < 3 := col_3 hsm.1 hc6 (by rw [a1]; exact hcb)
        obtain ⟨s, hs2, h9⟩ : ∃ s, s < 2 ∧ G v 9 = nI s := by
          rcases h9 with q | q
          · exact ⟨0, by decide, q⟩
          · exact ⟨1, by decide, q⟩
        obtain ⟨z, hz, hzb⟩ := selected_n (w := M 1 v) (x := x) false (e7.trans h7) hc3 (e8.trans h8) (by omega) (e9.trans h9) hs2
        have hz2 : l_selected (M 1 v) x 0 = some z := hz
        have hbad : ∀ r, r < 27 → (bt z r = true ↔ bt x r = true ∧ selB G v (nm r) = false) := fun r hr => by
          rw [hzb r (by omega), selB_3 h7 h8 h9 hc3 (by omega) hs2 hr]
          constructor
          · rintro ⟨-, b2, b3⟩
            exact ⟨b2, by simpa using b3⟩
          · rintro ⟨b2, b3⟩
            exact ⟨hr, b2, by simpa using b3⟩
        rw [if_pos (by rw [kd]; rfl), cb_t hz2] at hh
        have hb : ((∀ r, r < 27 → bt z r = false) ∧ l_hinders (nI v) x M = hdT (nI v) x M M v) ∨ ∃ r, r < 27 ∧ bt z r = true ∧ (∀ q, q < r → bt z q = false) ∧ l_hinders (nI v) x M = some (1, w3 (w3 M 6 4 (nI (10 * v + 2))) 6 5 (nI (nm r + 1))) := by
          rw [hh]
          refine lq1 (Q := fun o => ((∀ r, r < 27 → bt z r = false) ∧ o = hdT (nI v) x M M v) ∨ ∃ r, r < 27 ∧ bt z r = true ∧ (∀ q, q < r → bt z q = false) ∧ o = some (1, w3 (w3 M 6 4 (nI (10 * v + 2))) 6 5 (nI (nm r + 1)))) (fun d a => ∃ k, k + d = 27 ∧ a = nI k ∧ ∀ q, q < k → bt z q = false) ?_ _ 27 _ (FU_lt (by omega)) ⟨0, by omega, rfl, fun q hq => absurd hq (Nat.not_lt_zero _)⟩
          rintro d a g ⟨k, hk2, rfl, hq⟩ ih
          by_cases h0 : d = 0
          · have e : k = 27 := by omega
            subst e
            rw [if_pos (show (27 : Int32) ≤ nI 27 from by decide)]
            exact Or.inl ⟨hq, rfl⟩
          · rw [if_neg (show ¬ (27 : Int32) ≤ nI k from nI_ge (b := 27) (by omega) (by decide))]
            cases hbz : bt z k
            · rw [if_pos (by rw [bt_f, hbz]), nI_1]
              refine ih (d - 1) _ (by omega) ⟨k + 1, by omega, rfl, fun q hq2 => ?_⟩
              by_cases e : q = k
              · rw [e]; exact hbz
              · exact hq q (by omega)
            · rw [if_neg (by rw [bt_f, hbz]; decide), show (4 : Int32) = nI 4 from rfl, rd_n (by decide) (by decide), lt_d, cb_t (number_n (by omega)), show (5 : Int32) = nI 5 from rfl, rd_n (by decide) (by decide), lt_d, nI_1, show ((10 : Int32) * nI v + 2) = nI (10 * v + 2) from n10c]
              exact Or.inr ⟨k, by omega, hbz, hq, rfl⟩
        rcases ownSel_n (nt := nt) (nv := nv) hS h7 hc6 with ⟨ha, e3⟩ | ⟨i, i1, i2, i3, e3⟩
        · rw [e3, cb_s] at hcd
          have hall : ∀ r, r ∈ ms x → selB G v r = true := fun r hr => by
            obtain ⟨j, hj, rfl⟩ := mem_gl hr
            exact ha j hj
          rcases hb with ⟨-, b2⟩ | ⟨r, b1, b2, -, -⟩
          · rcases hT with ⟨t1, t2, t3⟩ | ⟨z6, -⟩ | ⟨z2, -⟩
            · exact Or.inl ⟨hcd, b2.trans t1, hunl, t2, fun _ => hall, fun z => absurd z n2⟩
            · exact absurd z6 n6
            · exact absurd z2 n2
          · obtain ⟨b3, b4⟩ := (hbad r b1).mp b2
            rw [hall _ ((nm_ms b1).mpr b3)] at b4
            cases b4
        · rw [e3, cb_s, g0, show ((10 : Int32) * nI v + 2) = nI (10 * v + 2) from n10c] at hcd
          obtain ⟨r0, c1, c2, c3⟩ := gl_ms i1
          rw [c3] at i2
          rcases hb with ⟨b1, -⟩ | ⟨r, b1, b2, b3, b4⟩
          · have := (hbad r0 c1).mpr ⟨c2, i2⟩
            rw [b1 r0 c1] at this
            cases this
          · have hrr : r = r0 := by
              rcases Nat.lt_trichotomy r r0 with z | z | z
              · obtain ⟨d1, d2⟩ := (hbad r b1).mp b2
                obtain ⟨j, hj, ej⟩ := at_ms b1 d1
                have hji := (ms_lt hj i1 b1 c1 ej c3).mpr z
                have := i3 j hji
                rw [ej, d2] at this
                cases this
              · exact z
              · have := (hbad r0 c1).mpr ⟨c2, i2⟩
                rw [b3 r0 z] at this
                cases this
            subst hrr
            rw [c3] at hcd
            exact Or.inr ⟨_, _, _, _, hnp 2 (by decide) (by decide), hcd, b4, CR_one b1⟩
      · have n6 : ¬ G v 6 = 6 := fun z => absurd (k6.symm.trans z) (by decide)
        have n2 : ¬ G v 6 = 2 := fun z => absurd (k6.symm.trans z) (by decide)
        have n4 : ¬ G v 6 = 4 := fun z => absurd (k6.symm.trans z) (by decide)
        rw [vd1 k6] at hcd
        unfold d2_seekOwnConflict at hcd
        rw [cb_s] at hcd
        rw [skip (by rw [kd]; decide)]
        rcases hT with ⟨t1, t2, t3⟩ | ⟨z6, -⟩ | ⟨z2, -⟩
        · exact Or.inl ⟨hcd, t1, hunl, t2, fun z => absurd z n4, fun z => absurd z n2⟩
        · exact absurd z6 n6
        · exact absurd z2 n2
      · have n6 : ¬ G v 6 = 6 := fun z => absurd (k6.symm.trans z) (by decide)
        have n4 : ¬ G v 6 = 4 := fun z => absurd (k6.symm.trans z) (by decide)
        rw [vd2 k6] at hcd
        unfold d3_seekOwnConflict at hcd
        rw [skip (by rw [kd]; decide)]
        rcases seekPair_n (G := G) (nt := nt) (nv := nv) (x2 := 3) (ks := G (vr G v) 2) (cs := G (vr G v) 1) hS with ⟨hn3, e3⟩ | ⟨i, j, hF, e3⟩
        · rw [e3, cb_s, cb_s] at hcd
          rcases hT with ⟨t1, t2, t3⟩ | ⟨z6, -⟩ | ⟨-, i, j, hF, -⟩
          · exact Or.inl ⟨hcd, t1, hunl, t2, fun z => absurd z n4, fun _ => noP_pt hn3⟩
          · exact absurd z6 n6
          · exact absurd hF.2.2.1 (hn3 i j hF.1 hF.2.1)
        · rcases hT with ⟨t1, t2, t3⟩ | ⟨z6, -⟩ | ⟨-, i', j', hF2, M', t3, t4⟩
          · exact absurd hF.2.2.1 (t3 k6 i j hF.1 hF.2.1)
          · exact absurd z6 n6
          · obtain ⟨rfl, rfl⟩ := FP_uniq hF hF2
            rw [e3, cb_s, cb_s, g0, show ((10 : Int32) * nI v + 3) = nI (10 * v + 3) from n10c] at hcd
            exact Or.inr ⟨_, _, _, M', hnp 3 (by decide) (by decide), hcd, t3, t4⟩
    · exact absurd hF2.2.2.1 ((noP_cg hAB hn) i' j' hF2.1 hF2.2.1)
  · rcases twins_n (M := M) (x := x) (ks := G v 2) (cs := 7) (its := 1) hv10 with ⟨hn2, -⟩ | ⟨i', j', hF2, r, q, hr27, hq27, ei, ej, e2⟩
    · exact absurd (FP_cg hAB hF).2.2.1 (hn2 i j hF.1 hF.2.1)
    · obtain ⟨rfl, rfl⟩ := FP_uniq (FP_cg hAB hF) hF2
      have hz2 : ¬ (apC S (10 * G v 0 + 1) (nI (gl (ms x) i')) (nI (gl (ms x) j'))).1 46 = 0 := by
        rw [apC_46, g0, show ((10 : Int32) * nI v + 1) = nI (10 * v + 1) from n10c]
        exact hnz 1 (by decide) (by decide)
      have hcd : d9_seekConflict G nt nv v S = some (apC S (nI (10 * v + 1)) (nI (gl (ms x) i')) (nI (gl (ms x) j'))) := by
        unfold d9_seekConflict
        rw [e1, cb_s, told1 hz2, cb_s, if_neg z10, g0, show ((10 : Int32) * nI v + 1) = nI (10 * v + 1) from n10c]
      rw [cb2_t (show l_twins (nI v) 1 x (G v 2) 7 M = some (1, _) from e2), if_neg (by decide)] at hh
      refine Or.inr ⟨_, _, _, _, hnp 1 (by decide) (by decide), hcd, hh, ?_⟩
      rw [ei, ej]
      exact CR_two hr27 hq27
