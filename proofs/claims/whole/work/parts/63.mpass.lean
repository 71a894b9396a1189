/-! ===== the reference passes on what is wanted ===== -/
def FrP (v : Nat) (M M' : St) : Prop := M'.1 = M.1 ∧ (∀ k, k ≠ 20 → k ≠ 19 → k ≠ 35 → M'.2 k = M.2 k) ∧ (∀ j, j ≠ v → M'.2 19 j = M.2 19 j) ∧ ∀ j, (j < 40 * v ∨ 40 * v + 40 ≤ j) → M'.2 20 j = M.2 20 j
theorem FrP.rf {v : Nat} {M : St} : FrP v M M := ⟨rfl, fun _ _ _ _ => rfl, fun _ _ => rfl, fun _ _ => rfl⟩
theorem FrP.tr {v : Nat} {M M1 M2 : St} (h1 : FrP v M M1) (h2 : FrP v M1 M2) : FrP v M M2 := ⟨h2.1.trans h1.1, fun k a b c => (h2.2.1 k a b c).trans (h1.2.1 k a b c), fun j hj => (h2.2.2.1 j hj).trans (h1.2.2.1 j hj), fun j hj => (h2.2.2.2 j hj).trans (h1.2.2.2 j hj)⟩
theorem FrV.P {v : Nat} {M M' : St} (h : FrV 20 19 v M M') : FrP v M M' := ⟨h.1, fun k a b _ => h.2.1 k a b, h.2.2.1, h.2.2.2⟩
theorem FrP.vm {v u : Nat} {M M' : St} {l : List Nat} (hF : FrP v M M') (h : Vm M 20 19 u l) (hne : u ≠ v) : Vm M' 20 19 u l := by
  refine ⟨(hF.2.2.1 u hne).trans h.1, fun j hj => ?_, h.2.2⟩
  have h4 := h.2.2.2
  rw [hF.2.2.2 _ (by omega)]
  exact h.2.1 j hj
theorem FrP.vs {v u : Nat} {M M' : St} {l : List Nat} (hF : FrP v M M') (h : Vm M 18 17 u l) : Vm M' 18 17 u l := by
  refine ⟨by rw [hF.2.1 17 (by decide) (by decide) (by decide)]; exact h.1, by rw [hF.2.1 18 (by decide) (by decide) (by decide)]; exact h.2.1, h.2.2⟩
theorem FrP.pw {v : Nat} {M M' : St} (hF : FrP v M M') (h : PW M) : PW M' := fun c hc => by rw [hF.2.1 1 (by decide) (by decide) (by decide)]; exact h c hc
theorem FrP.km {v u : Nat} {G : Gt} {M M' : St} (hF : FrP v M M') (h : KM G M u) : KM G M' u := KM_fr h fun k a b => hF.2.1 k (by omega) (by omega) (by omega)
theorem putsRow_n {M : St} {v r : Nat} {l : List Nat} (h : Vm M 20 19 v l) (hv : v < 10) (hr : r < 1000000) (hc : r ∈ l ∨ l.length < 40) : ∃ M', m_putsRow (nI v) (nI r) M = some M' ∧ Vm M' 20 19 v (insR r l) ∧ FrP v M M' := by
  obtain ⟨M1, e1, s1, f1⟩ := layV_n h rfl (by decide) hv hr hc
  unfold m_putsRow
  rw [rd_n hv (by decide), h.1, e1, cb2_s, rd_n hv (by decide), lt_d]
  exact ⟨_, rfl, s1, f1.P⟩
theorem rowV_n {M : St} (hP : PW M) {a c v p : Nat} {l : List Nat} {s : Int32} (h : Vm M a c v l) (ha : mlen a = 400) (hv : v < 10) (hp : p < 2 ^ 31) : m_rowWith a (40 * nI v) (nI l.length) s (nI p) M = some (oN (fnd s p l)) := by
  have h4 := h.2.2.2
  rw [n40]
  exact rowWith_n hP h.2.1 h.2.2.1 ha (Nat.le_refl _) (by omega) hp
theorem pt31 {s : Int32} {r : Nat} : pt s r < 2 ^ 31 := Nat.lt_of_lt_of_le (pt_lt s r) (by decide)
theorem oN_free {k : Int32} {l : List Nat} {r : Nat} (hok : okL l) : (oN (fnd k (pt k r) l) = -1 ∧ free k l r = true) ∨ (¬ oN (fnd k (pt k r) l) = -1 ∧ ¬ free k l r = true) := by
  unfold free
  cases hf : fnd k (pt k r) l with
  | none => exact Or.inl ⟨rfl, rfl⟩
  | some q => exact Or.inr ⟨nm1 (Nat.lt_of_lt_of_le (hok q (fnd_mem hf).1) (by decide)), by simp⟩
theorem isFree_n {M : St} (hP : PW M) {G : Gt} {v r : Nat} {l : List Nat} (h : Vm M 20 19 v l) (h15 : M.2 15 v = G v 2) (hv : v < 10) (hr : r < 2 ^ 31) : m_isFree (nI v) (nI r) M = some (if free (G v 2) l r = true then 1 else 0) := by
  unfold m_isFree
  rw [rd_n hv (by decide), rd_n hv (by decide), rd_n hv (by decide), h15, mpart_n hP hr, cb_s, h.1, rowV_n hP h rfl hv pt31, cb_s]
  rcases oN_free (k := G v 2) (r := r) h.2.2.1 with ⟨a, b⟩ | ⟨a, b⟩
  · rw [if_pos a, if_pos b]
  · rw [if_neg a, if_neg b]
theorem clrP {M : St} {v : Nat} : FrP v M (w2 M 19 v 0) ∧ Vm (w2 M 19 v 0) 20 19 v [] := by
  obtain ⟨a, b⟩ := clrV (M := M) (a := 20) (c := 19) (v := v) (by decide)
  exact ⟨a.P, b⟩
theorem filt_fold {f : List Nat → Nat → List Nat} {p : Nat → Bool} (hf : ∀ acc r, f acc r = if p r = true then insR r acc else acc) : ∀ {L acc : List Nat}, L.foldl f acc = (L.filter p).foldl (fun acc r => insR r acc) acc := by
  intro L
  induction L with
  | nil => intro acc; rfl
  | cons a t ih =>
    intro acc
    rw [List.foldl_cons, hf]
    by_cases h : p a = true
    · rw [if_pos h, List.filter_cons_of_pos h, List.foldl_cons, ih]
    · rw [if_neg h, List.filter_cons_of_neg h, ih]
theorem mdrop_n {M : St} {G : Gt} {v : Nat} {l V : List Nat} (hP : PW M) (hK : KM G M v) (hA : GA G v) (k6 : G v 6 = 1) (h4 : G v 4 = nI (vl G v)) (hv : v < 10) (hlv : vl G v < v) (h : Vm M 20 19 v l) (hV : Vm M 18 17 (vl G v) V) (hl : l.length ≤ 32) (hval : ∀ r, r ∈ l → pt (G v 1) r = r) : ∃ M', m_putsOne (nI v) M = some M' ∧ Vm M' 20 19 (vl G v) (paD G V v l) ∧ FrP (vl G v) M M' := by
  obtain ⟨c, w, hc, hw, h7, h8, e7, e8, hbc, hs⟩ := drop_f hA k6
  obtain ⟨q14, q15, q16, q⟩ := hK
  obtain ⟨m8, m9, m11, m12⟩ : M.2 8 v = 2 ∧ M.2 9 v = G v 4 ∧ M.2 11 v = G v 7 ∧ M.2 12 v = G v 8 := by
    rcases q with z | z | z | z
    · exact absurd (k6.symm.trans z.1) (by decide)
    · exact absurd (k6.symm.trans z.1) (by decide)
    · exact z.2
    · exact absurd (k6.symm.trans z.1) (by decide)
  obtain ⟨c1, c2⟩ := clrP (M := M) (v := vl G v)
  unfold m_putsOne paD
  rw [rd_n hv (by decide), m9, h4, rd_n (by omega) (by decide), lt_d]
  refine lq2 (Q := fun x => ∃ M', x = some M' ∧ Vm M' 20 19 (vl G v) (l.foldl (fun acc r => insR (hid G V v r) acc) []) ∧ FrP (vl G v) M M') (fun d (a : Int32) (T : St) => ∃ k, k + d = l.length ∧ a = nI k ∧ Vm T 20 19 (vl G v) ((l.take k).foldl (fun acc r => insR (hid G V v r) acc) []) ∧ FrP (vl G v) M T) ?_ _ l.length _ _ (FU_lt (by omega)) ⟨0, by omega, rfl, c2, c1⟩
  rintro d a T g ⟨k, hk, rfl, hT, hF⟩ ih
  have hTP := hF.pw hP
  have ev := fun k (a : k ≠ 20) (b : k ≠ 19) (c : k ≠ 35) => hF.2.1 k a b c
  have hTl := hF.vm h (by omega)
  have hTV := hF.vs hV
  rw [rd_n hv (by decide), hTl.1]
  by_cases h0 : d = 0
  · have hkl : k = l.length := by omega
    rw [if_pos (nI_le (by omega) (by omega))]
    rw [hkl, List.take_length] at hT
    refine lq2 (Q := fun x => ∃ M', x = some M' ∧ Vm M' 20 19 (vl G v) (l.foldl (fun acc r => insR (hid G V v r) acc) []) ∧ FrP (vl G v) M M') (fun d (a : Int32) (U : St) => a = 0 ∧ U = T) ?_ _ 0 _ _ (FU_lt (by omega)) ⟨rfl, rfl⟩
    rintro d2 a U g2 ⟨rfl, rfl⟩ -
    rw [rd_n (by omega) (by decide)]
    by_cases hz : U.2 17 (vl G v) ≤ 0
    · rw [if_pos hz]
      exact ⟨U, rfl, hT, hF⟩
    · rw [if_neg hz, rd_n hv (by decide), if_neg (show ¬ U.2 8 v = 1 by rw [ev 8 (by decide) (by decide) (by decide), m8]; decide)]
      exact ⟨U, rfl, hT, hF⟩
  · have hkl : k < l.length := by omega
    have hrk := h.2.2.1 _ (gl_mem hkl)
    have hrv := hval _ (gl_mem hkl)
    have hle := fold_le (f := fun acc r => insR (hid G V v r) acc) (fun _ _ => insR_le) (l.take k) []
    rw [List.length_take, List.length_nil] at hle
    have hhid : hid G V v (gl l k) < 1000000 := by
      unfold hid
      rw [e7]
      exact sd_lt hrk hc (hvn_lt hA k6)
    have e20 : T.2 20 (40 * v + k) = nI (gl l k) := hTl.2.1 k hkl
    have hd0 : dg (gl l k) c = 0 := val_0 hrv hc (by rw [hs c hc, hbc, decide_eq_true rfl]; rfl)
    have heq : gl l k + hvn G V v (gl l k) * 10 ^ c = hid G V v (gl l k) := by
      unfold hid sd
      rw [e7, hd0, Nat.zero_mul, Nat.sub_zero]
    have hval2 : ∀ (b : Nat), b = hvn G V v (gl l k) → nI (gl l k) + nI b * T.2 1 c = nI (hid G V v (gl l k)) := by
      intro b hb
      rw [hTP c hc, pk_mul, nI_add, hb, heq]
    obtain ⟨T2, e2, h2, f2⟩ := putsRow_n hT (by omega) hhid (Or.inr (by omega))
    have hgo : ∃ M', (cb (m_putsRow (nI (vl G v)) (nI (hid G V v (gl l k))) T) fun (S38 : St) => g (nI k + 1) S38) = some M' ∧ Vm M' 20 19 (vl G v) (l.foldl (fun acc r => insR (hid G V v r) acc) []) ∧ FrP (vl G v) M M' := by
      rw [e2, cb_s, nI_1]
      refine ih (d - 1) _ _ (by omega) ⟨k + 1, by omega, rfl, ?_, hF.tr f2⟩
      rw [fold_take (f := fun acc r => insR (hid G V v r) acc) hkl]
      exact h2
    rw [if_neg (nI_ge hkl (by omega)), n40, nI_add, rd_n (by omega) (by decide), rd_n hv (by decide), jn_d, if_pos (show T.2 8 v = 2 by rw [ev 8 (by decide) (by decide) (by decide), m8]), rd_n (show vl G v < 10 by omega) (by decide), rd_n hv (by decide), rd_n hv (by decide), e20, ev 15 (by decide) (by decide) (by decide), q15, mpart_n hTP (by omega), cb_s, hTV.1, rowV_n hTP hTV rfl (by omega) pt31, cb_s, jn_d]
    cases hf : fnd (G v 2) (pt (G v 2) (gl l k)) V with
    | none =>
      have hh : w = hvn G V v (gl l k) := by
        unfold hvn
        rw [hf]
        exact e8.symm
      rw [if_pos (show oN none = -1 from rfl), rd_n hv (by decide), ev 12 (by decide) (by decide) (by decide), m12, h8]
      dsimp only
      rw [rd_n hv (by decide), ev 11 (by decide) (by decide) (by decide), m11, h7, rd_n (by omega) (by decide), hval2 w hh]
      exact hgo
    | some q =>
      have hq31 : q < 2 ^ 31 := Nat.lt_of_lt_of_le (hV.2.2.1 q (fnd_mem hf).1) (by decide)
      have hh : dg q c = hvn G V v (gl l k) := by
        unfold hvn
        rw [hf]
        dsimp only
        rw [e7]
      rw [if_neg (show ¬ oN (some q) = -1 from nm1 hq31), rd_n hv (by decide), ev 11 (by decide) (by decide) (by decide), m11, h7, show oN (some q) = nI q from rfl, mdigit_n hTP hq31 hc, cb_s]
      dsimp only
      rw [rd_n hv (by decide), m11, h7, rd_n (by omega) (by decide), hval2 _ hh]
      exact hgo
theorem msel2_n {M : St} {G : Gt} {v : Nat} {l V : List Nat} (hP : PW M) (hK : KM G M v) (hA : GA G v) (k6 : G v 6 = 4) (h4 : G v 4 = nI (vl G v)) (hv : v < 10) (hlv : vl G v < v) (h : Vm M 20 19 v l) (hV : Vm M 18 17 (vl G v) V) (hC : okC V l) : ∃ M', m_putsOne (nI v) M = some M' ∧ Vm M' 20 19 (vl G v) (paS G V v l) ∧ FrP (vl G v) M M' := by
  have hV12 := hC.1
  have hl := hC.len
  obtain ⟨-, -, -, ⟨c, hc6, hc7, -⟩, -⟩ := hA.2.1 k6
  obtain ⟨q14, q15, q16, q⟩ := hK
  obtain ⟨m8, m9, m11, m12, m13⟩ : M.2 8 v = 1 ∧ M.2 9 v = G v 4 ∧ M.2 11 v = G v 7 ∧ M.2 12 v = G v 8 ∧ M.2 13 v = G v 9 := by
    rcases q with z | z | z | z
    · exact absurd (k6.symm.trans z.1) (by decide)
    · exact z.2
    · exact absurd (k6.symm.trans z.1) (by decide)
    · exact absurd (k6.symm.trans z.1) (by decide)
  obtain ⟨c1, c2⟩ := clrP (M := M) (v := vl G v)
  have hfs := fold_srt hC.2.1
  unfold m_putsOne paS
  rw [rd_n hv (by decide), m9, h4, rd_n (by omega) (by decide), lt_d]
  refine lq2 (Q := fun x => ∃ M', x = some M' ∧ Vm M' 20 19 (vl G v) (V.foldl (adS G v l) l) ∧ FrP (vl G v) M M') (fun d (a : Int32) (T : St) => ∃ k, k + d = l.length ∧ a = nI k ∧ Vm T 20 19 (vl G v) ((l.take k).foldl (fun acc r => insR r acc) []) ∧ FrP (vl G v) M T) ?_ _ l.length _ _ (FU_lt (by omega)) ⟨0, by omega, rfl, c2, c1⟩
  rintro d a T g ⟨k, hk, rfl, hT, hF⟩ ih
  have hTl := hF.vm h (by omega)
  rw [rd_n hv (by decide), hTl.1]
  by_cases h0 : d = 0
  · have hkl : k = l.length := by omega
    rw [if_pos (nI_le (by omega) (by omega))]
    rw [hkl, List.take_length, hfs] at hT
    refine lq2 (Q := fun x => ∃ M', x = some M' ∧ Vm M' 20 19 (vl G v) (V.foldl (adS G v l) l) ∧ FrP (vl G v) M M') (fun d (a : Int32) (U : St) => ∃ i, i + d = V.length ∧ a = nI i ∧ Vm U 20 19 (vl G v) ((V.take i).foldl (adS G v l) l) ∧ FrP (vl G v) M U) ?_ _ V.length _ _ (FU_lt (by omega)) ⟨0, by omega, rfl, hT, hF⟩
    rintro d2 a U g2 ⟨i, hi, rfl, hU, hFU⟩ ih2
    have hUP := hFU.pw hP
    have ev := fun k (a : k ≠ 20) (b : k ≠ 19) (c : k ≠ 35) => hFU.2.1 k a b c
    have hUl := hFU.vm h (by omega)
    have hUV := hFU.vs hV
    rw [rd_n (by omega) (by decide), hUV.1]
    by_cases h1 : d2 = 0
    · have hil : i = V.length := by omega
      rw [if_pos (nI_le (by omega) (by omega))]
      rw [hil, List.take_length] at hU
      exact ⟨U, rfl, hU, hFU⟩
    · have hil : i < V.length := by omega
      have hrk := hV.2.2.1 _ (gl_mem hil)
      have ft := fold_takeA (f := adS G v l) (acc := l) hil
      have hok := pre_okC (f := adS G v l) adS_or hC (i + 1)
      rw [ft] at hok
      have e18 : U.2 18 (40 * vl G v + i) = nI (gl V i) := hUV.2.1 i hil
      rw [if_neg (nI_ge hil (by omega)), rd_n hv (by decide), if_pos (show U.2 8 v = 1 by rw [ev 8 (by decide) (by decide) (by decide), m8]), n40, nI_add, rd_n (by omega) (by decide), e18, msel_n hUP hv hc7 hc6 (by omega) ((by rw [ev 11 (by decide) (by decide) (by decide), m11])) (by rw [ev 12 (by decide) (by decide) (by decide), m12]) (by rw [ev 13 (by decide) (by decide) (by decide), m13]), cb_s]
      by_cases hsel : selB G v (gl V i) = true
      · have e : ∀ acc, adS G v l acc (gl V i) = acc := fun acc => if_neg (fun z => by rw [hsel] at z; cases z.1)
        rw [if_pos hsel, if_neg z10, nI_1]
        refine ih2 (d2 - 1) _ _ (by omega) ⟨i + 1, by omega, rfl, ?_, hFU⟩
        rw [ft, e]
        exact hU
      · have hsel2 : selB G v (gl V i) = false := by cases z : selB G v (gl V i) <;> simp_all
        rw [if_neg hsel, if_pos z00, isFree_n hUP hUl (by rw [ev 15 (by decide) (by decide) (by decide), q15]) hv (by omega), cb_s]
        by_cases hfr : free (G v 2) l (gl V i) = true
        · have e : ∀ acc, adS G v l acc (gl V i) = insR (gl V i) acc := fun acc => if_pos ⟨hsel2, hfr⟩
          rw [if_pos hfr, if_neg z10]
          rw [e] at hok
          obtain ⟨U2, e2, h2, f2⟩ := putsRow_n hU (by omega) hrk (hok.room.imp id (by omega))
          rw [e2, cb_s, nI_1]
          refine ih2 (d2 - 1) _ _ (by omega) ⟨i + 1, by omega, rfl, ?_, hFU.tr f2⟩
          rw [ft, e]
          exact h2
        · have e : ∀ acc, adS G v l acc (gl V i) = acc := fun acc => if_neg (fun z => hfr z.2)
          rw [if_neg hfr, if_pos z00, nI_1]
          refine ih2 (d2 - 1) _ _ (by omega) ⟨i + 1, by omega, rfl, ?_, hFU⟩
          rw [ft, e]
          exact hU
  · have hkl : k < l.length := by omega
    have hrk := h.2.2.1 _ (gl_mem hkl)
    have hle := fold_le (f := fun acc r => insR r acc) (fun _ _ => insR_le) (l.take k) []
    rw [List.length_take, List.length_nil] at hle
    have e20 : T.2 20 (40 * v + k) = nI (gl l k) := hTl.2.1 k hkl
    obtain ⟨T2, e2, h2, f2⟩ := putsRow_n hT (by omega) hrk (Or.inr (by omega))
    rw [if_neg (nI_ge hkl (by omega)), n40, nI_add, rd_n (by omega) (by decide), rd_n hv (by decide), jn_d, if_neg (show ¬ T.2 8 v = 2 by rw [hF.2.1 8 (by decide) (by decide) (by decide), m8]; decide), e20]
    dsimp only
    rw [e2, cb_s, nI_1]
    refine ih (d - 1) _ _ (by omega) ⟨k + 1, by omega, rfl, ?_, hF.tr f2⟩
    rw [fold_take (f := fun acc r => insR r acc) hkl]
    exact h2
