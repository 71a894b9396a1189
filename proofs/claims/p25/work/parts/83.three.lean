/-! ===== p25: rows of three columns, numbers below 27; sets of them as bits ===== -/
def nm (r : Nat) : Nat := r % 3 + 10 * (r / 3 % 3) + 100 * (r / 9)
def d3 (r c : Nat) : Nat := if c = 0 then r % 3 else if c = 1 then r / 3 % 3 else r / 9
def p3 (s : Int32) (r : Nat) : Nat := (if bt s 0 = true then r % 3 else 0) + (if bt s 1 = true then r / 3 % 3 * 3 else 0) + (if bt s 2 = true then r / 9 * 9 else 0)
theorem dg_nm : ∀ r, r < 27 → ∀ j, j < 6 → dg (nm r) j = if j < 3 then d3 r j else 0 := by decide +kernel
theorem nm_lt {r : Nat} (h : r < 27) : nm r < 1000 := by unfold nm; omega
theorem nm_ok {r : Nat} (h : r < 27) : nm r < 1000000 := Nat.lt_trans (nm_lt h) (by decide)
theorem nm_mono : ∀ q, q < 27 → ∀ r, r < q → nm r < nm q := by decide +kernel
theorem nm_inj {r q : Nat} (hr : r < 27) (hq : q < 27) (h : nm r = nm q) : r = q := by
  rcases Nat.lt_trichotomy r q with z | z | z
  · exact absurd h (Nat.ne_of_lt (nm_mono q hq r z))
  · exact z
  · exact absurd h.symm (Nat.ne_of_lt (nm_mono r hr q z))
theorem p3_lt {s : Int32} {r : Nat} (h : r < 27) : p3 s r < 27 := by
  unfold p3
  cases bt s 0 <;> cases bt s 1 <;> cases bt s 2 <;> simp <;> omega
theorem d3_p3 {s : Int32} {r j : Nat} (h : r < 27) (hj : j < 3) : d3 (p3 s r) j = if bt s j = true then d3 r j else 0 := by
  have z : j = 0 ∨ j = 1 ∨ j = 2 := by omega
  unfold d3 p3
  rcases z with rfl | rfl | rfl <;> cases bt s 0 <;> cases bt s 1 <;> cases bt s 2 <;> simp <;> omega
theorem pt_nm {s : Int32} {r : Nat} (h : r < 27) : pt s (nm r) = nm (p3 s r) := by
  refine dg_ext (pt_lt s _) (nm_ok (p3_lt h)) fun j hj => ?_
  rw [dg_pt hj, dg_nm r h j hj, dg_nm _ (p3_lt h) j hj]
  by_cases h3 : j < 3
  · rw [if_pos h3, if_pos h3, d3_p3 h h3]
  · rw [if_neg h3, if_neg h3]
    split <;> rfl
theorem p3_pt {s : Int32} {r q : Nat} (hr : r < 27) (hq : q < 27) : p3 s r = p3 s q ↔ pt s (nm r) = pt s (nm q) := by
  rw [pt_nm hr, pt_nm hq]
  exact ⟨fun z => by rw [z], fun z => nm_inj (p3_lt hr) (p3_lt hq) z⟩
theorem p3_val {s : Int32} {r : Nat} (hr : r < 27) : p3 s r = r ↔ pt s (nm r) = nm r := by
  rw [pt_nm hr]
  exact ⟨fun z => by rw [z], fun z => nm_inj (p3_lt hr) hr z⟩
/-! the law's small methods -/
theorem rem3 {a : Nat} (h : a < 2 ^ 31) : nI a - nI a / 3 * 3 = nI (a % 3) := pk_rem h (by decide) (by decide)
theorem div3 {a : Nat} (h : a < 2 ^ 31) : nI a / 3 = nI (a / 3) := pk_div (d := 3) h (by decide) (by decide)
theorem div9 {a : Nat} (h : a < 2 ^ 31) : nI a / 9 = nI (a / 9) := pk_div (d := 9) h (by decide) (by decide)
theorem number_n {r : Nat} (h : r < 27) : l_number (nI r) = some (nI (nm r)) := by
  unfold l_number
  rw [rem3 (by omega), div3 (by omega), rem3 (by omega), div9 (by omega), show (10 : Int32) = nI 10 from rfl, show (100 : Int32) = nI 100 from rfl, pk_mul, pk_mul, nI_add, nI_add]
  rfl
theorem digit3_n {r c : Nat} (h : r < 27) (hc : c < 3) : l_digit (nI r) (nI c) = some (nI (d3 r c)) := by
  have z : c = 0 ∨ c = 1 ∨ c = 2 := by omega
  unfold l_digit d3
  rcases z with rfl | rfl | rfl
  · rw [if_pos (show nI 0 = 0 from rfl), rem3 (by omega)]
    rfl
  · rw [if_neg (show ¬ nI 1 = 0 by decide), if_pos (show nI 1 = 1 from rfl), div3 (by omega), rem3 (by omega)]
    rfl
  · rw [if_neg (show ¬ nI 2 = 0 by decide), if_neg (show ¬ nI 2 = 1 by decide), div9 (by omega)]
    rfl
theorem unit_n {c : Nat} (hc : c < 3) : l_unit (nI c) = some (nI (3 ^ c)) := by
  have z : c = 0 ∨ c = 1 ∨ c = 2 := by omega
  unfold l_unit
  rcases z with rfl | rfl | rfl <;> rfl
def q3 (s : Int32) (r : Nat) : Nat → Nat
  | 0 => 0
  | c + 1 => q3 s r c + (if bt s c = true then d3 r c * 3 ^ c else 0)
theorem q3_p3 {s : Int32} {r : Nat} : q3 s r 3 = p3 s r := by
  unfold q3 q3 q3 q3 p3 d3
  simp
theorem part3_n {s : Int32} {r : Nat} (h : r < 27) : l_part (nI r) s = some (nI (p3 s r)) := by
  unfold l_part
  refine lq2 (Q := fun x => x = some (nI (p3 s r))) (fun d a b => ∃ c, c + d = 3 ∧ a = nI (q3 s r c) ∧ b = nI c) ?_ _ 3 _ _ (FU_lt (by omega)) ⟨0, rfl, rfl, rfl⟩
  rintro d a b g ⟨c, hc, rfl, rfl⟩ ih
  by_cases hd : d = 0
  · have e : c = 3 := by omega
    subst e
    rw [if_pos (show (3 : Int32) ≤ nI 3 from by decide), q3_p3]
  · rw [if_neg (show ¬ (3 : Int32) ≤ nI c from nI_ge (b := 3) (by omega) (by decide)), jn_d]
    have e3 : q3 s r (c + 1) = q3 s r c + (if bt s c = true then d3 r c * 3 ^ c else 0) := rfl
    cases hb : bt s c
    · have hb2 : ¬ ((s >>> (nI c &&& 31)) &&& 1) = 1 := by
        unfold bt at hb
        exact of_decide_eq_false hb
      rw [if_neg hb2, nI_1, show (0 : Int32) = nI 0 from rfl]
      dsimp only
      rw [nI_add]
      refine ih (d - 1) _ _ (by omega) ⟨c + 1, by omega, ?_, rfl⟩
      rw [e3, hb]
      rfl
    · have hb2 : ((s >>> (nI c &&& 31)) &&& 1) = 1 := by
        unfold bt at hb
        exact of_decide_eq_true hb
      rw [if_pos hb2, digit3_n h (by omega), cb_s, unit_n (by omega), cb_s, pk_mul, nI_1]
      dsimp only
      rw [nI_add]
      refine ih (d - 1) _ _ (by omega) ⟨c + 1, by omega, ?_, rfl⟩
      rw [e3, hb]
      rfl
/-! sets -/
theorem b01 (s : Int32) (c : Nat) : ((s >>> (nI c &&& 31)) &&& 1) = if bt s c = true then 1 else 0 := by
  obtain ⟨j, hj, e⟩ := pk_andE (s >>> (nI c &&& 31)) (m := 1) 1 (by decide)
  unfold bt
  rw [e]
  have z : j = 0 ∨ j = 1 := by omega
  rcases z with rfl | rfl <;> decide
theorem bt_t {s : Int32} {c : Nat} : ((s >>> (nI c &&& 31)) &&& 1) = 1 ↔ bt s c = true := by
  unfold bt
  exact decide_eq_true_iff.symm
theorem bt_f {s : Int32} {c : Nat} : ((s >>> (nI c &&& 31)) &&& 1) = 0 ↔ bt s c = false := by
  rw [b01]
  cases bt s c <;> decide
theorem bt_b1 {s : Int32} {c z i : Nat} (hz : z < 32) (hi : i < 32) : bt (((s >>> (nI c &&& 31)) &&& 1) <<< (nI z &&& 31)) i = (bt s c && decide (i = z)) := by
  rw [b01]
  cases bt s c
  · rw [if_neg (by decide), bt_bq hi, bq_shl z hz 0 hi, bq_0]
    simp
  · rw [if_pos rfl, bt_one hz hi]
    simp
theorem bt_set {x : Int32} {k i : Nat} (hk : k < 32) (hi : i < 32) : bt (x ||| ((1 : Int32) <<< (nI k &&& 31))) i = (bt x i || decide (i = k)) := by rw [bt_or hi, bt_one hk hi]
theorem bt_clr {x : Int32} {k i : Nat} (hk : k < 32) (hi : i < 32) : bt (x &&& (((1 : Int32) <<< (nI k &&& 31)) ^^^ (-1))) i = (bt x i && !decide (i = k)) := by rw [bt_and hi, bt_not hi, bt_one hk hi]
theorem bt_pick {x : Int32} {k i : Nat} (hk : k < 32) (hi : i < 32) : bt (x &&& ((1 : Int32) <<< (nI k &&& 31))) i = (bt x k && decide (i = k)) := by
  rw [bt_and hi, bt_one hk hi]
  by_cases h : i = k
  · subst h
    rfl
  · rw [decide_eq_false h, Bool.and_false, Bool.and_false]
theorem bt_ext {x y : Int32} (h : ∀ i, i < 32 → bt x i = bt y i) : x = y := bq_ext fun i hi => by rw [← bt_bq hi, ← bt_bq hi]; exact h i hi
def okS (x : Int32) : Prop := ∀ i, 27 ≤ i → i < 32 → bt x i = false
theorem okS_0 : okS 0 := fun i _ hi => bt_0 hi
def ms (x : Int32) : List Nat := ((List.range 27).filter (fun r => bt x r)).map nm
def cnt (x : Int32) : Nat := ((List.range 27).filter (fun r => bt x r)).length
theorem mem_ms {x : Int32} {a : Nat} : a ∈ ms x ↔ ∃ r, r < 27 ∧ bt x r = true ∧ a = nm r := by
  unfold ms
  rw [List.mem_map]
  constructor
  · rintro ⟨r, hr, rfl⟩
    rw [List.mem_filter, List.mem_range] at hr
    exact ⟨r, hr.1, hr.2, rfl⟩
  · rintro ⟨r, h1, h2, rfl⟩
    exact ⟨r, List.mem_filter.mpr ⟨List.mem_range.mpr h1, h2⟩, rfl⟩
theorem nm_ms {x : Int32} {r : Nat} (hr : r < 27) : nm r ∈ ms x ↔ bt x r = true := by
  rw [mem_ms]
  constructor
  · rintro ⟨q, h1, h2, h3⟩
    rw [nm_inj hr h1 h3]
    exact h2
  · intro h
    exact ⟨r, hr, h, rfl⟩
theorem ms_srt (x : Int32) : Srt (ms x) := by
  refine pw_Srt ?_
  unfold ms
  rw [List.pairwise_map]
  refine List.Pairwise.imp_of_mem (R := fun a b => a < b) ?_ ((List.pairwise_lt_range (n := 27)).filter _)
  intro a b _ hb hab
  rw [List.mem_filter, List.mem_range] at hb
  exact nm_mono b hb.1 a hab
theorem ms_ok (x : Int32) : okL (ms x) := by
  intro a ha
  obtain ⟨r, h1, -, rfl⟩ := mem_ms.mp ha
  exact nm_ok h1
theorem ms_len (x : Int32) : (ms x).length = cnt x := by
  unfold ms cnt
  rw [List.length_map]
theorem cnt_le (x : Int32) : cnt x ≤ 27 := by
  have h := List.length_filter_le (fun r => bt x r) (List.range 27)
  rw [List.length_range] at h
  exact h
theorem ms_ext {x y : Int32} (hx : okS x) (hy : okS y) (h : ms x = ms y) : x = y := by
  refine bt_ext fun i hi => ?_
  by_cases h27 : i < 27
  · have h1 : bt x i = true ↔ bt y i = true := by rw [← nm_ms h27, ← nm_ms h27, h]
    cases h2 : bt x i <;> cases h3 : bt y i <;> simp_all
  · rw [hx i (by omega) hi, hy i (by omega) hi]
theorem ms_0 : ms 0 = [] := by
  unfold ms
  rw [List.filter_eq_nil_iff.mpr]
  · rfl
  · intro r hr
    rw [List.mem_range] at hr
    rw [bt_0 (by omega)]
    exact Bool.false_ne_true
theorem ex_succ {P : Nat → Prop} {k : Nat} : (∃ r, r < k + 1 ∧ P r) ↔ (∃ r, r < k ∧ P r) ∨ P k := by
  constructor
  · rintro ⟨r, h1, h2⟩
    by_cases h : r = k
    · subst h
      exact Or.inr h2
    · exact Or.inl ⟨r, by omega, h2⟩
  · rintro (⟨r, h1, h2⟩ | h)
    · exact ⟨r, by omega, h2⟩
    · exact ⟨k, by omega, h⟩
theorem parts_n (x s : Int32) : ∃ z, l_parts x s = some z ∧ ∀ i, i < 32 → (bt z i = true ↔ ∃ r, r < 27 ∧ bt x r = true ∧ p3 s r = i) := by
  unfold l_parts
  refine lq2 (Q := fun o => ∃ z, o = some z ∧ ∀ i, i < 32 → (bt z i = true ↔ ∃ r, r < 27 ∧ bt x r = true ∧ p3 s r = i)) (fun d a b => ∃ k, k + d = 27 ∧ b = nI k ∧ ∀ i, i < 32 → (bt a i = true ↔ ∃ r, r < k ∧ bt x r = true ∧ p3 s r = i)) ?_ _ 27 _ _ (FU_lt (by omega)) ⟨0, by omega, rfl, fun i hi => ?_⟩
  · rintro d a b g ⟨k, hk, rfl, ha⟩ ih
    by_cases h : d = 0
    · have e : k = 27 := by omega
      subst e
      rw [if_pos (show (27 : Int32) ≤ nI 27 from by decide)]
      exact ⟨a, rfl, ha⟩
    · rw [if_neg (show ¬ (27 : Int32) ≤ nI k from nI_ge (b := 27) (by omega) (by decide)), part3_n (by omega), cb_s, lt_d, nI_1]
      refine ih (d - 1) _ _ (by omega) ⟨k + 1, by omega, rfl, fun i hi => ?_⟩
      have h27 := p3_lt (s := s) (r := k) (by omega)
      rw [bt_or hi, bt_b1 (by omega) hi, Bool.or_eq_true, ha i hi, Bool.and_eq_true, decide_eq_true_iff, ex_succ, eq_comm (a := i)]
  · rw [bt_0 hi]
    constructor
    · intro z
      cases z
    · rintro ⟨r, hr, -⟩
      omega
theorem sel_loop {x : Int32} {b : Nat → Bool} {F : (Int32 → Int32 → Option Int32) → Int32 → Int32 → Option Int32} (hF : ∀ (g : Int32 → Int32 → Option Int32) (a : Int32) (k : Nat), k < 27 → F g a (nI k) = if b k = true then g (a ||| (x &&& ((1 : Int32) <<< (nI k &&& 31)))) (nI k + 1) else g a (nI k + 1)) (hE : ∀ (g : Int32 → Int32 → Option Int32) (a : Int32), F g a (nI 27) = some a) : ∃ z, lp (fun _ _ => none) F FU 0 0 = some z ∧ ∀ i, i < 32 → (bt z i = true ↔ i < 27 ∧ bt x i = true ∧ b i = true) := by
  refine lq2 (Q := fun o => ∃ z, o = some z ∧ ∀ i, i < 32 → (bt z i = true ↔ i < 27 ∧ bt x i = true ∧ b i = true)) (fun d a c => ∃ k, k + d = 27 ∧ c = nI k ∧ ∀ i, i < 32 → (bt a i = true ↔ i < k ∧ bt x i = true ∧ b i = true)) ?_ _ 27 _ _ (FU_lt (by omega)) ⟨0, by omega, rfl, fun i hi => ?_⟩
  · rintro d a c g ⟨k, hk, rfl, ha⟩ ih
    by_cases h : d = 0
    · have e : k = 27 := by omega
      subst e
      rw [hE]
      exact ⟨a, rfl, ha⟩
    · rw [hF g a k (by omega), nI_1]
      split
      · rename_i hb
        refine ih (d - 1) _ _ (by omega) ⟨k + 1, by omega, rfl, fun i hi => ?_⟩
        rw [bt_or hi, bt_pick (by omega) hi, Bool.or_eq_true, ha i hi, Bool.and_eq_true, decide_eq_true_iff]
        constructor
        · rintro (⟨h1, h2⟩ | ⟨h1, rfl⟩)
          · exact ⟨by omega, h2⟩
          · exact ⟨by omega, h1, hb⟩
        · rintro ⟨h1, h2, h3⟩
          by_cases e : i = k
          · subst e
            exact Or.inr ⟨h2, rfl⟩
          · exact Or.inl ⟨by omega, h2, h3⟩
      · rename_i hb
        refine ih (d - 1) _ _ (by omega) ⟨k + 1, by omega, rfl, fun i hi => ?_⟩
        rw [ha i hi]
        constructor
        · rintro ⟨h1, h2⟩
          exact ⟨by omega, h2⟩
        · rintro ⟨h1, h2, h3⟩
          by_cases e : i = k
          · subst e
            exact absurd h3 hb
          · exact ⟨by omega, h2, h3⟩
  · rw [bt_0 hi]
    constructor
    · intro z
      cases z
    · rintro ⟨h1, -⟩
      omega
def bI (b : Bool) : Int32 := if b = true then 1 else 0
theorem if_b {β : Type} {c : Prop} [Decidable c] {b : Bool} (h : c ↔ b = true) {x y : β} : (if c then x else y) = if b = true then x else y := by
  by_cases hc : c
  · rw [if_pos hc, if_pos (h.mp hc)]
  · rw [if_neg hc, if_neg (fun z => hc (h.mpr z))]
theorem selected_n {w x : Int32} {c v s : Nat} (are : Bool) (hc : ((w >>> ((10 : Int32) &&& 31)) &&& 3) = nI c) (hc3 : c < 3) (hv : ((w >>> ((12 : Int32) &&& 31)) &&& 3) = nI v) (hv3 : v < 4) (hs : ((w >>> ((14 : Int32) &&& 31)) &&& 1) = nI s) (hs2 : s < 2) : ∃ z, l_selected w x (bI are) = some z ∧ ∀ i, i < 32 → (bt z i = true ↔ i < 27 ∧ bt x i = true ∧ ((decide (d3 i c = v) == decide (s = 1)) == are) = true) := by
  unfold l_selected
  refine sel_loop (b := fun i => (decide (d3 i c = v) == decide (s = 1)) == are) (fun g a k hk => ?_) (fun g a => ?_)
  · have hd : d3 k c < 27 := by unfold d3; split <;> (try split) <;> omega
    rw [if_neg (show ¬ (27 : Int32) ≤ nI k from nI_ge (b := 27) (by omega) (by decide)), hc, digit3_n hk hc3, cb_s, hv, hs]
    simp only [jn_d, lt_d]
    have e1 : (nI (d3 k c) = nI v) ↔ d3 k c = v := nI_eq (by omega) (by omega)
    have e2 : (nI s = 1) ↔ s = 1 := nI_eq (b := 1) (by omega) (by omega)
    have e3 : nI 1 = (1 : Int32) := rfl
    by_cases h1 : d3 k c = v <;> by_cases h2 : s = 1 <;> cases are <;> simp [e1, e2, e3, h1, h2, bI]
  · rw [if_pos (show (27 : Int32) ≤ nI 27 from by decide)]
theorem like_n {x y s : Int32} (are : Bool) : ∃ z, l_like x y s (bI are) = some z ∧ ∀ i, i < 32 → (bt z i = true ↔ i < 27 ∧ bt x i = true ∧ ((∃ r, r < 27 ∧ bt y r = true ∧ p3 s r = p3 s i) ↔ are = true)) := by
  obtain ⟨z6, h6, hz⟩ := parts_n y s
  unfold l_like
  rw [cb_t h6]
  obtain ⟨z, h1, h2⟩ := sel_loop (x := x) (b := fun i => bt z6 (p3 s i) == are) (F := fun (g9 : Int32 → Int32 → Option Int32) (x7 : Int32) (x8 : Int32) => if 27 ≤ x8 then (some x7) else (cb (l_part x8 s) fun (z11 : Int32) => jn (fun (x12 : Int32) => if x12 = bI are then (lt (x7 ||| (x &&& ((1 : Int32) <<< (x8 &&& 31)))) fun (x15 : Int32) => g9 x15 (x8 + 1)) else (g9 x7 (x8 + 1))) fun k13 => if ((z6 >>> (z11 &&& 31)) &&& 1) = 1 then (k13 1) else (k13 0))) (fun g a k hk => by
    rw [if_neg (show ¬ (27 : Int32) ≤ nI k from nI_ge (b := 27) (by omega) (by decide)), part3_n hk, cb_s]
    simp only [jn_d, lt_d, bt_t]
    cases h1 : bt z6 (p3 s k) <;> cases are <;> simp [bI]) (fun g a => by rw [if_pos (show (27 : Int32) ≤ nI 27 from by decide)])
  refine ⟨z, h1, fun i hi => ?_⟩
  rw [h2 i hi]
  constructor
  · rintro ⟨a, b, c⟩
    refine ⟨a, b, ?_⟩
    have h27 := p3_lt (s := s) a
    rw [← hz (p3 s i) (by omega)]
    cases hq : bt z6 (p3 s i) <;> cases are <;> simp_all
  · rintro ⟨a, b, c⟩
    refine ⟨a, b, ?_⟩
    have h27 := p3_lt (s := s) a
    rw [← hz (p3 s i) (by omega)] at c
    cases hq : bt z6 (p3 s i) <;> cases are <;> simp_all
theorem nI_self (x : Int32) : x = nI x.toBitVec.toNat := Int32.toBitVec_inj.mp (by
  show x.toBitVec = BitVec.ofNat 32 x.toBitVec.toNat
  rw [BitVec.ofNat_toNat]
  simp)
theorem low_n (x : Int32) {n : Nat} (h : 0 < n) (hn : n < 100) : ∃ k, k < n ∧ l_low x (nI n) = some (nI k) := by
  unfold l_low
  have e : ushr x 1 = nI (x.toBitVec.toNat / 2 ^ 1) := by
    unfold ushr
    rw [← pk_ushrN (n := x.toBitVec.toNat) x.toBitVec.isLt 1 1 (by decide), ← nI_self x]
  have hlt : x.toBitVec.toNat / 2 ^ 1 < 2 ^ 31 := by
    have := x.toBitVec.isLt
    omega
  unfold dv
  rw [if_neg (nI_ne0 h (by omega)), e, pk_rem hlt h (by omega)]
  exact ⟨_, Nat.mod_lt _ h, rfl⟩
/-! how many -/
def flt (f : Nat → Bool) (n : Nat) : Nat := ((List.range n).filter f).length
theorem flt_s {f : Nat → Bool} {n : Nat} : flt f (n + 1) = (if f 0 = true then 1 else 0) + flt (fun i => f (i + 1)) n := by
  unfold flt
  rw [List.range_succ_eq_map, List.filter_cons]
  split
  · rw [List.length_cons, List.filter_map, List.length_map, Nat.add_comm]
    rfl
  · rw [List.filter_map, List.length_map, Nat.zero_add]
    rfl
theorem flt_cg {f g : Nat → Bool} {n : Nat} (h : ∀ i, i < n → f i = g i) : flt f n = flt g n := by
  unfold flt
  rw [List.filter_congr (fun i hi => h i (List.mem_range.mp hi))]
theorem flt_0 {f : Nat → Bool} {n : Nat} (h : ∀ i, i < n → f i = false) : flt f n = 0 := by
  unfold flt
  rw [List.filter_eq_nil_iff.mpr]
  · rfl
  · intro i hi
    rw [h i (List.mem_range.mp hi)]
    exact Bool.false_ne_true
theorem flt_le (f : Nat → Bool) (n : Nat) : flt f n ≤ n := by
  have h := List.length_filter_le f (List.range n)
  rw [List.length_range] at h
  exact h
theorem kern : ∀ n X, 0 < X → X < 2 ^ n → flt (fun i => X.testBit i && (X - 1).testBit i) n + 1 = flt (fun i => X.testBit i) n := by
  intro n
  induction n with
  | zero =>
    intro X h1 h2
    omega
  | succ n ih =>
    intro X h1 h2
    rw [flt_s, flt_s]
    rcases Nat.mod_two_eq_zero_or_one X with h | h
    · have e0 : X.testBit 0 = false := by
        rw [Nat.testBit_zero, h]
        rfl
      have e1 : ∀ i, X.testBit (i + 1) = (X / 2).testBit i := fun i => Nat.testBit_succ X i
      have e2 : ∀ i, (X - 1).testBit (i + 1) = (X / 2 - 1).testBit i := fun i => by
        rw [Nat.testBit_succ, show (X - 1) / 2 = X / 2 - 1 by omega]
      have hi := ih (X / 2) (by omega) (by rw [Nat.pow_succ] at h2; omega)
      simp only [e0, e1, e2, Bool.false_and, Bool.false_eq_true, if_false, Nat.zero_add]
      exact hi
    · have e0 : X.testBit 0 = true := by
        rw [Nat.testBit_zero, h]
        rfl
      have e3 : (X - 1).testBit 0 = false := by
        rw [Nat.testBit_zero, show (X - 1) % 2 = 0 by omega]
        rfl
      have e1 : ∀ i, X.testBit (i + 1) = (X / 2).testBit i := fun i => Nat.testBit_succ X i
      have e2 : ∀ i, (X - 1).testBit (i + 1) = (X / 2).testBit i := fun i => by
        rw [Nat.testBit_succ, show (X - 1) / 2 = X / 2 by omega]
      simp only [e0, e1, e2, e3, Bool.and_false, Bool.and_self, Bool.false_eq_true, if_false, if_true, Nat.zero_add]
      omega
theorem bt_nI {X i : Nat} (hi : i < 32) : bt (nI X) i = X.testBit i := by
  rw [bt_bq hi]
  unfold bq
  rw [show (nI X).toBitVec = BitVec.ofNat 32 X from rfl, BitVec.getLsbD_ofNat, decide_eq_true hi, Bool.true_and]
theorem nI_and {a b : Nat} : nI a &&& nI b = nI (a &&& b) := bt_ext fun i hi => by rw [bt_and hi, bt_nI hi, bt_nI hi, bt_nI hi, Nat.testBit_and]
theorem okS_nI {x : Int32} (h : okS x) : ∃ X, X < 2 ^ 27 ∧ x = nI X := by
  refine ⟨x.toBitVec.toNat, ?_, nI_self x⟩
  refine Nat.lt_pow_two_of_testBit _ fun i hi => ?_
  by_cases h32 : i < 32
  · have := h i hi h32
    rw [nI_self x, bt_nI h32] at this
    exact this
  · exact Nat.testBit_lt_two_pow (Nat.lt_of_lt_of_le x.toBitVec.isLt (Nat.pow_le_pow_right (by decide) (by omega)))
theorem cnt_nI {X : Nat} : cnt (nI X) = flt (fun i => X.testBit i) 27 := flt_cg (fun i hi => bt_nI (by omega))
theorem count_n {x : Int32} (h : okS x) : l_count x = some (nI (cnt x)) := by
  obtain ⟨X, hX, rfl⟩ := okS_nI h
  rw [cnt_nI]
  unfold l_count
  refine lq2 (Q := fun o => o = some (nI (flt (fun i => X.testBit i) 27))) (fun d a b => ∃ k Y, a = nI k ∧ b = nI Y ∧ Y < 2 ^ 27 ∧ flt (fun i => Y.testBit i) 27 = d ∧ k + d = flt (fun i => X.testBit i) 27) ?_ _ (flt (fun i => X.testBit i) 27) _ _ (FU_lt (by have := flt_le (fun i => X.testBit i) 27; omega)) ⟨0, X, rfl, rfl, hX, rfl, by omega⟩
  rintro d a b g ⟨k, Y, rfl, rfl, hY, hd, hk⟩ ih
  have hY2 : Y < 2 ^ 31 := Nat.lt_of_lt_of_le hY (by decide)
  by_cases h0 : Y = 0
  · subst h0
    have z : flt (fun i => Nat.testBit 0 i) 27 = 0 := flt_0 (fun i _ => Nat.zero_testBit i)
    rw [if_pos (show nI 0 = 0 from rfl), show k = flt (fun i => X.testBit i) 27 by omega]
  · have hY0 : 0 < Y := by omega
    rw [if_neg (nI_ne0 hY0 hY2), nI_1]
    have e : nI Y - 1 = nI (Y - 1) := by
      have := nI_pred (Y - 1)
      rwa [show Y - 1 + 1 = Y by omega] at this
    rw [e, nI_and]
    have hkn := kern 27 Y hY0 hY
    have hl : flt (fun i => (Y &&& (Y - 1)).testBit i) 27 = flt (fun i => Y.testBit i && (Y - 1).testBit i) 27 := flt_cg (fun i _ => Nat.testBit_and Y (Y - 1) i)
    exact ih (d - 1) _ _ (by omega) ⟨k + 1, Y &&& (Y - 1), rfl, rfl, Nat.lt_of_le_of_lt Nat.and_le_left hY, by omega, by omega⟩
