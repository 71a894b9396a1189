/-! ===== fewest: the reference's loop ===== -/
theorem Srt_inj {L : List Nat} {i j : Nat} (h : Srt L) (hi : i < L.length) (hj : j < L.length) (he : gl L i = gl L j) : i = j := by
  rcases Nat.lt_trichotomy i j with z | z | z
  · have := h i j z hj; omega
  · exact z
  · have := h j i z hi; omega
theorem rs_hi {L : List Nat} {x : Int32} {n : Nat} : ∀ {k : Nat}, n ≤ k → (∀ i, n ≤ i → i < k → bq x i = false) → rs L x k = rs L x n := by
  intro k
  induction k with
  | zero => intro h _; rw [show n = 0 by omega]
  | succ k ih =>
    intro h hz
    by_cases hn : n = k + 1
    · rw [hn]
    · show (if bq x k then _ else _ : List Nat) = _
      rw [hz k (by omega) (Nat.lt_succ_self k), if_neg (by simp)]
      exact ih (by omega) fun i a b => hz i a (by omega)
theorem gk_iff {L : List Nat} {ks x : Int32} (hL : L.length ≤ 9) : gk L ks x 9 ↔ (∀ i, i < 9 → L.length ≤ i → bq x i = false) ∧ UL L ks x := by
  constructor
  · rintro ⟨a, b⟩
    refine ⟨fun i hi hli => ?_, fun i j hi hj hij bi bj => ?_⟩
    · cases hb : bq x i
      · rfl
      · have := a i hi hb
        omega
    · rcases Nat.lt_or_ge i j with z | z
      · exact b i j z (by omega) bi bj
      · exact fun he => b j i (by omega) (by omega) bj bi he.symm
  · rintro ⟨a, b⟩
    refine ⟨fun i hi bi => ?_, fun i j hij hj bi bj => ?_⟩
    · rcases Nat.lt_or_ge i L.length with z | z
      · exact z
      · rw [a i hi z] at bi; cases bi
    · have hjl : j < L.length := by
        rcases Nat.lt_or_ge j L.length with z | z
        · exact z
        · rw [a j hj z] at bj; cases bj
      exact b i j (by omega) hjl (by omega) bi bj
theorem sum_add {f g : Nat → Nat} : ∀ n, sumN f n + sumN g n = sumN (fun i => f i + g i) n := by
  intro n
  induction n with
  | zero => rfl
  | succ n ih =>
    show sumN f n + f n + (sumN g n + g n) = sumN (fun i => f i + g i) n + (f n + g n)
    rw [← ih]
    omega
theorem filt_sum {L : List Nat} {p : Nat → Bool} : ∀ k, k ≤ L.length → ((L.take k).filter p).length = sumN (fun i => if p (gl L i) = true then 1 else 0) k := by
  intro k
  induction k with
  | zero => intro _; rfl
  | succ k ih =>
    intro hk
    show _ = sumN _ k + (if p (gl L k) = true then 1 else 0)
    rw [← ih (by omega), take_gl (by omega), List.filter_append, List.length_append]
    congr 1
    cases hp : p (gl L k)
    · rw [List.filter_cons_of_neg (by simp [hp])]
      rfl
    · rw [List.filter_cons_of_pos (by simp [hp])]
      rfl
theorem dif_n {L H : List Nat} {m : Nat} (hL : Srt L) (hH : H.Nodup) (hsub : ∀ r, r ∈ H → r ∈ L) : (nw (rs L (nI m) L.length) H).length + (nw H (rs L (nI m) L.length)).length = dif L H m := by
  have h1 : (nw H (rs L (nI m) L.length)).length = sumN (fun i => if bq (nI m) i = true ∧ decide (gl L i ∉ H) = true then 1 else 0) L.length := rs_cnt hL (p := fun r => decide (r ∉ H)) L.length (Nat.le_refl _)
  have h2 : (nw (rs L (nI m) L.length) H).length = (L.filter (fun r => decide (r ∈ H ∧ r ∉ rs L (nI m) L.length))).length := by
    refine Nat.le_antisymm (sub_len (hH.filter _) fun y hy => ?_) (sub_len ((Srt_nodup hL).filter _) fun y hy => ?_)
    · obtain ⟨a, b⟩ := nw_mem.mp hy
      exact List.mem_filter.mpr ⟨hsub y a, decide_eq_true ⟨a, b⟩⟩
    · obtain ⟨-, a⟩ := List.mem_filter.mp hy
      have := of_decide_eq_true a
      exact nw_mem.mpr this
  have h3 := filt_sum (L := L) (p := fun r => decide (r ∈ H ∧ r ∉ rs L (nI m) L.length)) L.length (Nat.le_refl _)
  rw [List.take_length] at h3
  rw [h1, h2, h3, sum_add]
  unfold dif
  refine sum_cg fun i hi => ?_
  have hR : gl L i ∈ rs L (nI m) L.length ↔ bq (nI m) i = true := by
    rw [rs_mem]
    constructor
    · rintro ⟨j, a, b, c⟩
      rw [Srt_inj hL hi a c]
      exact b
    · intro b
      exact ⟨i, hi, b, rfl⟩
  by_cases hm : gl L i ∈ H
  · rw [decide_eq_true hm]
    have hd : decide (gl L i ∉ H) = false := decide_eq_false fun z => z hm
    rw [hd, if_neg (show ¬ (bq (nI m) i = true ∧ false = true) from fun z => by cases z.2)]
    cases hb : bq (nI m) i
    · rw [if_neg (show ¬ false = true by simp), if_pos (decide_eq_true ⟨hm, fun z => by rw [hR.mp z] at hb; cases hb⟩)]
    · rw [if_pos rfl, if_neg (fun z => (of_decide_eq_true z).2 (hR.mpr hb))]
  · rw [decide_eq_false hm]
    have hd : decide (gl L i ∉ H) = true := decide_eq_true hm
    rw [hd, if_neg (fun z => hm (of_decide_eq_true z).1)]
    cases hb : bq (nI m) i
    · rw [if_neg (fun z => by cases z.1), if_pos rfl]
    · rw [if_pos ⟨rfl, rfl⟩, if_neg (show ¬ true = false by simp)]
theorem bst_hi {f : Nat → Option Nat} {n : Nat} : ∀ {N : Nat}, n ≤ N → (∀ m, n ≤ m → m < N → f m = none) → bst f N = bst f n := by
  intro N
  induction N with
  | zero => intro h _; rw [show n = 0 by omega]
  | succ N ih =>
    intro h hz
    by_cases hn : n = N + 1
    · rw [hn]
    · rw [bst_o (hz N (by omega) (Nat.lt_succ_self N))]
      exact ih (by omega) fun m a b => hz m a (by omega)
def fwR (z6 n0 x13 : Int32) (S15 : St) : Option (Int32 × St) := rd z6 3 fun (j18 : Nat) => lt (w2 S15 5 j18 n0) fun (S20 : St) => lp (fun _ _ => none) (fun (g23 : Int32 → St → Option (Int32 × St)) (x21 : Int32) (S22 : St) => if n0 ≤ x21 then (some (x13, S22)) else (rd x21 12 fun (j25 : Nat) => rd ((12 * z6) + x21) 36 fun (j27 : Nat) => lt (w2 S22 6 j27 (S22.2 35 j25)) fun (S29 : St) => g23 (x21 + 1) S29)) FU 0 S20
def IV (t : Nat) (H : List Nat) (M T : St) : Prop := T.1 = M.1 ∧ (∀ k, k ≠ 5 → k ≠ 6 → k ≠ 17 → k ≠ 18 → k ≠ 35 → T.2 k = M.2 k) ∧ (∀ j, j ≠ t → T.2 5 j = M.2 5 j) ∧ (∀ c, (c < 12 * t ∨ 12 * t + 12 ≤ c) → T.2 6 c = M.2 6 c) ∧ Sg (T.2 35) 0 H
theorem IV.t {t : Nat} {H : List Nat} {M T T1 : St} (h : IV t H M T) (hF : FrT t T T1) : IV t H M T1 := ⟨hF.1.trans h.1, fun k a b c d e => (hF.2.1 k a b).trans (h.2.1 k a b c d e), fun j hj => (hF.2.2.1 j hj).trans (h.2.2.1 j hj), fun c hc => (hF.2.2.2 c hc).trans (h.2.2.2.1 c hc), by rw [hF.2.1 35 (by decide) (by decide)]; exact h.2.2.2.2⟩
theorem IV.l {t : Nat} {H : List Nat} {M T T1 : St} (h : IV t H M T) (hF : FrL T T1) : IV t H M T1 := ⟨hF.1.trans h.1, fun k a b c d e => (hF.2 k c d).trans (h.2.1 k a b c d e), fun j hj => by rw [hF.2 5 (by decide) (by decide)]; exact h.2.2.1 j hj, fun c hc => by rw [hF.2 6 (by decide) (by decide)]; exact h.2.2.2.1 c hc, by rw [hF.2 35 (by decide) (by decide)]; exact h.2.2.2.2⟩