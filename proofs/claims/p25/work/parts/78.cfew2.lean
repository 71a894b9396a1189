/-! ===== fewest: the class's loop ===== -/
def UL (L : List Nat) (ks x : Int32) : Prop := ∀ i j, i < L.length → j < L.length → i ≠ j → bq x i = true → bq x j = true → pt ks (gl L i) ≠ pt ks (gl L j)
theorem bool_iff {b : Bool} {P : Prop} (h : b = true ↔ P) (hn : ¬ P) : b = false := by
  cases b
  · rfl
  · exact absurd (h.mp rfl) hn
theorem sortRows_n {S : St} {G : Gt} {nt nv u t : Nat} {L H D : List Nat} (hO : OKG G nt nv) (hu : u < nv) (hH : Rw S (1 + 7 * t) H) (ht : t < 3) (hD : Rw S 0 D) (h49 : S.1 49 = nI L.length) (hL : L.length ≤ 9) (h42 : ∀ i, i < L.length → S.2 42 i = nI (gl L i)) (hok : okL L) : ∃ S', d8_sortRows G nt nv u t 0 S = some S' ∧ (∀ i, i < 32 → (bq (S'.1 50) i = true ↔ i < L.length ∧ gl L i ∈ H)) ∧ (∀ i, i < 32 → (bq (S'.1 51) i = true ↔ i < L.length ∧ sn G (u + 1) u (gl L i) = true)) ∧ (∀ i, i < 32 → (bq (S'.1 52) i = true ↔ i < L.length ∧ sn G (u + 1) u (gl L i) = true ∧ pt (G u 1) (gl L i) ∉ D)) ∧ (∀ k, k < L.length → ∀ i, i < 32 → (bq (S'.2 43 k) i = true ↔ i < L.length ∧ i ≠ k ∧ pt (G (20 + t) 1) (gl L i) = pt (G (20 + t) 1) (gl L k))) ∧ (∀ k, k ≠ 50 → k ≠ 51 → k ≠ 52 → S'.1 k = S.1 k) ∧ ∀ k, k ≠ 43 → S'.2 k = S.2 k := by
  unfold d8_sortRows
  rw [lt_d, lt_d, lt_d]
  refine lq2 (Q := fun x => ∃ S' : St, x = some S' ∧ (∀ i, i < 32 → (bq (S'.1 50) i = true ↔ i < L.length ∧ gl L i ∈ H)) ∧ (∀ i, i < 32 → (bq (S'.1 51) i = true ↔ i < L.length ∧ sn G (u + 1) u (gl L i) = true)) ∧ (∀ i, i < 32 → (bq (S'.1 52) i = true ↔ i < L.length ∧ sn G (u + 1) u (gl L i) = true ∧ pt (G u 1) (gl L i) ∉ D)) ∧ (∀ k, k < L.length → ∀ i, i < 32 → (bq (S'.2 43 k) i = true ↔ i < L.length ∧ i ≠ k ∧ pt (G (20 + t) 1) (gl L i) = pt (G (20 + t) 1) (gl L k))) ∧ (∀ k, k ≠ 50 → k ≠ 51 → k ≠ 52 → S'.1 k = S.1 k) ∧ ∀ k, k ≠ 43 → S'.2 k = S.2 k) (fun d (a : Int32) (T : St) => ∃ n, n + d = L.length ∧ a = nI n ∧ (∀ i, i < 32 → (bq (T.1 50) i = true ↔ i < n ∧ gl L i ∈ H)) ∧ (∀ i, i < 32 → (bq (T.1 51) i = true ↔ i < n ∧ sn G (u + 1) u (gl L i) = true)) ∧ (∀ i, i < 32 → (bq (T.1 52) i = true ↔ i < n ∧ sn G (u + 1) u (gl L i) = true ∧ pt (G u 1) (gl L i) ∉ D)) ∧ (∀ k, k < n → ∀ i, i < 32 → (bq (T.2 43 k) i = true ↔ i < L.length ∧ i ≠ k ∧ pt (G (20 + t) 1) (gl L i) = pt (G (20 + t) 1) (gl L k))) ∧ (∀ k, k ≠ 50 → k ≠ 51 → k ≠ 52 → T.1 k = S.1 k) ∧ ∀ k, k ≠ 43 → T.2 k = S.2 k) ?_ _ L.length _ _ (FU_lt (by omega)) ⟨0, by omega, rfl, fun i hi => ?_, fun i hi => ?_, fun i hi => ?_, fun k hk => by omega, fun k a b c => by rw [w1_ne c, w1_ne b, w1_ne a], fun _ _ => rfl⟩
  · rintro d a T g ⟨n, hn, rfl, b50, b51, b52, b43, hF1, hF2⟩ ih
    have t49 : T.1 49 = nI L.length := (hF1 49 (by decide) (by decide) (by decide)).trans h49
    rw [t49]
    by_cases h0 : d = 0
    · have hnl : n = L.length := by omega
      subst hnl
      rw [if_pos (nI_le (by omega) (by omega))]
      exact ⟨T, rfl, b50, b51, b52, b43, hF1, hF2⟩
    · have hnl : n < L.length := by omega
      have hr := hok _ (gl_mem hnl)
      have t42 : T.2 42 n = nI (gl L n) := by rw [hF2 42 (by decide)]; exact h42 n hnl
      have hHT : Rw T (1 + 7 * t) H := hH.fr (hF1 _ (by omega) (by omega) (by omega)) (hF2 _ (by omega))
      rw [if_neg (nI_ge hnl (by omega)), if_neg (show ¬ (9 : Int32) ≤ nI n from nI_ge (b := 9) (by omega) (by decide)), rd_n (show n < 9 by omega) (by decide), t42, has_n hHT, any_mem hHT.2.2.2 hr, cb_s]
      -- the end of the step
      have hend : ∀ X : St, (∀ i, i < 32 → (bq (X.1 50) i = true ↔ i < n + 1 ∧ gl L i ∈ H)) → (∀ i, i < 32 → (bq (X.1 51) i = true ↔ i < n + 1 ∧ sn G (u + 1) u (gl L i) = true)) → (∀ i, i < 32 → (bq (X.1 52) i = true ↔ i < n + 1 ∧ sn G (u + 1) u (gl L i) = true ∧ pt (G u 1) (gl L i) ∉ D)) → X.2 = T.2 → (∀ k, k ≠ 50 → k ≠ 51 → k ≠ 52 → X.1 k = T.1 k) → ∃ S' : St, (cb (d8_rivalsOf (nI n) (G (20 + t) 1) X) fun (z31 : Int32) => rd (nI n) 9 fun (j33 : Nat) => lt (w2 X 43 j33 z31) fun (S35 : St) => g (nI n + 1) S35) = some S' ∧ (∀ i, i < 32 → (bq (S'.1 50) i = true ↔ i < L.length ∧ gl L i ∈ H)) ∧ (∀ i, i < 32 → (bq (S'.1 51) i = true ↔ i < L.length ∧ sn G (u + 1) u (gl L i) = true)) ∧ (∀ i, i < 32 → (bq (S'.1 52) i = true ↔ i < L.length ∧ sn G (u + 1) u (gl L i) = true ∧ pt (G u 1) (gl L i) ∉ D)) ∧ (∀ k, k < L.length → ∀ i, i < 32 → (bq (S'.2 43 k) i = true ↔ i < L.length ∧ i ≠ k ∧ pt (G (20 + t) 1) (gl L i) = pt (G (20 + t) 1) (gl L k))) ∧ (∀ k, k ≠ 50 → k ≠ 51 → k ≠ 52 → S'.1 k = S.1 k) ∧ ∀ k, k ≠ 43 → S'.2 k = S.2 k := by
        intro X x50 x51 x52 x2 x1
        obtain ⟨m, e1, hm⟩ := rivals_n (S := X) (ks := G (20 + t) 1) (k := n) ((x1 49 (by decide) (by decide) (by decide)).trans t49) hL (fun i hi => by rw [x2, hF2 42 (by decide)]; exact h42 i hi) hok hnl
        rw [e1, cb_s, rd_n (show n < 9 by omega) (by decide), lt_d, nI_1]
        refine ih (d - 1) _ _ (by omega) ⟨n + 1, by omega, rfl, x50, x51, x52, fun k hk => ?_, fun k a b c => (x1 k a b c).trans (hF1 k a b c), fun k hk => by rw [w2_ne hk, x2]; exact hF2 k hk⟩
        by_cases hkn : k = n
        · rw [hkn, w2_at]; exact hm
        · rw [w2_nj hkn, x2]; exact b43 k (by omega)
      -- the middle
      have hmid : ∀ X : St, (∀ i, i < 32 → (bq (X.1 50) i = true ↔ i < n + 1 ∧ gl L i ∈ H)) → X.2 = T.2 → (∀ k, k ≠ 50 → X.1 k = T.1 k) → ∃ S' : St, (rd (nI n) 9 fun (j25 : Nat) => cb (d8_isSeen G nt nv (some u) (X.2 42 j25) X) fun (z27 : Int32) => jn (fun (S29 : St) => cb (d8_rivalsOf (nI n) (G (20 + t) 1) S29) fun (z31 : Int32) => rd (nI n) 9 fun (j33 : Nat) => lt (w2 S29 43 j33 z31) fun (S35 : St) => g (nI n + 1) S35) fun k30 => if z27 = 0 then (k30 X) else (lt (w1 X 51 ((X.1 51) ||| (1 <<< (nI n &&& 31)))) fun (S37 : St) => rd (nI n) 9 fun (j38 : Nat) => cb (d1_part (S37.2 42 j38) (G u 1)) fun (z40 : Int32) => cb (d4_has 0 z40 S37) fun (z42 : Int32) => if z42 = 0 then (lt (w1 S37 52 ((S37.1 52) ||| (1 <<< (nI n &&& 31)))) fun (S45 : St) => k30 S45) else (k30 S37))) = some S' ∧ (∀ i, i < 32 → (bq (S'.1 50) i = true ↔ i < L.length ∧ gl L i ∈ H)) ∧ (∀ i, i < 32 → (bq (S'.1 51) i = true ↔ i < L.length ∧ sn G (u + 1) u (gl L i) = true)) ∧ (∀ i, i < 32 → (bq (S'.1 52) i = true ↔ i < L.length ∧ sn G (u + 1) u (gl L i) = true ∧ pt (G u 1) (gl L i) ∉ D)) ∧ (∀ k, k < L.length → ∀ i, i < 32 → (bq (S'.2 43 k) i = true ↔ i < L.length ∧ i ≠ k ∧ pt (G (20 + t) 1) (gl L i) = pt (G (20 + t) 1) (gl L k))) ∧ (∀ k, k ≠ 50 → k ≠ 51 → k ≠ 52 → S'.1 k = S.1 k) ∧ ∀ k, k ≠ 43 → S'.2 k = S.2 k := by
        intro X x50 x2 x1
        have x42 : X.2 42 n = nI (gl L n) := by rw [x2]; exact t42
        have x51 : X.1 51 = T.1 51 := x1 51 (by decide)
        have x52 : X.1 52 = T.1 52 := x1 52 (by decide)
        rw [rd_n (show n < 9 by omega) (by decide), x42, isSeen_n hO hu (by omega), cb_s, jn_d]
        cases hs : sn G (u + 1) u (gl L n)
        · rw [if_neg (show ¬ false = true by simp), if_pos z00]
          refine hend X x50 (fun i hi => ?_) (fun i hi => ?_) x2 (fun k a b c => x1 k a)
          · rw [x51, b51 i hi]
            constructor
            · rintro ⟨a, b⟩; exact ⟨by omega, b⟩
            · rintro ⟨a, b⟩
              have : i ≠ n := fun z => by rw [z, hs] at b; cases b
              exact ⟨by omega, b⟩
          · rw [x52, b52 i hi]
            constructor
            · rintro ⟨a, b⟩; exact ⟨by omega, b⟩
            · rintro ⟨a, b, c⟩
              have : i ≠ n := fun z => by rw [z, hs] at b; cases b
              exact ⟨by omega, b, c⟩
        · have hX0 : Rw (w1 X 51 ((X.1 51) ||| (1 <<< (nI n &&& 31)))) 0 D := hD.fr (by rw [w1_ne (by decide), x1 0 (by decide), hF1 0 (by decide) (by decide) (by decide)]) (by rw [w1_2, x2, hF2 0 (by decide)])
          have h51 : ∀ i, i < 32 → (bq ((X.1 51) ||| (1 <<< (nI n &&& 31))) i = true ↔ i < n + 1 ∧ sn G (u + 1) u (gl L i) = true) := fun i hi => by
            rw [bq_set (by omega) hi, Bool.or_eq_true, x51, b51 i hi, decide_eq_true_iff]
            constructor
            · rintro (⟨a, b⟩ | rfl)
              · exact ⟨by omega, b⟩
              · exact ⟨by omega, hs⟩
            · rintro ⟨a, b⟩
              by_cases hin : i = n
              · exact Or.inr hin
              · exact Or.inl ⟨by omega, b⟩
          rw [if_pos rfl, if_neg z10, lt_d, rd_n (show n < 9 by omega) (by decide), w1_2, x42, part_n (by omega), cb_s, has_n hX0, any_mem hX0.2.2.2 (pt_lt _ _), cb_s]
          by_cases hm : pt (G u 1) (gl L n) ∈ D
          · rw [decide_eq_true hm, if_pos rfl, if_neg z10]
            refine hend _ (fun i hi => ?_) (fun i hi => ?_) (fun i hi => ?_) x2 (fun k a b c => (w1_ne b).trans (x1 k a))
            · rw [w1_ne (by decide)]; exact x50 i hi
            · rw [w1_eq]; exact h51 i hi
            · rw [w1_ne (by decide), x52, b52 i hi]
              constructor
              · rintro ⟨a, b⟩; exact ⟨by omega, b⟩
              · rintro ⟨a, b, c⟩
                have : i ≠ n := fun z => c (by rw [z]; exact hm)
                exact ⟨by omega, b, c⟩
          · rw [decide_eq_false hm, if_neg (show ¬ false = true by simp), if_pos z00, lt_d]
            refine hend _ (fun i hi => ?_) (fun i hi => ?_) (fun i hi => ?_) x2 (fun k a b c => by rw [w1_ne c, w1_ne b]; exact x1 k a)
            · rw [w1_ne (by decide), w1_ne (by decide)]; exact x50 i hi
            · rw [w1_ne (by decide), w1_eq]; exact h51 i hi
            · rw [w1_eq, w1_ne (by decide), bq_set (by omega) hi, Bool.or_eq_true, x52, b52 i hi, decide_eq_true_iff]
              constructor
              · rintro (⟨a, b⟩ | rfl)
                · exact ⟨by omega, b⟩
                · exact ⟨by omega, hs, hm⟩
              · rintro ⟨a, b⟩
                by_cases hin : i = n
                · exact Or.inr hin
                · exact Or.inl ⟨by omega, b⟩
      rw [jn_d]
      by_cases hm : gl L n ∈ H
      · rw [decide_eq_true hm, if_pos rfl, if_neg z10, lt_d]
        refine hmid _ (fun i hi => ?_) rfl (fun k a => w1_ne a)
        rw [w1_eq, bq_set (by omega) hi, Bool.or_eq_true, b50 i hi, decide_eq_true_iff]
        constructor
        · rintro (⟨a, b⟩ | rfl)
          · exact ⟨by omega, b⟩
          · exact ⟨by omega, hm⟩
        · rintro ⟨a, b⟩
          by_cases hin : i = n
          · exact Or.inr hin
          · exact Or.inl ⟨by omega, b⟩
      · rw [decide_eq_false hm, if_neg (show ¬ false = true by simp), if_pos z00]
        refine hmid T (fun i hi => ?_) rfl (fun k a => rfl)
        rw [b50 i hi]
        constructor
        · rintro ⟨a, b⟩; exact ⟨by omega, b⟩
        · rintro ⟨a, b⟩
          have : i ≠ n := fun z => hm (by rw [← z]; exact b)
          exact ⟨by omega, b⟩
  · rw [w1_ne (by decide), w1_ne (by decide), w1_eq, bq_0]
    exact ⟨fun z => (by cases z), fun z => (by omega)⟩
  · rw [w1_ne (by decide), w1_eq, bq_0]
    exact ⟨fun z => (by cases z), fun z => (by omega)⟩
  · rw [w1_eq, bq_0]
    exact ⟨fun z => (by cases z), fun z => (by omega)⟩
theorem unlike_n {S : St} {L : List Nat} {ks x : Int32} (h49 : S.1 49 = nI L.length) (hL : L.length ≤ 9) (h43 : ∀ k, k < L.length → ∀ i, i < 32 → (bq (S.2 43 k) i = true ↔ i < L.length ∧ i ≠ k ∧ pt ks (gl L i) = pt ks (gl L k))) : (UL L ks x ∧ d8_hasUnlikeKeys x S = some 1) ∨ (¬ UL L ks x ∧ d8_hasUnlikeKeys x S = some 0) := by
  unfold d8_hasUnlikeKeys
  refine lq1 (Q := fun y => (UL L ks x ∧ y = some 1) ∨ (¬ UL L ks x ∧ y = some 0)) (fun d (a : Int32) => ∃ n, n + d = L.length ∧ a = nI n ∧ ∀ i, i < n → bq x i = true → (x &&& S.2 43 i) = 0) ?_ _ L.length _ (FU_lt (by omega)) ⟨0, by omega, rfl, fun i hi => by omega⟩
  rintro d a g ⟨n, hn, rfl, hz⟩ ih
  rw [h49]
  by_cases h0 : d = 0
  · rw [if_pos (nI_le (by omega) (by omega))]
    refine Or.inl ⟨fun i j hi hj hij bi bj he => ?_, rfl⟩
    have h1 := and_z.mp (hz i (by omega) bi) j (by omega) bj
    have h2 := (h43 i hi j (by omega)).mpr ⟨hj, Ne.symm hij, he.symm⟩
    rw [h2] at h1
    cases h1
  · have hnl : n < L.length := by omega
    rw [if_neg (nI_ge hnl (by omega)), if_neg (show ¬ (9 : Int32) ≤ nI n from nI_ge (b := 9) (by omega) (by decide)), nI_1]
    have hbt : bt x n = bq x n := bt_bq (by omega)
    by_cases hb : ((x >>> (nI n &&& 31)) &&& 1) = 1
    · have hbq : bq x n = true := by rw [← hbt]; exact decide_eq_true hb
      rw [if_pos hb, rd_n (show n < 9 by omega) (by decide)]
      by_cases ha : (x &&& S.2 43 n) = 0
      · rw [if_pos ha]
        refine ih (d - 1) _ (by omega) ⟨n + 1, by omega, rfl, fun i hi bi => ?_⟩
        by_cases hin : i = n
        · rw [hin]; exact ha
        · exact hz i (by omega) bi
      · rw [if_neg ha]
        refine Or.inr ⟨fun hU => ha (and_z.mpr fun i hi bi => ?_), rfl⟩
        refine bool_iff (h43 n hnl i hi) ?_
        rintro ⟨a, b, c⟩
        exact hU i n a hnl b bi hbq c
    · have hbq : bq x n = false := by rw [← hbt]; exact decide_eq_false hb
      rw [if_neg hb]
      refine ih (d - 1) _ (by omega) ⟨n + 1, by omega, rfl, fun i hi bi => ?_⟩
      by_cases hin : i = n
      · rw [hin, hbq] at bi; cases bi
      · exact hz i (by omega) bi
noncomputable def okf (C : Nat → Prop) (dif : Nat → Nat) (m : Nat) : Option Nat := @ite (Option Nat) (C m) (Classical.propDecidable (C m)) (some (dif m)) none
theorem okf_t {C : Nat → Prop} {dif : Nat → Nat} {m : Nat} (h : C m) : okf C dif m = some (dif m) := if_pos h
theorem okf_f {C : Nat → Prop} {dif : Nat → Nat} {m : Nat} (h : ¬ C m) : okf C dif m = none := if_neg h
def bst (f : Nat → Option Nat) : Nat → Int32
  | 0 => -1
  | m + 1 => match f m with
    | none => bst f m
    | some d => if bst f m = -1 then nI d else (if nI d < bst f m then nI d else bst f m)
theorem bst_o {f : Nat → Option Nat} {m : Nat} (h : f m = none) : bst f (m + 1) = bst f m := by
  show (match f m with | none => _ | some d => _) = _
  rw [h]
theorem bst_s {f : Nat → Option Nat} {m d : Nat} (h : f m = some d) : bst f (m + 1) = if bst f m = -1 then nI d else (if nI d < bst f m then nI d else bst f m) := by
  show (match f m with | none => _ | some d => _) = _
  rw [h]
theorem sum_hi {f : Nat → Nat} {n : Nat} : ∀ {N : Nat}, n ≤ N → (∀ i, n ≤ i → i < N → f i = 0) → sumN f N = sumN f n := by
  intro N
  induction N with
  | zero => intro h _; rw [show n = 0 by omega]
  | succ N ih =>
    intro h hz
    by_cases hn : n = N + 1
    · rw [hn]
    · show sumN f N + f N = _
      rw [hz N (by omega) (Nat.lt_succ_self N), Nat.add_zero, ih (by omega) fun i a b => hz i a (by omega)]
def Cf (G : Gt) (u t : Nat) (L D : List Nat) (m : Nat) : Prop := (∀ i, i < 9 → L.length ≤ i → bq (nI m) i = false) ∧ UL L (G (20 + t) 1) (nI m) ∧ (∀ i, i < L.length → bq (nI m) i = true → sn G (u + 1) u (gl L i) = true → pt (G u 1) (gl L i) ∈ D) ∧ sumN (fun i => if bq (nI m) i = true ∧ sn G (u + 1) u (gl L i) = true then 1 else 0) L.length = D.length
def dif (L H : List Nat) (m : Nat) : Nat := sumN (fun i => if bq (nI m) i = decide (gl L i ∈ H) then 0 else 1) L.length
theorem fewC_n {S : St} {G : Gt} {nt nv u t : Nat} {H D : List Nat} {s : Int32} (hO : OKG G nt nv) (hu : u < nv) (hH : Rw S (1 + 7 * t) H) (ht : t < 3) (hD : Rw S 0 D) (hs : G (20 + t) 0 = s) (hL : (tl s 6).length ≤ 9) (hok : okL (tl s 6)) : ∃ S', d8_fewestChanges G nt nv u t 0 S = some (bst (okf (Cf G u t (tl s 6) D) (dif (tl s 6) H)) (2 ^ (tl s 6).length), S') ∧ FrC S S' := by
  unfold d8_fewestChanges
  obtain ⟨S1, e1, s49, s42, f1, f2⟩ := listRows_n (S := S) hL
  generalize hLL : tl s 6 = L at *
  obtain ⟨S2, e2, b50, b51, b52, b43, g1, g2⟩ := sortRows_n (S := S1) hO hu (hH.fr (f1 _ (by omega)) (f2 _ (by omega))) ht (hD.fr (f1 0 (by decide)) (f2 0 (by decide))) s49 hL s42 hok
  have hFC : FrC S S2 := ⟨fun k hk => (g1 k (fun z => hk (by unfold scr; omega)) (fun z => hk (by unfold scr; omega)) (fun z => hk (by unfold scr; omega))).trans (f1 k (fun z => hk (by unfold scr; omega))), fun k hk _ => (g2 k (by omega)).trans (f2 k (by omega))⟩
  have t49 : S2.1 49 = nI L.length := (g1 49 (by decide) (by decide) (by decide)).trans s49
  have hD2 : Rw S2 0 D := (hD.fr (f1 0 (by decide)) (f2 0 (by decide))).fr (g1 0 (by decide) (by decide) (by decide)) (g2 0 (by decide))
  have h2n : 2 ^ L.length ≤ 512 := Nat.le_trans (Nat.pow_le_pow_right (by decide) hL) (by decide)
  rw [hs, e1, cb_s, e2, cb_s]
  refine lq2 (Q := fun x => ∃ S', x = some (bst (okf (Cf G u t L D) (dif L H)) (2 ^ L.length), S') ∧ FrC S S') (fun d (a b : Int32) => ∃ m, m + d = 2 ^ L.length ∧ b = nI m ∧ a = bst (okf (Cf G u t L D) (dif L H)) m) ?_ _ (2 ^ L.length) _ _ (FU_lt (by omega)) ⟨0, by omega, rfl, rfl⟩
  rintro d a b g ⟨m, hm, rfl, rfl⟩ ih
  rw [t49, shl_n ⟨L.length, by omega⟩]
  dsimp only
  by_cases h0 : d = 0
  · have hmm : m = 2 ^ L.length := by omega
    rw [if_pos (nI_le (by omega) (by omega)), hmm]
    exact ⟨S2, rfl, hFC⟩
  · have hml : m < 2 ^ L.length := by omega
    have hm5 : m < 512 := by omega
    have hhi : ∀ i, i < 9 → L.length ≤ i → bq (nI m) i = false := fun i hi hli => (hi_n ⟨L.length, by omega⟩ ⟨m, hm5⟩).mp hml ⟨i, hi⟩ hli
    have hno : ¬ Cf G u t L D m → ∃ S', g (bst (okf (Cf G u t L D) (dif L H)) m) (nI m + 1) = some (bst (okf (Cf G u t L D) (dif L H)) (2 ^ L.length), S') ∧ FrC S S' := by
      intro hC
      rw [nI_1]
      exact ih (d - 1) _ _ (by omega) ⟨m + 1, by omega, rfl, (bst_o (okf_f hC)).symm⟩
    rw [if_neg (nI_ge hml (by omega))]
    by_cases h52 : (nI m &&& S2.1 52) = 0
    · have c3 : ∀ i, i < L.length → bq (nI m) i = true → sn G (u + 1) u (gl L i) = true → pt (G u 1) (gl L i) ∈ D := fun i hi bi si => by
        have h1 := and_z.mp h52 i (by omega) bi
        by_cases hmem : pt (G u 1) (gl L i) ∈ D
        · exact hmem
        · rw [(b52 i (by omega)).mpr ⟨hi, si, hmem⟩] at h1
          cases h1
      have e51 : dJ_bitCount (nI m &&& S2.1 51) = some (nI (sumN (fun i => if bq (nI m) i = true ∧ sn G (u + 1) u (gl L i) = true then 1 else 0) L.length)) := by
        rw [bits_n (fun i h9 hi => by
          rw [bq_and, bool_iff (b51 i hi) (fun z => by omega), Bool.and_false])]
        congr 2
        rw [sum_hi (n := L.length) hL (fun i h1 h2 => by
          rw [if_neg]
          rw [bq_and, bool_iff (b51 i (by omega)) (fun z => by omega), Bool.and_false]
          simp)]
        refine sum_cg fun i hi => ?_
        have h1 := b51 i (by omega)
        by_cases hx : bq (nI m) i = true ∧ sn G (u + 1) u (gl L i) = true
        · rw [if_pos hx, if_pos (by rw [bq_and, hx.1, h1.mpr ⟨hi, hx.2⟩]; rfl)]
        · rw [if_neg hx, if_neg]
          intro z
          rw [bq_and, Bool.and_eq_true] at z
          exact hx ⟨z.1, (h1.mp z.2).2⟩
      rw [if_pos h52, e51, cb_s, size_n hD2, cb_s]
      by_cases hcnt : sumN (fun i => if bq (nI m) i = true ∧ sn G (u + 1) u (gl L i) = true then 1 else 0) L.length = D.length
      · rw [if_pos (by rw [hcnt])]
        rcases unlike_n (x := nI m) t49 hL b43 with ⟨hU, e3⟩ | ⟨hU, e3⟩
        · have hC : Cf G u t L D m := ⟨hhi, hU, c3, hcnt⟩
          have e50 : dJ_bitCount (nI m ^^^ S2.1 50) = some (nI (dif L H m)) := by
            rw [bits_n (fun i h9 hi => by
              rw [bq_xor, bool_iff (b50 i hi) (fun z => by omega), bq_m ⟨m, hm5⟩ ⟨i, hi⟩ h9]
              rfl)]
            congr 2
            unfold dif
            rw [sum_hi (n := L.length) hL (fun i h1 h2 => by
              rw [if_neg]
              rw [bq_xor, bool_iff (b50 i (by omega)) (fun z => by omega), hhi i h2 h1]
              simp)]
            refine sum_cg fun i hi => ?_
            have h1 := b50 i (by omega)
            have h2 : bq (S2.1 50) i = decide (gl L i ∈ H) := by
              by_cases hmem : gl L i ∈ H
              · rw [h1.mpr ⟨hi, hmem⟩, decide_eq_true hmem]
              · rw [bool_iff h1 (fun z => hmem z.2), decide_eq_false hmem]
            rw [bq_xor, h2]
            by_cases he : bq (nI m) i = decide (gl L i ∈ H)
            · rw [if_pos he, he, Bool.xor_self, if_neg (by simp)]
            · rw [if_neg he, if_pos]
              cases hx : bq (nI m) i <;> cases hy : decide (gl L i ∈ H) <;> rw [hx, hy] at he <;> first | rfl | exact absurd rfl he
          rw [e3, cb_s, if_neg z10, e50, cb_s, nI_1]
          have hbs := bst_s (okf_t (dif := dif L H) hC)
          by_cases hbm : bst (okf (Cf G u t L D) (dif L H)) m = -1
          · rw [if_pos hbm]
            rw [if_pos hbm] at hbs
            exact ih (d - 1) _ _ (by omega) ⟨m + 1, by omega, rfl, hbs.symm⟩
          · rw [if_neg hbm, lt_d]
            rw [if_neg hbm] at hbs
            exact ih (d - 1) _ _ (by omega) ⟨m + 1, by omega, rfl, hbs.symm⟩
        · rw [e3, cb_s, if_pos z00]
          exact hno fun z => hU z.2.1
      · have hs9 : ∀ f : Nat → Nat, (∀ i, f i ≤ 1) → ∀ n, sumN f n ≤ n := by
          intro f hf n
          induction n with
          | zero => exact Nat.le_refl 0
          | succ n ihn =>
            show sumN f n + f n ≤ n + 1
            have := hf n
            omega
        have hb1 := hs9 (fun i => if bq (nI m) i = true ∧ sn G (u + 1) u (gl L i) = true then 1 else 0) (fun i => by
          split <;> omega) L.length
        have hDl := hD2.2.1
        rw [dcap_0] at hDl
        rw [if_neg (fun z => hcnt ((nI_eq (by omega) (by omega)).mp z))]
        exact hno fun z => hcnt z.2.2.2
    · rw [if_neg h52]
      refine hno fun z => h52 (and_z.mpr fun i hi bi => bool_iff (b52 i hi) ?_)
      rintro ⟨q1, q2, q3⟩
      exact q3 (z.2.2.1 i q1 bi q2)
