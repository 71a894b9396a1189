/-! ===== fewest: rows tried, sets of rows, views over one table ===== -/
def tl (s : Int32) : Nat → List Nat
  | 0 => [0]
  | c + 1 => if bt s c then tl s c ++ (tl s c).map (fun r => r + 10 ^ c) ++ (tl s c).map (fun r => r + 2 * 10 ^ c) else tl s c
def pc (m : Nat) : Nat := sumN (fun k => if bt (nI m) k then 1 else 0) 6
theorem tl_d : ∀ m : Fin 64, pc m.1 ≤ 2 → (tl (nI m.1) 6).length ≤ 9 ∧ (∀ j : Fin 9, ∀ i : Fin 9, i.1 < j.1 → j.1 < (tl (nI m.1) 6).length → gl (tl (nI m.1) 6) i.1 < gl (tl (nI m.1) 6) j.1) ∧ ∀ j : Fin 9, j.1 < (tl (nI m.1) 6).length → pt (nI m.1) (gl (tl (nI m.1) 6) j.1) = gl (tl (nI m.1) 6) j.1 := by decide +kernel
theorem tl_len {s : Int32} {c : Nat} : (tl s c).length ≤ (tl s (c + 1)).length ∧ 0 < (tl s c).length := by
  constructor
  · show (tl s c).length ≤ (if bt s c then _ else _ : List Nat).length
    split
    · rw [List.length_append, List.length_append]; omega
    · exact Nat.le_refl _
  · induction c with
    | zero => exact Nat.zero_lt_one
    | succ c ih =>
      show 0 < (if bt s c then _ else _ : List Nat).length
      split
      · rw [List.length_append, List.length_append]; omega
      · exact ih
theorem tl_mo {s : Int32} {a b : Nat} (h : a ≤ b) : (tl s a).length ≤ (tl s b).length := by
  induction b with
  | zero => rw [show a = 0 by omega]; exact Nat.le_refl _
  | succ b ih =>
    by_cases hab : a = b + 1
    · rw [hab]; exact Nat.le_refl _
    · exact Nat.le_trans (ih (by omega)) tl_len.1
theorem tl_all {s : Int32} {d : Nat → Nat} (h2 : ∀ j, d j ≤ 2) (h0 : ∀ j, bt s j = false → d j = 0) : ∀ c, nf d c ∈ tl s c := by
  intro c
  induction c with
  | zero => exact List.mem_singleton.mpr rfl
  | succ c ih =>
    show nf d c + d c * 10 ^ c ∈ (if bt s c then _ else _ : List Nat)
    cases hb : bt s c
    · rw [if_neg (by simp), h0 c hb, Nat.zero_mul, Nat.add_zero]
      exact ih
    · rw [if_pos rfl, List.mem_append, List.mem_append, List.mem_map, List.mem_map]
      have := h2 c
      have hd : d c = 0 ∨ d c = 1 ∨ d c = 2 := by omega
      rcases hd with z | z | z
      · rw [z, Nat.zero_mul, Nat.add_zero]
        exact Or.inl (Or.inl ih)
      · rw [z, Nat.one_mul]
        exact Or.inl (Or.inr ⟨_, ih, rfl⟩)
      · rw [z]
        exact Or.inr ⟨_, ih, rfl⟩
theorem tl_mem {s : Int32} {r : Nat} (hv : pt s r = r) (h2 : ∀ j, j < 6 → dg r j ≤ 2) : r ∈ tl s 6 := by
  have h := tl_all (s := s) (d := fun j => if j < 6 ∧ bt s j = true then dg r j else 0) (fun j => by
    split
    · rename_i h; exact h2 j h.1
    · exact Nat.zero_le _) (fun j hj => by
    rw [if_neg (fun z => by rw [hj] at z; cases z.2)]) 6
  have e : nf (fun j => if j < 6 ∧ bt s j = true then dg r j else 0) 6 = r := by
    have hd : ∀ j, j < 6 → (fun j => if j < 6 ∧ bt s j = true then dg r j else 0) j < 10 := fun j _ => by
      dsimp only
      split
      · exact dg_lt r j
      · decide
    refine dg_ext (nf_lt (c := 6) hd) (val_lt hv) fun j hj => ?_
    rw [dg_nf hd, if_pos hj]
    cases hb : bt s j
    · rw [if_neg (by simp), val_0 hv hj hb]
    · rw [if_pos ⟨hj, rfl⟩]
  rw [e] at h
  exact h
theorem insR_perm {r : Nat} {l : List Nat} (h : r ∉ l) : (insR r l).Perm (r :: l) := by
  unfold insR
  rw [if_neg h]
  have e : l.take (insP r l l.length) ++ l.drop (insP r l l.length) = l := List.take_append_drop _ _
  have := (List.perm_middle (a := r) (l₁ := l.take (insP r l l.length)) (l₂ := l.drop (insP r l l.length)))
  rwa [e] at this
/-- the rows of a set -/
def rs (L : List Nat) (x : Int32) : Nat → List Nat
  | 0 => []
  | k + 1 => if bq x k then insR (gl L k) (rs L x k) else rs L x k
theorem rs_mem {L : List Nat} {x : Int32} {q : Nat} : ∀ k, q ∈ rs L x k ↔ ∃ i, i < k ∧ bq x i = true ∧ q = gl L i := by
  intro k
  induction k with
  | zero => exact ⟨fun h => (by cases h), fun ⟨i, h, _⟩ => (by omega)⟩
  | succ k ih =>
    show q ∈ (if bq x k then _ else _ : List Nat) ↔ _
    cases hb : bq x k
    · rw [if_neg (by simp), ih]
      exact ⟨fun ⟨i, a, b, c⟩ => ⟨i, by omega, b, c⟩, fun ⟨i, a, b, c⟩ => ⟨i, by
        have : i ≠ k := fun z => by rw [z, hb] at b; cases b
        omega, b, c⟩⟩
    · rw [if_pos rfl, insR_mem, ih]
      constructor
      · rintro (rfl | ⟨i, a, b, c⟩)
        · exact ⟨k, by omega, hb, rfl⟩
        · exact ⟨i, by omega, b, c⟩
      · rintro ⟨i, a, b, c⟩
        by_cases hik : i = k
        · exact Or.inl (hik ▸ c)
        · exact Or.inr ⟨i, by omega, b, c⟩
theorem rs_srt {L : List Nat} {x : Int32} : ∀ k, Srt (rs L x k) := by
  intro k
  induction k with
  | zero => exact Srt_nil
  | succ k ih =>
    show Srt (if bq x k then _ else _ : List Nat)
    split
    · exact insR_srt ih
    · exact ih
theorem rs_cnt {L : List Nat} {x : Int32} (hL : Srt L) {p : Nat → Bool} : ∀ k, k ≤ L.length → ((rs L x k).filter p).length = sumN (fun i => if bq x i = true ∧ p (gl L i) = true then 1 else 0) k := by
  intro k
  induction k with
  | zero => intro _; rfl
  | succ k ih =>
    intro hk
    show ((if bq x k then _ else _ : List Nat).filter p).length = sumN _ k + (if bq x k = true ∧ p (gl L k) = true then 1 else 0)
    rw [← ih (by omega)]
    cases hb : bq x k
    · rw [if_neg (by simp), if_neg (by simp)]
      rfl
    · have hni : gl L k ∉ rs L x k := fun z => by
        obtain ⟨i, a, -, c⟩ := (rs_mem k).mp z
        have := hL i k a (by omega)
        omega
      rw [if_pos rfl, ((insR_perm hni).filter p).length_eq]
      cases hp : p (gl L k)
      · rw [List.filter_cons_of_neg (by simp [hp]), if_neg (by simp)]
        rfl
      · rw [List.filter_cons_of_pos (by simp [hp]), if_pos ⟨rfl, rfl⟩]
        rfl
theorem rs_len {L : List Nat} {x : Int32} (k : Nat) : (rs L x k).length ≤ k := by
  induction k with
  | zero => exact Nat.le_refl 0
  | succ k ih =>
    show (if bq x k then _ else _ : List Nat).length ≤ k + 1
    split
    · exact Nat.le_trans insR_le (by omega)
    · omega
theorem srt_eq : ∀ {l1 l2 : List Nat}, l1.Pairwise (· < ·) → l2.Pairwise (· < ·) → (∀ x, x ∈ l1 ↔ x ∈ l2) → l1 = l2 := by
  intro l1
  induction l1 with
  | nil =>
    intro l2 _ _ h
    cases l2 with
    | nil => rfl
    | cons b t => exact absurd ((h b).mpr List.mem_cons_self) (by simp)
  | cons a t ih =>
    intro l2 h1 h2 h
    cases l2 with
    | nil => exact absurd ((h a).mp List.mem_cons_self) (by simp)
    | cons b t2 =>
      obtain ⟨a1, a2⟩ := List.pairwise_cons.mp h1
      obtain ⟨b1, b2⟩ := List.pairwise_cons.mp h2
      have hab : a = b := by
        rcases List.mem_cons.mp ((h a).mp List.mem_cons_self) with z | z
        · exact z
        · rcases List.mem_cons.mp ((h b).mpr List.mem_cons_self) with w | w
          · exact w.symm
          · have := b1 a z
            have := a1 b w
            omega
      subst hab
      rw [ih a2 b2 fun x => ?_]
      constructor
      · intro hx
        rcases List.mem_cons.mp ((h x).mp (List.mem_cons_of_mem _ hx)) with z | z
        · have := a1 x hx
          omega
        · exact z
      · intro hx
        rcases List.mem_cons.mp ((h x).mpr (List.mem_cons_of_mem _ hx)) with z | z
        · have := b1 x hx
          omega
        · exact z
theorem sub_eq {l1 l2 : List Nat} (h1 : Srt l1) (h2 : Srt l2) (hs : ∀ x, x ∈ l1 → x ∈ l2) (hl : l1.length = l2.length) : l1 = l2 := by
  refine srt_eq (Srt_pw h1) (Srt_pw h2) fun x => ⟨hs x, fun hx => ?_⟩
  by_cases hm : x ∈ l1
  · exact hm
  · exfalso
    have h3 := rem_lt hx
    have h4 := sub_len (l2 := rem x l2) (Srt_nodup h1) fun y hy => rem_mem.mpr ⟨hs y hy, fun z => hm (z ▸ hy)⟩
    omega
/-! views over one table -/
def sn (G : Gt) : Nat → Nat → Nat → Bool
  | 0 => fun _ _ => true
  | n + 1 => fun v r => (if G v 6 = 4 then selB G v r else true) && (if G v 6 = 6 then true else sn G n (vl G v) r)
theorem one_k {G : Gt} {nt nv v t : Nat} (hO : OKG G nt nv) (hv : v < nv) (ht : t < 3) (hm : G v 3 = 1 <<< (nI t &&& 31)) : G v 6 ≠ 2 ∧ (G v 6 = 6 → vt G v = t) ∧ (G v 6 ≠ 6 → G (vl G v) 3 = 1 <<< (nI t &&& 31) ∧ G v 2 = G (vl G v) 2) ∧ (G v 6 = 6 → G v 2 = G (20 + t) 1 ∧ G v 1 = G (20 + t) 0) := by
  have hA := hO.2.1 v hv
  have h3 := hO.1.1.1
  have hb : ∀ c, c < 32 → bt (G v 3) c = true → c = t := fun c hc hbc => by
    rw [hm, bt_one (by omega) hc] at hbc
    exact of_decide_eq_true hbc
  have hvt : G v 6 = 6 → vt G v = t := fun k6 => by
    obtain ⟨-, htn⟩ := hO.1.T' hv k6
    obtain ⟨-, -, a3⟩ := hA.1 k6
    exact hb _ (by omega) (by rw [a3, bt_one (by omega) (by omega), decide_eq_true rfl])
  have hn2 : G v 6 ≠ 2 := by
    intro k6
    obtain ⟨-, -, a3, -, a5, -⟩ := hA.2.2.2 k6
    have hl := (hO.1.L' hv (ne6_2 k6)).2
    have hr := (hO.1.R' hv k6).2
    obtain ⟨c1, d1, e1⟩ := mask_ne hO _ (vl G v) (Nat.lt_succ_self _) (by omega)
    obtain ⟨c2, d2, e2⟩ := mask_ne hO _ (vr G v) (Nat.lt_succ_self _) (by omega)
    have f1 := hb c1 d1 (by rw [a3, bt_or d1, e1]; rfl)
    have f2 := hb c2 d2 (by rw [a3, bt_or d2, e2, Bool.or_true])
    have h1 : bt (G (vl G v) 3 &&& G (vr G v) 3) c1 = false := by rw [a5, bt_0 d1]
    rw [bt_and d1, e1, f1, ← f2, e2] at h1
    cases h1
  refine ⟨hn2, hvt, fun k6 => ?_, fun k6 => ?_⟩
  · rcases hO.1.K hv with z | z | z | z
    · obtain ⟨-, a2, a3, -⟩ := hA.2.2.1 z
      exact ⟨a3.symm.trans hm, a2⟩
    · exact absurd z hn2
    · obtain ⟨-, a2, a3, -⟩ := hA.2.1 z
      exact ⟨a3.symm.trans hm, a2⟩
    · exact absurd z k6
  · obtain ⟨a1, a2, -⟩ := hA.1 k6
    rw [hvt k6] at a1 a2
    exact ⟨a2, a1⟩
theorem one_key {G : Gt} {nt nv t : Nat} (hO : OKG G nt nv) (ht : t < 3) : ∀ b v, v < b → v < nv → G v 3 = 1 <<< (nI t &&& 31) → G v 2 = G (20 + t) 1 ∧ sub (G v 1) (G (20 + t) 0) := by
  intro b
  induction b with
  | zero => intro v h; omega
  | succ b ih =>
    intro v hb hv hm
    obtain ⟨o1, o2, o3, o4⟩ := one_k hO hv ht hm
    by_cases k6 : G v 6 = 6
    · obtain ⟨a, c⟩ := o4 k6
      exact ⟨a, by rw [c]; exact sub_rf⟩
    · have hl := (hO.1.L' hv k6).2
      obtain ⟨a, c⟩ := o3 k6
      obtain ⟨i1, i2⟩ := ih (vl G v) (by omega) (by omega) a
      refine ⟨c.trans i1, ?_⟩
      rcases hO.1.K hv with z | z | z | z
      · obtain ⟨c', w, -, -, -, -, -, -, -, hs⟩ := drop_f (hO.2.1 v hv) z
        intro j hj hbj
        refine i2 j hj ?_
        rw [hs j hj] at hbj
        cases hq : bt (G (vl G v) 1) j
        · rw [hq] at hbj; cases hbj
        · rfl
      · exact absurd z o1
      · obtain ⟨a1, -⟩ := (hO.2.1 v hv).2.1 z
        rw [a1]; exact i2
      · exact absurd z k6
theorem selB_pt {G : Gt} {v r c : Nat} {s : Int32} (h7 : G v 7 = nI c) (hc : c < 6) (hb : bt s c = true) : selB G v (pt s r) = selB G v r := by
  unfold selB
  rw [h7, nI_clamp (by omega), dg_pt hc, if_pos hb]
theorem fold_selI {G : Gt} {v x : Nat} : ∀ {l acc : List Nat}, (x ∈ acc ∨ (x ∈ l ∧ selB G v x = true)) → x ∈ l.foldl (stS G v) acc := by
  intro l
  induction l with
  | nil =>
    intro acc h
    rcases h with h | ⟨h, -⟩
    · exact h
    · cases h
  | cons a t ih =>
    intro acc h
    rw [List.foldl_cons]
    refine ih ?_
    rcases h with h | ⟨h1, h2⟩
    · left
      unfold stS
      split
      · exact insR_mem.mpr (Or.inr h)
      · exact h
    · rcases List.mem_cons.mp h1 with rfl | z
      · left
        unfold stS
        rw [if_pos h2]
        exact insR_mem.mpr (Or.inl rfl)
      · exact Or.inr ⟨z, h2⟩
theorem VV_sel {G : Gt} {Tb : Nat → List Nat} {nt nv v x : Nat} (hG : WG G nt nv) (hv : v < nv) (k6 : G v 6 = 4) : x ∈ VV G Tb v ↔ x ∈ VV G Tb (vl G v) ∧ selB G v x = true := by
  have e : src G Tb (VV G Tb) v = VV G Tb (vl G v) := if_neg (ne6_4 k6)
  rw [VV_eq hG hv, e, stp_4 k6]
  constructor
  · intro h
    rcases fold_mem (P := fun r x => x = r ∧ selB G v x = true) (fun acc r x h => by
      unfold stS at h
      by_cases hs : selB G v r = true
      · rw [if_pos hs] at h
        rcases insR_mem.mp h with q | q
        · exact Or.inr ⟨q, q ▸ hs⟩
        · exact Or.inl q
      · rw [if_neg hs] at h
        exact Or.inl h) h with q | ⟨r, h1, rfl, h2⟩
    · cases q
    · exact ⟨h1, h2⟩
  · intro h
    exact fold_selI (Or.inr h)
theorem VV_chain {G : Gt} {Tb : Nat → List Nat} {nt nv t : Nat} (hO : OKG G nt nv) (hT : ∀ t, t < nt → FT G t (Tb t)) (ht : t < 3) : ∀ b v, v < b → v < nv → G v 3 = 1 <<< (nI t &&& 31) → ∀ n, v < n → ∀ x, x ∈ VV G Tb v ↔ ∃ r, r ∈ Tb t ∧ sn G n v r = true ∧ x = pt (G v 1) r := by
  intro b
  induction b with
  | zero => intro v h; omega
  | succ b ih =>
    intro v hb hv hm n hn x
    obtain ⟨n, rfl⟩ : ∃ m, n = m + 1 := ⟨n - 1, by omega⟩
    obtain ⟨o1, o2, o3, o4⟩ := one_k hO hv ht hm
    have hsn : ∀ r, sn G (n + 1) v r = ((if G v 6 = 4 then selB G v r else true) && (if G v 6 = 6 then true else sn G n (vl G v) r)) := fun r => rfl
    rcases hO.1.K hv with k6 | k6 | k6 | k6
    · have hl := (hO.1.L' hv (ne6_1 k6)).2
      have hi := ih (vl G v) (by omega) (by omega) (o3 (ne6_1 k6)).1 n (by omega)
      have hsub : sub (G v 1) (G (vl G v) 1) := by
        obtain ⟨c', w, -, -, -, -, -, -, -, hs⟩ := drop_f (hO.2.1 v hv) k6
        intro j hj hbj
        rw [hs j hj] at hbj
        cases hq : bt (G (vl G v) 1) j
        · rw [hq] at hbj; cases hbj
        · rfl
      have hs : ∀ r, sn G (n + 1) v r = sn G n (vl G v) r := fun r => by rw [hsn, if_neg (show ¬ G v 6 = 4 by rw [k6]; decide), if_neg (ne6_1 k6), Bool.true_and]
      constructor
      · intro h
        obtain ⟨y, hy, rfl⟩ := VV_m1 hO.1 hv k6 h
        obtain ⟨r, h1, h2, rfl⟩ := (hi y).mp hy
        exact ⟨r, h1, by rw [hs]; exact h2, by rw [pt_pt hsub]⟩
      · rintro ⟨r, h1, h2, rfl⟩
        have e : src G Tb (VV G Tb) v = VV G Tb (vl G v) := if_neg (ne6_1 k6)
        rw [VV_eq hO.1 hv, e, stp_1 k6]
        refine fold_memI (g := pt (G v 1)) (Or.inr ⟨pt (G (vl G v) 1) r, (hi _).mpr ⟨r, h1, by rw [← hs]; exact h2, rfl⟩, by rw [pt_pt hsub]⟩)
    · exact absurd k6 o1
    · have hl := (hO.1.L' hv (ne6_4 k6)).2
      have hi := ih (vl G v) (by omega) (by omega) (o3 (ne6_4 k6)).1 n (by omega)
      obtain ⟨a1, -, -, ⟨c, hc, h7, hbc⟩, -⟩ := (hO.2.1 v hv).2.1 k6
      have hs : ∀ r, sn G (n + 1) v r = (selB G v r && sn G n (vl G v) r) := fun r => by rw [hsn, if_pos k6, if_neg (ne6_4 k6)]
      rw [VV_sel hO.1 hv k6, hi x]
      constructor
      · rintro ⟨⟨r, h1, h2, rfl⟩, h3⟩
        rw [selB_pt h7 hc hbc] at h3
        exact ⟨r, h1, by rw [hs, h2, h3]; rfl, by rw [a1]⟩
      · rintro ⟨r, h1, h2, rfl⟩
        rw [hs] at h2
        have h3 : selB G v r = true := by
          cases z : selB G v r
          · rw [z] at h2; cases h2
          · rfl
        rw [h3, Bool.true_and] at h2
        refine ⟨⟨r, h1, h2, by rw [a1]⟩, ?_⟩
        rw [a1, selB_pt h7 hc hbc]
        exact h3
    · have e : VV G Tb v = Tb t := by
        have e : src G Tb (VV G Tb) v = Tb (vt G v) := if_pos k6
        rw [VV_eq hO.1 hv, e, stp_6 k6, o2 k6]
        have := (hO.1.T' hv k6).2
        rw [o2 k6] at this
        exact fold_srt (hT t this).2.1
      have htn : t < nt := by
        have := (hO.1.T' hv k6).2
        rwa [o2 k6] at this
      have hs : ∀ r, sn G (n + 1) v r = true := fun r => by rw [hsn, if_neg (show ¬ G v 6 = 4 by rw [k6]; decide), if_pos k6]; rfl
      have hval : ∀ r, r ∈ Tb t → pt (G v 1) r = r := fun r hr => by rw [(o4 k6).2]; exact (hT t htn).2.2.1 r hr
      rw [e]
      constructor
      · intro h
        exact ⟨x, h, hs x, (hval x h).symm⟩
      · rintro ⟨r, h1, -, rfl⟩
        rw [hval r h1]
        exact h1
/-- when a view over one table shows the draft -/
theorem shows_n {G : Gt} {Tb : Nat → List Nat} {nt nv t v : Nat} {D : List Nat} (hO : OKG G nt nv) (hT : ∀ t, t < nt → FT G t (Tb t)) (ht : t < nt) (hv : v < nv) (hm : G v 3 = 1 <<< (nI t &&& 31)) (hD : Srt D) : VV G Tb v = D ↔ (∀ r, r ∈ Tb t → sn G (v + 1) v r = true → pt (G v 1) r ∈ D) ∧ ((Tb t).filter (sn G (v + 1) v)).length = D.length := by
  have h3 := hO.1.1.1
  have hF := FV_n hO hT hv
  have hc := VV_chain hO hT (show t < 3 by omega) (v + 1) v (Nat.lt_succ_self v) hv hm (v + 1) (Nat.lt_succ_self v)
  obtain ⟨hk, -⟩ := one_key hO (show t < 3 by omega) (v + 1) v (Nat.lt_succ_self v) hv hm
  have hlen : (VV G Tb v).length = ((Tb t).filter (sn G (v + 1) v)).length := by
    refine Nat.le_antisymm ?_ ?_
    · have := sub_len (l1 := VV G Tb v) (l2 := ((Tb t).filter (sn G (v + 1) v)).map (pt (G v 1))) (Srt_nodup hF.2.1) fun x hx => by
        obtain ⟨r, h1, h2, rfl⟩ := (hc x).mp hx
        exact List.mem_map.mpr ⟨r, List.mem_filter.mpr ⟨h1, h2⟩, rfl⟩
      rwa [List.length_map] at this
    · have hn : (((Tb t).filter (sn G (v + 1) v)).map (pt (G v 1))).Nodup := by
        refine List.pairwise_map.mpr ?_
        have hp : ((Tb t).filter (sn G (v + 1) v)).Pairwise (· ≠ ·) := (Srt_nodup (hT t ht).2.1).filter _
        refine hp.imp_of_mem fun {a b} ha hb hab he => hab ?_
        refine (hT t ht).2.2.2 a (List.mem_filter.mp ha).1 b (List.mem_filter.mp hb).1 ?_
        rw [← hk]
        have := congrArg (pt (G v 2)) he
        rwa [pt_pt (hO.2.2 v hv), pt_pt (hO.2.2 v hv)] at this
      have := sub_len (l2 := VV G Tb v) hn fun x hx => by
        obtain ⟨r, h1, rfl⟩ := List.mem_map.mp hx
        exact (hc _).mpr ⟨r, (List.mem_filter.mp h1).1, (List.mem_filter.mp h1).2, rfl⟩
      rwa [List.length_map] at this
  constructor
  · rintro rfl
    exact ⟨fun r h1 h2 => (hc _).mpr ⟨r, h1, h2, rfl⟩, hlen.symm⟩
  · rintro ⟨h1, h2⟩
    refine sub_eq hF.2.1 hD (fun x hx => ?_) (hlen.trans h2)
    obtain ⟨r, h3, h4, rfl⟩ := (hc x).mp hx
    exact h1 r h3 h4
