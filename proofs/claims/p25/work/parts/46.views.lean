/-! ===== the views' rows, told by the tables' ===== -/
def src (G : Gt) (Tb V : Nat → List Nat) (v : Nat) : List Nat := if G v 6 = 6 then Tb (vt G v) else V (vl G v)
def Vn (G : Gt) (Tb : Nat → List Nat) : Nat → Nat → List Nat
  | 0 => fun _ => []
  | n + 1 => fun v => (src G Tb (Vn G Tb n) v).foldl (stp G (Vn G Tb n) v) []
def VV (G : Gt) (Tb : Nat → List Nat) (v : Nat) : List Nat := Vn G Tb (v + 1) v
theorem src_cg {G : Gt} {Tb V V' : Nat → List Nat} {v : Nat} (h : G v 6 ≠ 6 → V (vl G v) = V' (vl G v)) : src G Tb V v = src G Tb V' v := by
  unfold src
  by_cases h6 : G v 6 = 6
  · rw [if_pos h6, if_pos h6]
  · rw [if_neg h6, if_neg h6, h h6]
theorem stp_cg {G : Gt} {V V' : Nat → List Nat} {v : Nat} (h : G v 6 = 2 → V (vr G v) = V' (vr G v)) : stp G V v = stp G V' v := by
  unfold stp
  by_cases h2 : G v 6 = 2
  · rw [if_pos h2, if_pos h2, h h2]
  · rw [if_neg h2, if_neg h2]
theorem Vn_st {G : Gt} {Tb : Nat → List Nat} {nt nv : Nat} (hG : WG G nt nv) : ∀ b v, v < b → v < nv → ∀ n m, v < n → v < m → Vn G Tb n v = Vn G Tb m v := by
  intro b
  induction b with
  | zero => intro v h; omega
  | succ b ih =>
    intro v hb hv n m hn hm
    obtain ⟨n, rfl⟩ : ∃ q, n = q + 1 := ⟨n - 1, by omega⟩
    obtain ⟨m, rfl⟩ : ∃ q, m = q + 1 := ⟨m - 1, by omega⟩
    have e1 : src G Tb (Vn G Tb n) v = src G Tb (Vn G Tb m) v := src_cg fun h6 => by
      have q := (hG.L' hv h6).2
      exact ih _ (by omega) (by omega) n m (by omega) (by omega)
    have e2 : stp G (Vn G Tb n) v = stp G (Vn G Tb m) v := stp_cg fun h2 => by
      have q := (hG.R' hv h2).2
      exact ih _ (by omega) (by omega) n m (by omega) (by omega)
    show (src G Tb (Vn G Tb n) v).foldl (stp G (Vn G Tb n) v) [] = (src G Tb (Vn G Tb m) v).foldl (stp G (Vn G Tb m) v) []
    rw [e1, e2]
theorem VV_eq {G : Gt} {Tb : Nat → List Nat} {nt nv v : Nat} (hG : WG G nt nv) (hv : v < nv) : VV G Tb v = (src G Tb (VV G Tb) v).foldl (stp G (VV G Tb) v) [] := by
  have e1 : src G Tb (Vn G Tb v) v = src G Tb (VV G Tb) v := src_cg fun h6 => by
    have q := (hG.L' hv h6).2
    exact Vn_st hG _ _ (Nat.lt_succ_self _) (by omega) v (vl G v + 1) (by omega) (by omega)
  have e2 : stp G (Vn G Tb v) v = stp G (VV G Tb) v := stp_cg fun h2 => by
    have q := (hG.R' hv h2).2
    exact Vn_st hG _ _ (Nat.lt_succ_self _) (by omega) v (vr G v + 1) (by omega) (by omega)
  show (src G Tb (Vn G Tb v) v).foldl (stp G (Vn G Tb v) v) [] = _
  rw [e1, e2]
theorem VV_cg {G G' : Gt} {Tb Tb' : Nat → List Nat} {nt nv : Nat} (hG : WG G nt nv) (hg : ∀ v, v < nv → G' v = G v) (ht : ∀ t, t < nt → Tb' t = Tb t) : ∀ b v, v < b → v < nv → ∀ n, v < n → Vn G' Tb' n v = Vn G Tb n v := by
  intro b
  induction b with
  | zero => intro v h; omega
  | succ b ih =>
    intro v hb hv n hn
    obtain ⟨n, rfl⟩ : ∃ q, n = q + 1 := ⟨n - 1, by omega⟩
    have g1 := hg v hv
    have gl1 : vl G' v = vl G v := by unfold vl; rw [g1]
    have gr1 : vr G' v = vr G v := by unfold vr; rw [g1]
    have gt1 : vt G' v = vt G v := by unfold vt; rw [g1]
    have e1 : src G' Tb' (Vn G' Tb' n) v = src G Tb (Vn G Tb n) v := by
      unfold src
      rw [gl1, gt1, g1]
      by_cases h6 : G v 6 = 6
      · rw [if_pos h6, if_pos h6, ht _ (hG.T' hv h6).2]
      · have q := (hG.L' hv h6).2
        rw [if_neg h6, if_neg h6, ih _ (by omega) (by omega) n (by omega)]
    have e2 : stp G' (Vn G' Tb' n) v = stp G (Vn G Tb n) v := by
      unfold stp
      rw [g1]
      by_cases h2 : G v 6 = 2
      · have q := (hG.R' hv h2).2
        have q2 := (hG.L' hv (ne6_2 h2)).2
        rw [if_pos h2, if_pos h2, gr1, ih _ (by omega) (by omega) n (by omega)]
        unfold stJ
        rw [gr1, gl1, g1, hg _ (show vr G v < nv by omega), hg _ (show vl G v < nv by omega)]
      · rw [if_neg h2, if_neg h2]
        have s1 : stS G' v = stS G v := by unfold stS selB; rw [g1]
        have s2 : stD G' v = stD G v := by unfold stD; rw [g1]
        rw [s1, s2]
    show (src G' Tb' (Vn G' Tb' n) v).foldl (stp G' (Vn G' Tb' n) v) [] = (src G Tb (Vn G Tb n) v).foldl (stp G (Vn G Tb n) v) []
    rw [e1, e2]
def FV (G : Gt) (v : Nat) (l : List Nat) : Prop := l.length ≤ 12 ∧ Srt l ∧ (∀ r, r ∈ l → pt (G v 1) r = r) ∧ unl (G v 2) l
def FT (G : Gt) (t : Nat) (l : List Nat) : Prop := l.length ≤ 12 ∧ Srt l ∧ (∀ r, r ∈ l → pt (G (20 + t) 0) r = r) ∧ unl (G (20 + t) 1) l
theorem FV.ok {G : Gt} {v : Nat} {l : List Nat} (h : FV G v l) : okL l := fun r hr => val_lt (h.2.2.1 r hr)
theorem FT.ok {G : Gt} {t : Nat} {l : List Nat} (h : FT G t l) : okL l := fun r hr => val_lt (h.2.2.1 r hr)
theorem fold_mem {f : List Nat → Nat → List Nat} {P : Nat → Nat → Prop} (hf : ∀ acc r x, x ∈ f acc r → x ∈ acc ∨ P r x) : ∀ {l acc : List Nat} {x : Nat}, x ∈ l.foldl f acc → x ∈ acc ∨ ∃ r, r ∈ l ∧ P r x := by
  intro l
  induction l with
  | nil => intro acc x h; exact Or.inl h
  | cons a t ih =>
    intro acc x h
    rw [List.foldl_cons] at h
    rcases ih h with q | ⟨r, h1, h2⟩
    · rcases hf _ _ _ q with q | q
      · exact Or.inl q
      · exact Or.inr ⟨a, List.mem_cons_self, q⟩
    · exact Or.inr ⟨r, List.mem_cons_of_mem _ h1, h2⟩
theorem fold_Srt {f : List Nat → Nat → List Nat} (hf : ∀ acc r, Srt acc → Srt (f acc r)) : ∀ {l acc : List Nat}, Srt acc → Srt (l.foldl f acc) := by
  intro l
  induction l with
  | nil => intro acc h; exact h
  | cons a t ih => intro acc h; exact ih (hf _ _ h)
theorem stp_srt {G : Gt} {V : Nat → List Nat} {v : Nat} (acc : List Nat) (r : Nat) (h : Srt acc) : Srt (stp G V v acc r) := by
  unfold stp
  split
  · unfold stJ
    split
    · exact h
    · exact insR_srt h
  · split
    · unfold stS
      split
      · exact insR_srt h
      · exact h
    · split
      · exact insR_srt h
      · exact insR_srt h
/-- a joined row, digit by digit -/
theorem join_dg {lc rc : Int32} {r q : Nat} (hr : pt lc r = r) : r + pt (rc &&& (lc ^^^ (-1))) q < 1000000 ∧ ∀ j, j < 6 → dg (r + pt (rc &&& (lc ^^^ (-1))) q) j = if bt lc j = true then dg r j else if bt rc j = true then dg q j else 0 := by
  have hb : ∀ j, j < 6 → bt (rc &&& (lc ^^^ (-1))) j = (bt rc j && !bt lc j) := fun j hj => by rw [bt_and (by omega), bt_not (by omega)]
  have h1 : ∀ j, j < 6 → dg r j + dg (pt (rc &&& (lc ^^^ (-1))) q) j = if bt lc j = true then dg r j else if bt rc j = true then dg q j else 0 := by
    intro j hj
    rw [dg_pt hj, hb j hj]
    cases h1 : bt lc j
    · rw [val_0 hr hj h1]
      cases h2 : bt rc j
      · simp
      · simp
    · simp
  have h2 : ∀ j, j < 6 → dg r j + dg (pt (rc &&& (lc ^^^ (-1))) q) j < 10 := by
    intro j hj
    rw [h1 j hj]
    have := dg_lt r j
    have := dg_lt q j
    split
    · omega
    · split <;> omega
  have h3 := dg_sum (val_lt hr) (pt_lt (rc &&& (lc ^^^ (-1))) q) h2
  exact ⟨h3.1, fun j hj => (h3.2 j hj).trans (h1 j hj)⟩
theorem join_pl {lc rc k : Int32} {r q : Nat} (hr : pt lc r = r) (hk : sub k lc) : pt k (r + pt (rc &&& (lc ^^^ (-1))) q) = pt k r := pt_eq.mpr fun j hj hb => by rw [(join_dg hr).2 j hj, if_pos (hk j hj hb)]
theorem join_val {lc rc : Int32} {r q : Nat} (hr : pt lc r = r) : pt (lc ||| rc) (r + pt (rc &&& (lc ^^^ (-1))) q) = r + pt (rc &&& (lc ^^^ (-1))) q := by
  refine dg_ext (pt_lt _ _) (join_dg hr).1 fun j hj => ?_
  rw [dg_pt hj, bt_or (by omega), (join_dg hr).2 j hj]
  cases h1 : bt lc j
  · cases h2 : bt rc j
    · simp
    · simp
  · simp
theorem FV_all {G : Gt} {Tb : Nat → List Nat} {nt nv : Nat} (hG : WG G nt nv) (hA : ∀ v, v < nv → GA G v) (hS : ∀ v, v < nv → sub (G v 2) (G v 1)) (hT : ∀ t, t < nt → FT G t (Tb t)) : ∀ b v, v < b → v < nv → FV G v (VV G Tb v) := by
  intro b
  induction b with
  | zero => intro v h; omega
  | succ b ih =>
    intro v hb hv
    rw [VV_eq hG hv]
    have hsrt : Srt ((src G Tb (VV G Tb) v).foldl (stp G (VV G Tb) v) []) := fold_Srt (fun acc r h => stp_srt acc r h) Srt_nil
    have hlen : ∀ l : List Nat, l.length ≤ 12 → (l.foldl (stp G (VV G Tb) v) []).length ≤ 12 := fun l hl => by
      have := fold_le (f := stp G (VV G Tb) v) stp_le l []
      rw [List.length_nil] at this
      omega
    rcases hG.K hv with k6 | k6 | k6 | k6
    · obtain ⟨a1, a2, -, -⟩ := (hA v hv).2.2.1 k6
      have hl := (hG.L' hv (ne6_1 k6)).2
      have hF := ih (vl G v) (by omega) (by omega)
      have hsub := hS (vl G v) (by omega)
      have hsv := hS v hv
      have e : src G Tb (VV G Tb) v = VV G Tb (vl G v) := if_neg (ne6_1 k6)
      rw [e] at hsrt ⊢
      have hm : ∀ x, x ∈ (VV G Tb (vl G v)).foldl (stp G (VV G Tb) v) [] → ∃ r, r ∈ VV G Tb (vl G v) ∧ x = pt (G v 1) r := by
        intro x hx
        rcases fold_mem (P := fun r x => x = pt (G v 1) r) (fun acc r x h => by
          rw [stp_1 k6] at h
          rcases insR_mem.mp h with q | q
          · exact Or.inr q
          · exact Or.inl q) hx with q | q
        · cases q
        · exact q
      refine ⟨hlen _ hF.1, hsrt, fun x hx => ?_, fun x hx y hy he => ?_⟩
      · obtain ⟨r, h1, rfl⟩ := hm x hx
        exact pt_id
      · obtain ⟨r, h1, rfl⟩ := hm x hx
        obtain ⟨s, h2, rfl⟩ := hm y hy
        rw [pt_pt hsv, pt_pt hsv, a2] at he
        rw [hF.2.2.2 r h1 s h2 he]
    · obtain ⟨a1, a2, a3, a10, -, akr⟩ := (hA v hv).2.2.2 k6
      have hl := (hG.L' hv (ne6_2 k6)).2
      have hF := ih (vl G v) (by omega) (by omega)
      have hsub := hS (vl G v) (by omega)
      have e : src G Tb (VV G Tb) v = VV G Tb (vl G v) := if_neg (ne6_2 k6)
      rw [e] at hsrt ⊢
      have hm : ∀ x, x ∈ (VV G Tb (vl G v)).foldl (stp G (VV G Tb) v) [] → ∃ r, r ∈ VV G Tb (vl G v) ∧ ∃ q, fnd (G v 10) (pt (G v 10) r) (VV G Tb (vr G v)) = some q ∧ x = r + pt (G (vr G v) 1 &&& (G (vl G v) 1 ^^^ (-1))) q := by
        intro x hx
        rcases fold_mem (P := fun r x => ∃ q, fnd (G v 10) (pt (G v 10) r) (VV G Tb (vr G v)) = some q ∧ x = r + pt (G (vr G v) 1 &&& (G (vl G v) 1 ^^^ (-1))) q) (fun acc r x h => by
          rw [stp_2 k6] at h
          unfold stJ at h
          cases hf : fnd (G v 10) (pt (G v 10) r) (VV G Tb (vr G v)) with
          | none => rw [hf] at h; exact Or.inl h
          | some q =>
            rw [hf] at h
            rcases insR_mem.mp h with z | z
            · exact Or.inr ⟨q, rfl, z⟩
            · exact Or.inl z) hx with q | q
        · cases q
        · exact q
      refine ⟨hlen _ hF.1, hsrt, fun x hx => ?_, fun x hx y hy he => ?_⟩
      · obtain ⟨r, h1, q, -, rfl⟩ := hm x hx
        rw [a1]
        exact join_val (hF.2.2.1 r h1)
      · obtain ⟨r, h1, q, hq, rfl⟩ := hm x hx
        obtain ⟨s, h2, p, hp, rfl⟩ := hm y hy
        rw [a2, join_pl (hF.2.2.1 r h1) hsub, join_pl (hF.2.2.1 s h2) hsub] at he
        have := hF.2.2.2 r h1 s h2 he
        subst this
        rw [hq] at hp
        cases hp
        rfl
    · obtain ⟨a1, a2, -, -, -⟩ := (hA v hv).2.1 k6
      have hl := (hG.L' hv (ne6_4 k6)).2
      have hF := ih (vl G v) (by omega) (by omega)
      have e : src G Tb (VV G Tb) v = VV G Tb (vl G v) := if_neg (ne6_4 k6)
      rw [e] at hsrt ⊢
      have hm : ∀ x, x ∈ (VV G Tb (vl G v)).foldl (stp G (VV G Tb) v) [] → x ∈ VV G Tb (vl G v) := by
        intro x hx
        rcases fold_mem (P := fun r x => x = r) (fun acc r x h => by
          rw [stp_4 k6] at h
          unfold stS at h
          split at h
          · rcases insR_mem.mp h with q | q
            · exact Or.inr q
            · exact Or.inl q
          · exact Or.inl h) hx with q | ⟨r, h1, rfl⟩
        · cases q
        · exact h1
      refine ⟨hlen _ hF.1, hsrt, fun x hx => ?_, fun x hx y hy he => ?_⟩
      · rw [a1]
        exact hF.2.2.1 x (hm x hx)
      · rw [a2] at he
        exact hF.2.2.2 x (hm x hx) y (hm y hy) he
    · obtain ⟨a1, a2, -⟩ := (hA v hv).1 k6
      have ht := (hG.T' hv k6).2
      have hF := hT _ ht
      have e : src G Tb (VV G Tb) v = Tb (vt G v) := if_pos k6
      rw [e, stp_6 k6, fold_srt hF.2.1]
      refine ⟨hF.1, hF.2.1, fun x hx => ?_, fun x hx y hy he => ?_⟩
      · rw [a1]
        exact hF.2.2.1 x hx
      · rw [a2] at he
        exact hF.2.2.2 x hx y hy he
