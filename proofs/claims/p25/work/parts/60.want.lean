/-! ===== wanted rows: counting ===== -/
theorem rem_lt {a : Nat} : ∀ {l : List Nat}, a ∈ l → (rem a l).length + 1 ≤ l.length := by
  intro l
  induction l with
  | nil => intro h; cases h
  | cons b t ih =>
    intro h
    unfold rem
    by_cases hb : b = a
    · rw [List.filter_cons_of_neg (by simp [hb]), List.length_cons]
      have := List.length_filter_le (fun q => decide (q ≠ a)) t
      omega
    · have ha : a ∈ t := by
        rcases List.mem_cons.mp h with z | z
        · exact absurd z.symm hb
        · exact z
      rw [List.filter_cons_of_pos (by simp [hb]), List.length_cons, List.length_cons]
      have := ih ha
      unfold rem at this
      omega
theorem sub_len : ∀ {l1 l2 : List Nat}, l1.Nodup → (∀ x, x ∈ l1 → x ∈ l2) → l1.length ≤ l2.length := by
  intro l1
  induction l1 with
  | nil => intro l2 _ _; exact Nat.zero_le _
  | cons a t ih =>
    intro l2 hn hs
    obtain ⟨h1, h2⟩ := List.nodup_cons.mp hn
    have h3 := rem_lt (hs a List.mem_cons_self)
    have h4 := ih (l2 := rem a l2) h2 fun x hx => rem_mem.mpr ⟨hs x (List.mem_cons_of_mem _ hx), fun z => h1 (z ▸ hx)⟩
    rw [List.length_cons]
    omega
def nw (V l : List Nat) : List Nat := l.filter (fun r => decide (r ∉ V))
theorem nw_mem {V l : List Nat} {r : Nat} : r ∈ nw V l ↔ r ∈ l ∧ r ∉ V := by
  unfold nw
  rw [List.mem_filter, decide_eq_true_iff]
theorem nw_len {V : List Nat} : ∀ {l : List Nat}, l.length = (l.filter (fun r => decide (r ∈ V))).length + (nw V l).length := by
  intro l
  induction l with
  | nil => rfl
  | cons a t ih =>
    unfold nw at ih ⊢
    by_cases h : a ∈ V
    · rw [List.filter_cons_of_pos (by simpa using h), List.filter_cons_of_neg (by simpa using h), List.length_cons, List.length_cons]
      omega
    · rw [List.filter_cons_of_neg (by simpa using h), List.filter_cons_of_pos (by simpa using h), List.length_cons, List.length_cons]
      omega
theorem nw_32 {V l : List Nat} (hV : V.length ≤ 12) (hn : l.Nodup) (h : (nw V l).length ≤ 20) : l.length ≤ 32 := by
  have h1 := nw_len (V := V) (l := l)
  have h2 := sub_len (l1 := l.filter (fun r => decide (r ∈ V))) (l2 := V) (hn.filter _) fun x hx => by
    rw [List.mem_filter, decide_eq_true_iff] at hx
    exact hx.2
  omega
/-- new rows go to new rows -/
theorem nw_map {V V' l l' : List Nat} {f : Nat → Nat} (hn : l'.Nodup) (h : ∀ x, x ∈ l' → x ∉ V' → ∃ r, r ∈ l ∧ r ∉ V ∧ x = f r) : (nw V' l').length ≤ (nw V l).length := by
  have := sub_len (l1 := nw V' l') (l2 := (nw V l).map f) (hn.filter _) fun x hx => by
    obtain ⟨h1, h2⟩ := nw_mem.mp hx
    obtain ⟨r, h3, h4, rfl⟩ := h x h1 h2
    exact List.mem_map.mpr ⟨r, nw_mem.mpr ⟨h3, h4⟩, rfl⟩
  rwa [List.length_map] at this
theorem nw_ins {V l : List Nat} {r : Nat} (hn : l.Nodup) (hr : r ∈ V) : (nw V (insR r l)).length ≤ (nw V l).length :=
  nw_map (f := id) (insR_nodup hn) fun x hx hxV => by
    rcases insR_mem.mp hx with rfl | z
    · exact absurd hr hxV
    · exact ⟨x, z, hxV, rfl⟩
def okC (V l : List Nat) : Prop := V.length ≤ 12 ∧ Srt l ∧ (nw V l).length ≤ 20
theorem okC.len {V l : List Nat} (h : okC V l) : l.length ≤ 32 := nw_32 h.1 (Srt_nodup h.2.1) h.2.2
theorem okC.ins {V l : List Nat} {r : Nat} (h : okC V l) (hr : r ∈ V) : okC V (insR r l) := ⟨h.1, insR_srt h.2.1, Nat.le_trans (nw_ins (Srt_nodup h.2.1) hr) h.2.2⟩
theorem okC.room {V l : List Nat} {r : Nat} (h : okC V (insR r l)) : r ∈ l ∨ l.length < 32 := by
  by_cases hm : r ∈ l
  · exact Or.inl hm
  · have := h.len
    rw [insR_len hm] at this
    exact Or.inr (by omega)
def okW (G : Gt) (V : List Nat) (v : Nat) (l : List Nat) : Prop := okC V l ∧ ∀ r, r ∈ l → pt (G v 1) r = r
theorem okW.ok {G : Gt} {V : List Nat} {v : Nat} {l : List Nat} (h : okW G V v l) : okL l := fun r hr => val_lt (h.2 r hr)
/-! what is wanted of the views below -/
def free (k : Int32) (l : List Nat) (r : Nat) : Bool := (fnd k (pt k r) l).isNone
theorem free_iff {k : Int32} {l : List Nat} {r : Nat} : free k l r = true ↔ ∀ q, q ∈ l → pt k q ≠ pt k r := by
  unfold free
  rw [Option.isNone_iff_eq_none]
  constructor
  · intro h q hq
    exact fnd_none h hq
  · intro h
    refine fnd_no fun j hj => h _ (gl_mem hj)
def wP (s : Int32) (l : List Nat) : List Nat := l.foldl (fun acc r => insR (pt s r) acc) []
/-- the row that a dropped column's value is put back into -/
def hvn (G : Gt) (V : List Nat) (v r : Nat) : Nat := match fnd (G v 2) (pt (G v 2) r) V with
  | none => (G v 8).toNatClampNeg
  | some q => dg q (G v 7).toNatClampNeg
def hid (G : Gt) (V : List Nat) (v r : Nat) : Nat := sd r (G v 7).toNatClampNeg (hvn G V v r)
def paD (G : Gt) (V : List Nat) (v : Nat) (l : List Nat) : List Nat := l.foldl (fun acc r => insR (hid G V v r) acc) []
def adS (G : Gt) (v : Nat) (l acc : List Nat) (r : Nat) : List Nat := if selB G v r = false ∧ free (G v 2) l r = true then insR r acc else acc
def paS (G : Gt) (V : List Nat) (v : Nat) (l : List Nat) : List Nat := V.foldl (adS G v l) l
def adF (k : Int32) (l acc : List Nat) (r : Nat) : List Nat := if free k l r = true then insR r acc else acc
def paR (G : Gt) (V : List Nat) (v : Nat) (l : List Nat) : List Nat := V.foldl (adF (G (vr G v) 2) (wP (G (vr G v) 1) l)) (wP (G (vr G v) 1) l)
def adL (k cm : Int32) (l W acc : List Nat) (r : Nat) : List Nat := if free k l r = true ∧ free cm W r = true then insR r acc else acc
def paL (G : Gt) (V W : List Nat) (v : Nat) (l : List Nat) : List Nat := V.foldl (adL (G (vl G v) 2) (G v 10) (wP (G (vl G v) 1) l) W) (wP (G (vl G v) 1) l)
theorem fold_memP {g : Nat → Nat} {l : List Nat} {x : Nat} (h : x ∈ l.foldl (fun acc r => insR (g r) acc) []) : ∃ r, r ∈ l ∧ x = g r := by
  rcases fold_mem (P := fun r x => x = g r) (fun acc r x h => by
    rcases insR_mem.mp h with q | q
    · exact Or.inr q
    · exact Or.inl q) h with q | q
  · cases q
  · exact q
theorem fold_memI {g : Nat → Nat} : ∀ {l acc : List Nat} {x : Nat}, (x ∈ acc ∨ ∃ r, r ∈ l ∧ x = g r) → x ∈ l.foldl (fun acc r => insR (g r) acc) acc := by
  intro l
  induction l with
  | nil =>
    intro acc x h
    rcases h with h | ⟨r, h, -⟩
    · exact h
    · cases h
  | cons a t ih =>
    intro acc x h
    rw [List.foldl_cons]
    refine ih ?_
    rcases h with h | ⟨r, h1, h2⟩
    · exact Or.inl (insR_mem.mpr (Or.inr h))
    · rcases List.mem_cons.mp h1 with rfl | z
      · exact Or.inl (insR_mem.mpr (Or.inl h2))
      · exact Or.inr ⟨r, z, h2⟩
theorem fold_srtP {g : Nat → Nat} {l : List Nat} : Srt (l.foldl (fun acc r => insR (g r) acc) []) := fold_Srt (fun acc r h => insR_srt h) Srt_nil
/-- adding shown rows -/
theorem add_okC {V : List Nat} {f : List Nat → Nat → List Nat} (hf : ∀ acc r, f acc r = acc ∨ f acc r = insR r acc) : ∀ {L acc : List Nat}, (∀ r, r ∈ L → r ∈ V) → okC V acc → okC V (L.foldl f acc) := by
  intro L
  induction L with
  | nil => intro acc _ h; exact h
  | cons a t ih =>
    intro acc hL h
    rw [List.foldl_cons]
    refine ih (fun r hr => hL r (List.mem_cons_of_mem _ hr)) ?_
    rcases hf acc a with z | z
    · rw [z]; exact h
    · rw [z]; exact h.ins (hL a List.mem_cons_self)
theorem add_mem {f : List Nat → Nat → List Nat} (hf : ∀ acc r, f acc r = acc ∨ f acc r = insR r acc) {L acc : List Nat} {x : Nat} (h : x ∈ L.foldl f acc) : x ∈ acc ∨ x ∈ L := by
  rcases fold_mem (P := fun r x => x = r) (fun acc r x h => by
    rcases hf acc r with z | z
    · rw [z] at h; exact Or.inl h
    · rw [z] at h
      rcases insR_mem.mp h with q | q
      · exact Or.inr q
      · exact Or.inl q) h with q | ⟨r, h1, h2⟩
  · exact Or.inl q
  · exact Or.inr (h2 ▸ h1)
theorem adS_or {G : Gt} {v : Nat} {l : List Nat} (acc : List Nat) (r : Nat) : adS G v l acc r = acc ∨ adS G v l acc r = insR r acc := by
  unfold adS
  split
  · exact Or.inr rfl
  · exact Or.inl rfl
theorem adF_or {k : Int32} {l : List Nat} (acc : List Nat) (r : Nat) : adF k l acc r = acc ∨ adF k l acc r = insR r acc := by
  unfold adF
  split
  · exact Or.inr rfl
  · exact Or.inl rfl
theorem adL_or {k cm : Int32} {l W : List Nat} (acc : List Nat) (r : Nat) : adL k cm l W acc r = acc ∨ adL k cm l W acc r = insR r acc := by
  unfold adL
  split
  · exact Or.inr rfl
  · exact Or.inl rfl
