/-! ===== a digit set anew ===== -/
def sd (r c w : Nat) : Nat := r - dg r c * 10 ^ c + w * 10 ^ c
theorem dg_le {r c : Nat} : dg r c * 10 ^ c ≤ r := Nat.le_trans (Nat.mul_le_mul_right _ (Nat.mod_le _ _)) (Nat.div_mul_le_self r (10 ^ c))
theorem nf_one {c w : Nat} : ∀ n, nf (fun j => if j = c then w else 0) n = if c < n then w * 10 ^ c else 0 := by
  intro n
  induction n with
  | zero => rw [if_neg (by omega)]; rfl
  | succ n ih =>
    show nf (fun j => if j = c then w else 0) n + (if n = c then w else 0) * 10 ^ n = _
    rw [ih]
    by_cases h1 : n = c
    · subst h1
      rw [if_neg (by omega), if_pos rfl, if_pos (by omega), Nat.zero_add]
    · rw [if_neg h1, Nat.zero_mul, Nat.add_zero]
      by_cases h2 : c < n
      · rw [if_pos h2, if_pos (by omega)]
      · rw [if_neg h2, if_neg (by omega)]
theorem sd_nf {r c w : Nat} (hr : r < 1000000) (hc : c < 6) : sd r c w = nf (fun j => if j = c then w else dg r j) 6 := by
  have key : ∀ v, nf (fun j => if j = c then v else dg r j) 6 = nf (fun j => if j = c then 0 else dg r j) 6 + v * 10 ^ c := by
    intro v
    have e : (fun j => if j = c then v else dg r j) = fun j => (if j = c then 0 else dg r j) + (if j = c then v else 0) := by
      funext j
      by_cases h : j = c
      · rw [if_pos h, if_pos h, if_pos h, Nat.zero_add]
      · rw [if_neg h, if_neg h, if_neg h, Nat.add_zero]
    rw [e, nf_add, nf_one, if_pos hc]
  have e2 : (fun j => if j = c then dg r c else dg r j) = dg r := by
    funext j
    by_cases h : j = c
    · rw [if_pos h, h]
    · rw [if_neg h]
  have h1 := key (dg r c)
  rw [e2, nf_dg hr] at h1
  rw [key w]
  unfold sd
  omega
theorem sd_lt {r c w : Nat} (hr : r < 1000000) (hc : c < 6) (hw : w < 10) : sd r c w < 1000000 := by
  rw [sd_nf hr hc]
  refine nf_lt (c := 6) fun j _ => ?_
  split
  · exact hw
  · exact dg_lt r j
theorem sd_dg {r c w j : Nat} (hr : r < 1000000) (hc : c < 6) (hw : w < 10) (hj : j < 6) : dg (sd r c w) j = if j = c then w else dg r j := by
  rw [sd_nf hr hc, dg_nf (fun j _ => by
    split
    · exact hw
    · exact dg_lt r j), if_pos hj]
theorem sd_val {s : Int32} {r c w : Nat} (hr : pt s r = r) (hb : bt s c = true) (hc : c < 6) (hw : w < 10) : pt s (sd r c w) = sd r c w := by
  refine dg_ext (pt_lt _ _) (sd_lt (val_lt hr) hc hw) fun j hj => ?_
  rw [dg_pt hj, sd_dg (val_lt hr) hc hw hj]
  by_cases h : j = c
  · rw [if_pos h, h, if_pos hb]
  · rw [if_neg h]
    cases h2 : bt s j
    · rw [if_neg (by simp), val_0 hr hj h2]
    · rw [if_pos rfl]
theorem with_n {r c w : Nat} (hr : r < 2 ^ 31) (hc : c < 6) (hw : w < 10) : d1_with (nI r) (nI c) (nI w) = some (nI (sd r c w)) := by
  unfold d1_with
  rw [digit_n hr hc, cb_s, told_n hc (dg_lt r c), cb_s, told_n hc hw, cb_s, pk_sub dg_le, nI_add]
  rfl
theorem sd_dec : ∀ w : Fin 10, ∀ d : Fin 10, ∀ c : Fin 6, nI (d.1 * 10 ^ c.1) + (nI w.1 - nI d.1) * nI (10 ^ c.1) = nI (w.1 * 10 ^ c.1) := by decide +kernel
theorem sdI {r c w : Nat} (hc : c < 6) (hw : w < 10) : nI r + (nI w - nI (dg r c)) * nI (10 ^ c) = nI (sd r c w) := by
  have h1 := sd_dec ⟨w, hw⟩ ⟨dg r c, dg_lt r c⟩ ⟨c, hc⟩
  dsimp only at h1
  have h2 : nI r = nI (r - dg r c * 10 ^ c) + nI (dg r c * 10 ^ c) := by rw [nI_add, Nat.sub_add_cancel dg_le]
  unfold sd
  rw [← nI_add, ← h1, ← Int32.add_assoc, ← h2]
theorem at_o {S : St} {i : Nat} {l : List Nat} (h : Rw S i l) {x : Int32} (ho : x < 0 ∨ nI l.length ≤ x) : d4_at i x S = some (-1) := by
  unfold d4_at
  by_cases h0 : x < 0
  · rw [if_pos h0]
  · rw [if_neg h0, h.1, if_pos (ho.resolve_left h0)]