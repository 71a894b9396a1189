/-! ===== passing on, in both ===== -/
def cn : Nat → Nat
  | 0 => 1
  | 1 => 2
  | n + 2 => 1 + cn (n + 1) + cn n
theorem cn_up : ∀ n, 1 + cn n ≤ cn (n + 1) ∧ 1 ≤ cn n := by
  intro n
  induction n with
  | zero => exact ⟨by decide, by decide⟩
  | succ n ih =>
    have e : cn (n + 2) = 1 + cn (n + 1) + cn n := rfl
    have := ih.1
    have := ih.2
    exact ⟨by rw [show n + 1 + 1 = n + 2 from rfl, e]; omega, by omega⟩
theorem cn_mo {a b : Nat} (h : a ≤ b) : cn a ≤ cn b := by
  induction b with
  | zero => rw [show a = 0 by omega]; exact Nat.le_refl _
  | succ b ih =>
    by_cases hab : a = b + 1
    · rw [hab]; exact Nat.le_refl _
    · have := ih (by omega)
      have := (cn_up b).1
      omega
theorem cn_1 {a v : Nat} (h : a < v) : 1 + cn a ≤ cn v := Nat.le_trans (cn_up a).1 (cn_mo h)
theorem cn_2 {a b v : Nat} (ha : a < v) (hb : b < v) (hne : a ≠ b) : 1 + cn a + cn b ≤ cn v := by
  have key : ∀ a b, a < b → b < v → 1 + cn a + cn b ≤ cn v := by
    intro a b hab hbv
    obtain ⟨n, rfl⟩ : ∃ n, b = n + 1 := ⟨b - 1, by omega⟩
    have h1 : cn (n + 2) ≤ cn v := cn_mo (by omega)
    have h2 : cn a ≤ cn n := cn_mo (by omega)
    have e : cn (n + 2) = 1 + cn (n + 1) + cn n := rfl
    omega
  rcases Nat.lt_or_ge a b with z | z
  · exact key a b z hb
  · have := key b a (by omega) ha
    omega
theorem pd_s {G : Gt} {nt nv n v : Nat} {x3 : Int32} {S : St} : d10_passDown G nt nv (n + 1) (some v) x3 S = (gd (v < nv) <| if 10 ≤ x3 then (some S) else (cb (d0_isTold S) fun (z14 : Int32) => if z14 = 0 then (cb (d9_seekConflict G nt nv v S) fun (S19 : St) => cb (d0_isTold S19) fun (z20 : Int32) => if z20 = 0 then (cb (vd (G v 6) (d2_passOn G nt nv v S19) (d3_passOn G nt nv v S19) (d5_passOn G nt nv v S19) (d7_passOn G nt nv v S19)) fun (S25 : St) => lt (oid (G v 5)) fun (o26 : Option Nat) => cb (d10_passDown G nt nv n o26 (x3 + 1) S25) fun (S29 : St) => lt (oid (G v 4)) fun (o30 : Option Nat) => cb (d10_passDown G nt nv n o30 (x3 + 1) S29) fun (S33 : St) => some S33) else (some S19)) else (some S))) := rfl
theorem pd_o {G : Gt} {nt nv n : Nat} {x3 : Int32} {S : St} : d10_passDown G nt nv (n + 1) none x3 S = some S := rfl