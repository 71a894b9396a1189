/-! ===== class and reference while they plan ===== -/
def Stk (M : St) (st : List Nat) : Prop := M.1 30 = nI st.length ∧ Sg (M.2 31) 0 st
theorem Stk.fr {M M' : St} {st : List Nat} (h : Stk M st) (h1 : M'.1 30 = M.1 30) (h2 : M'.2 31 = M.2 31) : Stk M' st := ⟨h1.trans h.1, by rw [h2]; exact h.2⟩
def kids (G : Gt) (v : Nat) : List Nat := if G v 6 = 6 then [] else if G v 6 = 2 then [vl G v, vr G v] else [vl G v]
theorem mask_ne {G : Gt} {nt nv : Nat} (hO : OKG G nt nv) : ∀ b v, v < b → v < nv → ∃ c, c < 32 ∧ bt (G v 3) c = true := by
  intro b
  induction b with
  | zero => intro v h; omega
  | succ b ih =>
    intro v hb hv
    have h3 := hO.1.1.1
    rcases hO.1.K hv with k6 | k6 | k6 | k6
    · have := (hO.1.L' hv (ne6_1 k6)).2
      obtain ⟨-, -, a3, -⟩ := (hO.2.1 v hv).2.2.1 k6
      rw [a3]
      exact ih _ (by omega) (by omega)
    · have := (hO.1.L' hv (ne6_2 k6)).2
      obtain ⟨-, -, a3, -⟩ := (hO.2.1 v hv).2.2.2 k6
      obtain ⟨c, hc, hb2⟩ := ih (vl G v) (by omega) (by omega)
      exact ⟨c, hc, by rw [a3, bt_or hc, hb2]; rfl⟩
    · have := (hO.1.L' hv (ne6_4 k6)).2
      obtain ⟨-, -, a3, -⟩ := (hO.2.1 v hv).2.1 k6
      rw [a3]
      exact ih _ (by omega) (by omega)
    · have := (hO.1.T' hv k6).2
      obtain ⟨-, -, a3⟩ := (hO.2.1 v hv).1 k6
      exact ⟨vt G v, by omega, by rw [a3, bt_one (by omega) (by omega), decide_eq_true rfl]⟩
theorem kids_ne {G : Gt} {nt nv v : Nat} (hO : OKG G nt nv) (hv : v < nv) (k6 : G v 6 = 2) : vl G v ≠ vr G v := by
  intro he
  have hl := (hO.1.L' hv (ne6_2 k6)).2
  obtain ⟨-, -, -, -, a5, -⟩ := (hO.2.1 v hv).2.2.2 k6
  obtain ⟨c, hc, hb⟩ := mask_ne hO _ (vl G v) (Nat.lt_succ_self _) (by omega)
  rw [← he] at a5
  have h1 : bt (G (vl G v) 3 &&& G (vl G v) 3) c = false := by rw [a5, bt_0 hc]
  rw [bt_and hc, hb] at h1
  cases h1
