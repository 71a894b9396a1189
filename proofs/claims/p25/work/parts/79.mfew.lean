/-! ===== fewest: the reference's rows, tables and tests ===== -/
def rbk (s : Int32) (k : Nat) : Nat → Nat
  | 0 => k
  | c + 1 => if bt s c then rbk s k c / 3 else rbk s k c
def rbr (s : Int32) (k : Nat) : Nat → Nat
  | 0 => 0
  | c + 1 => rbr s k c + (if bt s c then (rbk s k c % 3) * 10 ^ c else 0)
theorem rb_d : ∀ m : Fin 64, pc m.1 ≤ 2 → ∀ k : Fin 9, (k.1 < (tl (nI m.1) 6).length → rbk (nI m.1) k.1 6 = 0 ∧ rbr (nI m.1) k.1 6 = gl (tl (nI m.1) 6) k.1) ∧ ((tl (nI m.1) 6).length ≤ k.1 → rbk (nI m.1) k.1 6 ≠ 0) := by decide +kernel
theorem rbk_le {s : Int32} {k : Nat} : ∀ c, rbk s k c ≤ k := by
  intro c
  induction c with
  | zero => exact Nat.le_refl _
  | succ c ih =>
    show (if bt s c then rbk s k c / 3 else rbk s k c) ≤ k
    split
    · exact Nat.le_trans (Nat.div_le_self _ _) ih
    · exact ih
def FrT (t : Nat) (M M' : St) : Prop := M'.1 = M.1 ∧ (∀ k, k ≠ 5 → k ≠ 6 → M'.2 k = M.2 k) ∧ (∀ j, j ≠ t → M'.2 5 j = M.2 5 j) ∧ ∀ c, (c < 12 * t ∨ 12 * t + 12 ≤ c) → M'.2 6 c = M.2 6 c
theorem FrT.rf {t : Nat} {M : St} : FrT t M M := ⟨rfl, fun _ _ _ => rfl, fun _ _ => rfl, fun _ _ => rfl⟩
theorem FrT.tr {t : Nat} {M M1 M2 : St} (h1 : FrT t M M1) (h2 : FrT t M1 M2) : FrT t M M2 := ⟨h2.1.trans h1.1, fun k a b => (h2.2.1 k a b).trans (h1.2.1 k a b), fun j hj => (h2.2.2.1 j hj).trans (h1.2.2.1 j hj), fun c hc => (h2.2.2.2 c hc).trans (h1.2.2.2 c hc)⟩
theorem FrT.w5 {t : Nat} {M : St} {x : Int32} : FrT t M (w2 M 5 t x) := ⟨rfl, fun k a _ => w2_ne a, fun j hj => w2_nj hj, fun c _ => by rw [w2_ne (by decide)]⟩
def gk (L : List Nat) (ks x : Int32) (k : Nat) : Prop := (∀ i, i < k → bq x i = true → i < L.length) ∧ ∀ i j, i < j → j < k → bq x i = true → bq x j = true → pt ks (gl L i) ≠ pt ks (gl L j)
theorem gl_ext {l1 l2 : List Nat} (hl : l1.length = l2.length) (h : ∀ j, j < l1.length → gl l1 j = gl l2 j) : l1 = l2 := by
  refine List.ext_getElem hl fun j h1 h2 => ?_
  have := h j h1
  unfold gl at this
  rwa [List.getD_eq_getElem?_getD, List.getD_eq_getElem?_getD, List.getElem?_eq_getElem h1, List.getElem?_eq_getElem h2] at this