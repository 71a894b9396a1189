/-! ===== STAGE B: about the pure texts alone. Numbers: digits and parts of rows ===== -/
theorem cb_s {α β : Type} {z : α} {k : α → Option β} : cb (some z) k = k z := rfl
theorem cb2_s {α σ β : Type} {z : α} {S : σ} {k : α → σ → Option β} : cb2 (some (z, S)) k = k z S := rfl
theorem cb_t {α β : Type} {x : Option α} {z : α} {k : α → Option β} (h : x = some z) : cb x k = k z := by rw [h]; rfl
theorem cb2_t {α σ β : Type} {x : Option (α × σ)} {z : α} {S : σ} {k : α → σ → Option β} (h : x = some (z, S)) : cb2 x k = k z S := by rw [h]; rfl
theorem lt_d {α β : Type} {x : α} {k : α → Option β} : lt x k = k x := rfl
theorem jn_d {K β : Type} {k : K} {b : K → Option β} : jn k b = b k := rfl
theorem gd_t {β : Type} {c : Prop} [dc : Decidable c] {k : Option β} (h : c) : gd c k = k := if_pos h
theorem rd_n {β : Type} {j n : Nat} {k : Nat → Option β} (h : j < n) (hn : n < 2 ^ 31) : rd (nI j) n k = k j := by
  unfold rd
  rw [if_neg (nI_in h hn), nI_clamp (Nat.lt_trans h hn)]
theorem lp_s {K : Type} {bot : K} {F : K → K} {n : Nat} : lp bot F (n + 1) = F (lp bot F n) := rfl
theorem FU_at {d : Nat} (h : d < 1000) : FU = d + 1 + (999 - d) := by unfold FU; omega
theorem i31 {c : Nat} (h : c < 32) : (nI c &&& 31) = nI c := by
  have q : ∀ c : Fin 32, (nI c.1 &&& 31) = nI c.1 := by decide
  exact q ⟨c, h⟩
def dg (r c : Nat) : Nat := r / 10 ^ c % 10
def bt (s : Int32) (c : Nat) : Bool := decide (((s >>> (nI c &&& 31)) &&& 1) = 1)
def ptn (s : Int32) (r : Nat) : Nat → Nat
  | 0 => 0
  | c + 1 => ptn s r c + (if bt s c then dg r c * 10 ^ c else 0)
def pt (s : Int32) (r : Nat) : Nat := ptn s r 6
theorem dg_lt (r c : Nat) : dg r c < 10 := Nat.mod_lt _ (by decide)
theorem ptn_lt (s : Int32) (r c : Nat) : ptn s r c < 10 ^ c := by
  induction c with
  | zero => exact Nat.zero_lt_one
  | succ c ih =>
    have h := dg_lt r c
    unfold ptn
    rw [Nat.pow_succ]
    split
    · have : dg r c * 10 ^ c ≤ 9 * 10 ^ c := Nat.mul_le_mul_right _ (by omega)
      omega
    · have : 0 < 10 ^ c := Nat.pow_pos (by decide)
      omega
theorem pt_lt (s : Int32) (r : Nat) : pt s r < 1000000 := ptn_lt s r 6
theorem p10 {c : Nat} (h : c < 7) : 10 ^ c ≤ 1000000 := by
  have : c = 0 ∨ c = 1 ∨ c = 2 ∨ c = 3 ∨ c = 4 ∨ c = 5 ∨ c = 6 := by omega
  rcases this with rfl | rfl | rfl | rfl | rfl | rfl | rfl <;> decide
theorem rem10 {a : Nat} (h : a < 2 ^ 31) : nI a - nI a / 10 * 10 = nI (a % 10) := pk_rem h (by decide) (by decide)
theorem div10 {a : Nat} (h : a < 2 ^ 31) : nI a / 10 = nI (a / 10) := pk_div (d := 10) h (by decide) (by decide)
theorem isIn_n {c : Nat} {s : Int32} : d1_isIn (nI c) s = some (if bt s c then 1 else 0) := by
  unfold d1_isIn bt
  by_cases h : ((s >>> (nI c &&& 31)) &&& 1) = 1
  · rw [if_pos h, decide_eq_true h, if_pos rfl]
  · rw [if_neg h, decide_eq_false h, if_neg (by decide)]
