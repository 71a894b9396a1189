/-! ===== sets of columns, bit by bit (the rows bq_* began as kit/laws/BITS' family of Int32's bits) ===== -/
def bq (x : Int32) (i : Nat) : Bool := x.toBitVec.getLsbD i
theorem bq_ext {x y : Int32} (h : ∀ i, i < 32 → bq x i = bq y i) : x = y := Int32.toBitVec_inj.mp (BitVec.eq_of_getLsbD_eq (fun i hi => h i hi))
theorem bq_or (x y : Int32) (i : Nat) : bq (x ||| y) i = (bq x i || bq y i) := by unfold bq; rw [Int32.toBitVec_or, BitVec.getLsbD_or]
theorem bq_and (x y : Int32) (i : Nat) : bq (x &&& y) i = (bq x i && bq y i) := by unfold bq; rw [Int32.toBitVec_and, BitVec.getLsbD_and]
theorem bq_xor (x y : Int32) (i : Nat) : bq (x ^^^ y) i = (bq x i ^^ bq y i) := by unfold bq; rw [Int32.toBitVec_xor, BitVec.getLsbD_xor]
theorem bq_m1 : ∀ i, i < 32 → bq (-1) i = true := by decide +kernel
theorem bq_1 : ∀ i, i < 32 → bq 1 i = decide (i = 0) := by decide +kernel
theorem bq_0 (i : Nat) : bq 0 i = false := BitVec.getLsbD_zero
theorem bq_sl : ∀ n, n < 32 → ((nI n &&& 31).toBitVec.smod 32).toNat = n := by decide +kernel
theorem bq_shl (n : Nat) (hn : n < 32) (x : Int32) {i : Nat} (hi : i < 32) : bq (x <<< (nI n &&& 31)) i = (decide (n ≤ i) && bq x (i - n)) := by
  unfold bq
  rw [Int32.toBitVec_shiftLeft]
  show (x.toBitVec <<< ((nI n &&& 31).toBitVec.smod 32).toNat).getLsbD i = _
  rw [bq_sl n hn, BitVec.getLsbD_shiftLeft]
  rcases Nat.lt_or_ge i n with h | h
  · simp [h, Nat.not_le.mpr h]
  · simp [hi, h, Nat.not_lt.mpr h]
theorem bq_sshr (n : Nat) (hn : n < 32) (x : Int32) {i : Nat} (hi : i < 32) : bq (x >>> (nI n &&& 31)) i = if n + i < 32 then bq x (n + i) else bq x 31 := by
  unfold bq
  rw [Int32.toBitVec_shiftRight]
  show (x.toBitVec.sshiftRight ((nI n &&& 31).toBitVec.smod 32).toNat).getLsbD i = _
  rw [bq_sl n hn, BitVec.getLsbD_sshiftRight, BitVec.msb_eq_getLsbD_last]
  simp [hi]
theorem bt_bq {s : Int32} {c : Nat} (hc : c < 32) : bt s c = bq s c := by
  unfold bt
  have e : ∀ i, i < 32 → bq ((s >>> (nI c &&& 31)) &&& 1) i = (decide (i = 0) && bq s c) := by
    intro i hi
    rw [bq_and, bq_1 i hi, bq_sshr c hc s hi]
    by_cases h0 : i = 0
    · subst h0
      rw [Nat.add_zero, if_pos hc]
      cases bq s c <;> rfl
    · rw [decide_eq_false h0, Bool.and_false, Bool.false_and]
  by_cases h : bq s c = true
  · rw [h]
    refine decide_eq_true (bq_ext fun i hi => ?_)
    rw [e i hi, h, bq_1 i hi, Bool.and_true]
  · have h2 : bq s c = false := by cases hb : bq s c <;> simp_all
    rw [h2]
    refine decide_eq_false fun z => ?_
    have z2 := e 0 (by decide)
    rw [z, h2, bq_1 0 (by decide)] at z2
    simp at z2
theorem bt_or {s t : Int32} {c : Nat} (hc : c < 32) : bt (s ||| t) c = (bt s c || bt t c) := by rw [bt_bq hc, bt_bq hc, bt_bq hc, bq_or]
theorem bt_and {s t : Int32} {c : Nat} (hc : c < 32) : bt (s &&& t) c = (bt s c && bt t c) := by rw [bt_bq hc, bt_bq hc, bt_bq hc, bq_and]
theorem bt_not {s : Int32} {c : Nat} (hc : c < 32) : bt (s ^^^ (-1)) c = !bt s c := by rw [bt_bq hc, bt_bq hc, bq_xor, bq_m1 c hc, Bool.xor_true]
theorem bt_one {k c : Nat} (hk : k < 32) (hc : c < 32) : bt (1 <<< (nI k &&& 31)) c = decide (c = k) := by
  rw [bt_bq hc, bq_shl k hk 1 hc]
  by_cases h : k ≤ c
  · rw [decide_eq_true h, bq_1 _ (by omega), Bool.true_and]
    by_cases h2 : c = k
    · rw [decide_eq_true h2, decide_eq_true (by omega)]
    · rw [decide_eq_false h2, decide_eq_false (by omega)]
  · rw [decide_eq_false h, Bool.false_and, decide_eq_false (by omega)]
theorem bt_0 {c : Nat} (hc : c < 32) : bt 0 c = false := by rw [bt_bq hc, bq_0]
