section
-- ===== PART A: goes FIRST, ahead of the names: the tables' words, and 'selects' of the private methods out of them =====
/-- a private method of a class that the tables say can be made, by its rows of tables_1 -/
def lw_okq (q : MethodName × Nat) : Prop := (q.1.cls ≠ "java/lang/invoke/MethodHandle" ∧ q.1.cls ≠ "java/lang/invoke/VarHandle") ∧ Cond.instantiable q.1.cls q.2 ∈ tables_1 ∧ Cond.privateMethod q.1 ∈ tables_1 ∧ Cond.instanceMethod q.1 ∈ tables_1
theorem lw_p0 : lw_okq (⟨"java/lang/Throwable", "fillInStackTrace", "(I)Ljava/lang/Throwable;"⟩, 6) := ⟨⟨by decide +kernel, by decide +kernel⟩, List.mem_of_getElem? (i := 177) (by decide +kernel), List.mem_of_getElem? (i := 175) (by decide +kernel), List.mem_of_getElem? (i := 176) (by decide +kernel)⟩
theorem lw_p1 : lw_okq (⟨"Lensbench", "planPutBack", "()V"⟩, 9) := ⟨⟨by decide +kernel, by decide +kernel⟩, List.mem_of_getElem? (i := 22) (by decide +kernel), List.mem_of_getElem? (i := 207) (by decide +kernel), List.mem_of_getElem? (i := 208) (by decide +kernel)⟩
theorem lw_p2 : lw_okq (⟨"Lensbench", "tableAt", "(I)LLensbench$Table;"⟩, 9) := ⟨⟨by decide +kernel, by decide +kernel⟩, List.mem_of_getElem? (i := 22) (by decide +kernel), List.mem_of_getElem? (i := 211) (by decide +kernel), List.mem_of_getElem? (i := 212) (by decide +kernel)⟩
theorem lw_p3 : lw_okq (⟨"Lensbench$DropView", "hiddenValue", "(I)I"⟩, 11) := ⟨⟨by decide +kernel, by decide +kernel⟩, List.mem_of_getElem? (i := 304) (by decide +kernel), List.mem_of_getElem? (i := 302) (by decide +kernel), List.mem_of_getElem? (i := 303) (by decide +kernel)⟩
theorem lw_p4 : lw_okq (⟨"Lensbench", "countPlanned", "()I"⟩, 9) := ⟨⟨by decide +kernel, by decide +kernel⟩, List.mem_of_getElem? (i := 22) (by decide +kernel), List.mem_of_getElem? (i := 406) (by decide +kernel), List.mem_of_getElem? (i := 407) (by decide +kernel)⟩
theorem lw_p5 : lw_okq (⟨"Lensbench", "onlyTable", "(I)LLensbench$Table;"⟩, 9) := ⟨⟨by decide +kernel, by decide +kernel⟩, List.mem_of_getElem? (i := 22) (by decide +kernel), List.mem_of_getElem? (i := 421) (by decide +kernel), List.mem_of_getElem? (i := 422) (by decide +kernel)⟩
theorem lw_p6 : lw_okq (⟨"Lensbench$Trials", "listRows", "(I)V"⟩, 6) := ⟨⟨by decide +kernel, by decide +kernel⟩, List.mem_of_getElem? (i := 67) (by decide +kernel), List.mem_of_getElem? (i := 445) (by decide +kernel), List.mem_of_getElem? (i := 446) (by decide +kernel)⟩
theorem lw_p7 : lw_okq (⟨"Lensbench$Trials", "sortRows", "(LLensbench$View;LLensbench$Table;LLensbench$Rows;)V"⟩, 6) := ⟨⟨by decide +kernel, by decide +kernel⟩, List.mem_of_getElem? (i := 67) (by decide +kernel), List.mem_of_getElem? (i := 451) (by decide +kernel), List.mem_of_getElem? (i := 452) (by decide +kernel)⟩
theorem lw_p8 : lw_okq (⟨"Lensbench$Trials", "rivalsOf", "(II)I"⟩, 6) := ⟨⟨by decide +kernel, by decide +kernel⟩, List.mem_of_getElem? (i := 67) (by decide +kernel), List.mem_of_getElem? (i := 468) (by decide +kernel), List.mem_of_getElem? (i := 469) (by decide +kernel)⟩
theorem lw_p9 : lw_okq (⟨"Lensbench$Trials", "hasUnlikeKeys", "(I)Z"⟩, 6) := ⟨⟨by decide +kernel, by decide +kernel⟩, List.mem_of_getElem? (i := 67) (by decide +kernel), List.mem_of_getElem? (i := 473) (by decide +kernel), List.mem_of_getElem? (i := 474) (by decide +kernel)⟩
theorem lw_p10 : lw_okq (⟨"Lensbench", "viewAt", "(I)LLensbench$View;"⟩, 9) := ⟨⟨by decide +kernel, by decide +kernel⟩, List.mem_of_getElem? (i := 22) (by decide +kernel), List.mem_of_getElem? (i := 619) (by decide +kernel), List.mem_of_getElem? (i := 620) (by decide +kernel)⟩
theorem lw_p11 : lw_okq (⟨"Lensbench", "keepView", "(LLensbench$View;)I"⟩, 9) := ⟨⟨by decide +kernel, by decide +kernel⟩, List.mem_of_getElem? (i := 22) (by decide +kernel), List.mem_of_getElem? (i := 763) (by decide +kernel), List.mem_of_getElem? (i := 764) (by decide +kernel)⟩
theorem lw_p12 : lw_okq (⟨"Lensbench", "showViews", "()V"⟩, 9) := ⟨⟨by decide +kernel, by decide +kernel⟩, List.mem_of_getElem? (i := 22) (by decide +kernel), List.mem_of_getElem? (i := 930) (by decide +kernel), List.mem_of_getElem? (i := 931) (by decide +kernel)⟩
theorem lw_p13 : lw_okq (⟨"Lensbench", "carryOut", "()V"⟩, 9) := ⟨⟨by decide +kernel, by decide +kernel⟩, List.mem_of_getElem? (i := 22) (by decide +kernel), List.mem_of_getElem? (i := 953) (by decide +kernel), List.mem_of_getElem? (i := 954) (by decide +kernel)⟩
theorem lw_p14 : lw_okq (⟨"Lensbench$Table", "forgetOldest", "()V"⟩, 5) := ⟨⟨by decide +kernel, by decide +kernel⟩, List.mem_of_getElem? (i := 885) (by decide +kernel), List.mem_of_getElem? (i := 961) (by decide +kernel), List.mem_of_getElem? (i := 962) (by decide +kernel)⟩
def lw_privs_1 : List (MethodName × Nat) := [(⟨"java/lang/Throwable", "fillInStackTrace", "(I)Ljava/lang/Throwable;"⟩, 6), (⟨"Lensbench", "planPutBack", "()V"⟩, 9), (⟨"Lensbench", "tableAt", "(I)LLensbench$Table;"⟩, 9), (⟨"Lensbench$DropView", "hiddenValue", "(I)I"⟩, 11), (⟨"Lensbench", "countPlanned", "()I"⟩, 9), (⟨"Lensbench", "onlyTable", "(I)LLensbench$Table;"⟩, 9), (⟨"Lensbench$Trials", "listRows", "(I)V"⟩, 6), (⟨"Lensbench$Trials", "sortRows", "(LLensbench$View;LLensbench$Table;LLensbench$Rows;)V"⟩, 6), (⟨"Lensbench$Trials", "rivalsOf", "(II)I"⟩, 6), (⟨"Lensbench$Trials", "hasUnlikeKeys", "(I)Z"⟩, 6), (⟨"Lensbench", "viewAt", "(I)LLensbench$View;"⟩, 9), (⟨"Lensbench", "keepView", "(LLensbench$View;)I"⟩, 9), (⟨"Lensbench", "showViews", "()V"⟩, 9), (⟨"Lensbench", "carryOut", "()V"⟩, 9), (⟨"Lensbench$Table", "forgetOldest", "()V"⟩, 5)]
theorem lw_r1 : ∀ q ∈ lw_privs_1, lw_okq q := List.forall_mem_cons.mpr ⟨lw_p0, List.forall_mem_cons.mpr ⟨lw_p1, List.forall_mem_cons.mpr ⟨lw_p2, List.forall_mem_cons.mpr ⟨lw_p3, List.forall_mem_cons.mpr ⟨lw_p4, List.forall_mem_cons.mpr ⟨lw_p5, List.forall_mem_cons.mpr ⟨lw_p6, List.forall_mem_cons.mpr ⟨lw_p7, List.forall_mem_cons.mpr ⟨lw_p8, List.forall_mem_cons.mpr ⟨lw_p9, List.forall_mem_cons.mpr ⟨lw_p10, List.forall_mem_cons.mpr ⟨lw_p11, List.forall_mem_cons.mpr ⟨lw_p12, List.forall_mem_cons.mpr ⟨lw_p13, List.forall_mem_cons.mpr ⟨lw_p14, fun _ h => absurd h List.not_mem_nil⟩⟩⟩⟩⟩⟩⟩⟩⟩⟩⟩⟩⟩⟩⟩
def lw_privs : List (MethodName × Nat) := lw_privs_1
def lw_tbl : List Cond := k2_sels lw_privs ++ tables_1
theorem lw_privs_ok : ∀ q ∈ lw_privs, lw_okq q := lw_r1
-- all the good words of the tables: every method's words are these, behind its own code
def ALL : List Cond := lw_tbl.filter goodWord
theorem ALL_good : ∀ w ∈ ALL, goodWord w = true := fun _ h => (List.mem_filter.mp h).2
theorem inA {w : Cond} (i : Nat) (h : lw_tbl[i]? = some w) (g : goodWord w = true) : w ∈ ALL := List.mem_filter.mpr ⟨List.mem_of_getElem? h, g⟩
end
section
def RX0 : String := "Lensbench$Conflict"
def TX0 : u_T := fun k => match k with
  | 0 => ("Lensbench$Conflict", "told", "I", false)
  | 1 => ("Lensbench$Conflict", "first", "I", false)
  | _ => ("Lensbench$Conflict", "second", "I", false)
def tyX0 : Nat → FieldType := fun k => match k with
  | 0 => .int
  | 1 => .int
  | _ => .int
theorem nmX0 : ∀ a, a < 3 → ∀ b, b < 3 → a ≠ b → (TX0 a).2.1 ≠ (TX0 b).2.1 := by decide +kernel
theorem tyX0_ok : ∀ k, k < 3 → parseFieldDescriptor (TX0 k).2.2.1 = some (tyX0 k) := by decide +kernel
abbrev cX0_init : ByteArray := prog_2_method_1_code
def yX0_init : MethodName := ⟨RX0, "<init>", "()V"⟩
abbrev cX0_isTold : ByteArray := prog_2_method_2_code
def yX0_isTold : MethodName := ⟨RX0, "isTold", "()Z"⟩
abbrev cX0_clear : ByteArray := prog_2_method_3_code
def yX0_clear : MethodName := ⟨RX0, "clear", "()V"⟩
abbrev cX0_tell : ByteArray := prog_2_method_4_code
def yX0_tell : MethodName := ⟨RX0, "tell", "(III)V"⟩
abbrev cX0_seekPair : ByteArray := prog_2_method_5_code
def yX0_seekPair : MethodName := ⟨RX0, "seekPair", "(LLensbench$View;III)V"⟩
def RX1 : String := "Lensbench$Digits"
def TX1 : u_T := fun k => match k with
  | _ => ("", "", "", false)
def tyX1 : Nat → FieldType := fun k => match k with
  | _ => .int
theorem nmX1 : ∀ a, a < 0 → ∀ b, b < 0 → a ≠ b → (TX1 a).2.1 ≠ (TX1 b).2.1 := by decide +kernel
theorem tyX1_ok : ∀ k, k < 0 → parseFieldDescriptor (TX1 k).2.2.1 = some (tyX1 k) := by decide +kernel
abbrev cX1_isIn : ByteArray := prog_3_method_2_code
def yX1_isIn : MethodName := ⟨RX1, "isIn", "(II)Z"⟩
abbrev cX1_isColumn : ByteArray := prog_3_method_3_code
def yX1_isColumn : MethodName := ⟨RX1, "isColumn", "(II)Z"⟩
abbrev cX1_isValue : ByteArray := prog_3_method_4_code
def yX1_isValue : MethodName := ⟨RX1, "isValue", "(I)Z"⟩
abbrev cX1_isRow : ByteArray := prog_3_method_5_code
def yX1_isRow : MethodName := ⟨RX1, "isRow", "(II)Z"⟩
abbrev cX1_digit : ByteArray := prog_3_method_6_code
def yX1_digit : MethodName := ⟨RX1, "digit", "(II)I"⟩
abbrev cX1_told : ByteArray := prog_3_method_7_code
def yX1_told : MethodName := ⟨RX1, "told", "(II)I"⟩
abbrev cX1_with : ByteArray := prog_3_method_8_code
def yX1_with : MethodName := ⟨RX1, "with", "(III)I"⟩
abbrev cX1_part : ByteArray := prog_3_method_9_code
def yX1_part : MethodName := ⟨RX1, "part", "(II)I"⟩
abbrev cX1_alike : ByteArray := prog_3_method_10_code
def yX1_alike : MethodName := ⟨RX1, "alike", "(III)Z"⟩
def RX2 : String := "Lensbench$DropView"
def TX2 : u_T := fun k => match k with
  | 0 => ("Lensbench$View", "number", "I", true)
  | 1 => ("Lensbench$View", "columns", "I", true)
  | 2 => ("Lensbench$View", "key", "I", true)
  | 3 => ("Lensbench$View", "tables", "I", true)
  | 4 => ("Lensbench$View", "left", "LLensbench$View;", true)
  | 5 => ("Lensbench$View", "right", "LLensbench$View;", true)
  | 6 => ("Lensbench$View", "shown", "LLensbench$Rows;", true)
  | 7 => ("Lensbench$View", "wanted", "LLensbench$Rows;", true)
  | 8 => ("Lensbench$DropView", "source", "LLensbench$View;", true)
  | 9 => ("Lensbench$DropView", "column", "I", true)
  | _ => ("Lensbench$DropView", "value", "I", true)
def tyX2 : Nat → FieldType := fun k => match k with
  | 0 => .int
  | 1 => .int
  | 2 => .int
  | 3 => .int
  | 4 => .object "Lensbench$View"
  | 5 => .object "Lensbench$View"
  | 6 => .object "Lensbench$Rows"
  | 7 => .object "Lensbench$Rows"
  | 8 => .object "Lensbench$View"
  | 9 => .int
  | _ => .int
theorem nmX2 : ∀ a, a < 11 → ∀ b, b < 11 → a ≠ b → (TX2 a).2.1 ≠ (TX2 b).2.1 := by decide +kernel
theorem tyX2_ok : ∀ k, k < 11 → parseFieldDescriptor (TX2 k).2.2.1 = some (tyX2 k) := by decide +kernel
abbrev cX2_init : ByteArray := prog_4_method_1_code
def yX2_init : MethodName := ⟨RX2, "<init>", "(ILLensbench$View;II)V"⟩
abbrev cX2_show : ByteArray := prog_4_method_2_code
def yX2_show : MethodName := ⟨RX2, "show", "()V"⟩
abbrev cX2_seekOwnConflict : ByteArray := prog_4_method_3_code
def yX2_seekOwnConflict : MethodName := ⟨RX2, "seekOwnConflict", "(LLensbench$Conflict;)V"⟩
abbrev cX2_passOn : ByteArray := prog_4_method_4_code
def yX2_passOn : MethodName := ⟨RX2, "passOn", "()V"⟩
abbrev cX2_hiddenValue : ByteArray := prog_4_method_5_code
def yX2_hiddenValue : MethodName := ⟨RX2, "hiddenValue", "(I)I"⟩
def RX3 : String := "Lensbench$JoinView"
def TX3 : u_T := fun k => match k with
  | 0 => ("Lensbench$View", "number", "I", true)
  | 1 => ("Lensbench$View", "columns", "I", true)
  | 2 => ("Lensbench$View", "key", "I", true)
  | 3 => ("Lensbench$View", "tables", "I", true)
  | 4 => ("Lensbench$View", "left", "LLensbench$View;", true)
  | 5 => ("Lensbench$View", "right", "LLensbench$View;", true)
  | 6 => ("Lensbench$View", "shown", "LLensbench$Rows;", true)
  | 7 => ("Lensbench$View", "wanted", "LLensbench$Rows;", true)
  | 8 => ("Lensbench$JoinView", "one", "LLensbench$View;", true)
  | 9 => ("Lensbench$JoinView", "other", "LLensbench$View;", true)
  | _ => ("Lensbench$JoinView", "common", "I", true)
def tyX3 : Nat → FieldType := fun k => match k with
  | 0 => .int
  | 1 => .int
  | 2 => .int
  | 3 => .int
  | 4 => .object "Lensbench$View"
  | 5 => .object "Lensbench$View"
  | 6 => .object "Lensbench$Rows"
  | 7 => .object "Lensbench$Rows"
  | 8 => .object "Lensbench$View"
  | 9 => .object "Lensbench$View"
  | _ => .int
theorem nmX3 : ∀ a, a < 11 → ∀ b, b < 11 → a ≠ b → (TX3 a).2.1 ≠ (TX3 b).2.1 := by decide +kernel
theorem tyX3_ok : ∀ k, k < 11 → parseFieldDescriptor (TX3 k).2.2.1 = some (tyX3 k) := by decide +kernel
abbrev cX3_init : ByteArray := prog_5_method_1_code
def yX3_init : MethodName := ⟨RX3, "<init>", "(ILLensbench$View;LLensbench$View;)V"⟩
abbrev cX3_show : ByteArray := prog_5_method_2_code
def yX3_show : MethodName := ⟨RX3, "show", "()V"⟩
abbrev cX3_seekOwnConflict : ByteArray := prog_5_method_3_code
def yX3_seekOwnConflict : MethodName := ⟨RX3, "seekOwnConflict", "(LLensbench$Conflict;)V"⟩
abbrev cX3_passOn : ByteArray := prog_5_method_4_code
def yX3_passOn : MethodName := ⟨RX3, "passOn", "()V"⟩
def RX4 : String := "Lensbench$Rows"
def TX4 : u_T := fun k => match k with
  | 0 => ("Lensbench$Rows", "numbers", "[I", true)
  | _ => ("Lensbench$Rows", "count", "I", false)
def tyX4 : Nat → FieldType := fun k => match k with
  | 0 => .array .int
  | _ => .int
theorem nmX4 : ∀ a, a < 2 → ∀ b, b < 2 → a ≠ b → (TX4 a).2.1 ≠ (TX4 b).2.1 := by decide +kernel
theorem tyX4_ok : ∀ k, k < 2 → parseFieldDescriptor (TX4 k).2.2.1 = some (tyX4 k) := by decide +kernel
abbrev cX4_init : ByteArray := prog_6_method_1_code
def yX4_init : MethodName := ⟨RX4, "<init>", "(I)V"⟩
abbrev cX4_size : ByteArray := prog_6_method_2_code
def yX4_size : MethodName := ⟨RX4, "size", "()I"⟩
abbrev cX4_at : ByteArray := prog_6_method_3_code
def yX4_at : MethodName := ⟨RX4, "at", "(I)I"⟩
abbrev cX4_has : ByteArray := prog_6_method_4_code
def yX4_has : MethodName := ⟨RX4, "has", "(I)Z"⟩
abbrev cX4_firstLike : ByteArray := prog_6_method_5_code
def yX4_firstLike : MethodName := ⟨RX4, "firstLike", "(II)I"⟩
abbrev cX4_countMissingIn : ByteArray := prog_6_method_6_code
def yX4_countMissingIn : MethodName := ⟨RX4, "countMissingIn", "(LLensbench$Rows;)I"⟩
abbrev cX4_clear : ByteArray := prog_6_method_7_code
def yX4_clear : MethodName := ⟨RX4, "clear", "()V"⟩
abbrev cX4_put : ByteArray := prog_6_method_8_code
def yX4_put : MethodName := ⟨RX4, "put", "(I)V"⟩
abbrev cX4_remove : ByteArray := prog_6_method_9_code
def yX4_remove : MethodName := ⟨RX4, "remove", "(I)V"⟩
abbrev cX4_takeOver : ByteArray := prog_6_method_10_code
def yX4_takeOver : MethodName := ⟨RX4, "takeOver", "(LLensbench$Rows;)V"⟩
def RX5 : String := "Lensbench$SelectView"
def TX5 : u_T := fun k => match k with
  | 0 => ("Lensbench$View", "number", "I", true)
  | 1 => ("Lensbench$View", "columns", "I", true)
  | 2 => ("Lensbench$View", "key", "I", true)
  | 3 => ("Lensbench$View", "tables", "I", true)
  | 4 => ("Lensbench$View", "left", "LLensbench$View;", true)
  | 5 => ("Lensbench$View", "right", "LLensbench$View;", true)
  | 6 => ("Lensbench$View", "shown", "LLensbench$Rows;", true)
  | 7 => ("Lensbench$View", "wanted", "LLensbench$Rows;", true)
  | 8 => ("Lensbench$SelectView", "source", "LLensbench$View;", true)
  | 9 => ("Lensbench$SelectView", "column", "I", true)
  | 10 => ("Lensbench$SelectView", "value", "I", true)
  | _ => ("Lensbench$SelectView", "isSame", "Z", true)
def tyX5 : Nat → FieldType := fun k => match k with
  | 0 => .int
  | 1 => .int
  | 2 => .int
  | 3 => .int
  | 4 => .object "Lensbench$View"
  | 5 => .object "Lensbench$View"
  | 6 => .object "Lensbench$Rows"
  | 7 => .object "Lensbench$Rows"
  | 8 => .object "Lensbench$View"
  | 9 => .int
  | 10 => .int
  | _ => .boolean
theorem nmX5 : ∀ a, a < 12 → ∀ b, b < 12 → a ≠ b → (TX5 a).2.1 ≠ (TX5 b).2.1 := by decide +kernel
theorem tyX5_ok : ∀ k, k < 12 → parseFieldDescriptor (TX5 k).2.2.1 = some (tyX5 k) := by decide +kernel
abbrev cX5_init : ByteArray := prog_7_method_1_code
def yX5_init : MethodName := ⟨RX5, "<init>", "(ILLensbench$View;IIZ)V"⟩
abbrev cX5_selects : ByteArray := prog_7_method_2_code
def yX5_selects : MethodName := ⟨RX5, "selects", "(I)Z"⟩
abbrev cX5_show : ByteArray := prog_7_method_3_code
def yX5_show : MethodName := ⟨RX5, "show", "()V"⟩
abbrev cX5_seekOwnConflict : ByteArray := prog_7_method_4_code
def yX5_seekOwnConflict : MethodName := ⟨RX5, "seekOwnConflict", "(LLensbench$Conflict;)V"⟩
abbrev cX5_passOn : ByteArray := prog_7_method_5_code
def yX5_passOn : MethodName := ⟨RX5, "passOn", "()V"⟩
def RX6 : String := "Lensbench$Table"
def TX6 : u_T := fun k => match k with
  | 0 => ("Lensbench$Table", "columns", "I", true)
  | 1 => ("Lensbench$Table", "key", "I", true)
  | 2 => ("Lensbench$Table", "rows", "LLensbench$Rows;", true)
  | 3 => ("Lensbench$Table", "wanted", "LLensbench$Rows;", true)
  | _ => ("Lensbench$Table", "past", "[LLensbench$Rows;", true)
def tyX6 : Nat → FieldType := fun k => match k with
  | 0 => .int
  | 1 => .int
  | 2 => .object "Lensbench$Rows"
  | 3 => .object "Lensbench$Rows"
  | _ => .array (.object "Lensbench$Rows")
theorem nmX6 : ∀ a, a < 5 → ∀ b, b < 5 → a ≠ b → (TX6 a).2.1 ≠ (TX6 b).2.1 := by decide +kernel
theorem tyX6_ok : ∀ k, k < 5 → parseFieldDescriptor (TX6 k).2.2.1 = some (tyX6 k) := by decide +kernel
abbrev cX6_init : ByteArray := prog_8_method_1_code
def yX6_init : MethodName := ⟨RX6, "<init>", "(II)V"⟩
abbrev cX6_remember : ByteArray := prog_8_method_2_code
def yX6_remember : MethodName := ⟨RX6, "remember", "(I)V"⟩
abbrev cX6_forgetOldest : ByteArray := prog_8_method_3_code
def yX6_forgetOldest : MethodName := ⟨RX6, "forgetOldest", "()V"⟩
abbrev cX6_recall : ByteArray := prog_8_method_4_code
def yX6_recall : MethodName := ⟨RX6, "recall", "(I)V"⟩
def RX7 : String := "Lensbench$TableView"
def TX7 : u_T := fun k => match k with
  | 0 => ("Lensbench$View", "number", "I", true)
  | 1 => ("Lensbench$View", "columns", "I", true)
  | 2 => ("Lensbench$View", "key", "I", true)
  | 3 => ("Lensbench$View", "tables", "I", true)
  | 4 => ("Lensbench$View", "left", "LLensbench$View;", true)
  | 5 => ("Lensbench$View", "right", "LLensbench$View;", true)
  | 6 => ("Lensbench$View", "shown", "LLensbench$Rows;", true)
  | 7 => ("Lensbench$View", "wanted", "LLensbench$Rows;", true)
  | _ => ("Lensbench$TableView", "table", "LLensbench$Table;", true)
def tyX7 : Nat → FieldType := fun k => match k with
  | 0 => .int
  | 1 => .int
  | 2 => .int
  | 3 => .int
  | 4 => .object "Lensbench$View"
  | 5 => .object "Lensbench$View"
  | 6 => .object "Lensbench$Rows"
  | 7 => .object "Lensbench$Rows"
  | _ => .object "Lensbench$Table"
theorem nmX7 : ∀ a, a < 9 → ∀ b, b < 9 → a ≠ b → (TX7 a).2.1 ≠ (TX7 b).2.1 := by decide +kernel
theorem tyX7_ok : ∀ k, k < 9 → parseFieldDescriptor (TX7 k).2.2.1 = some (tyX7 k) := by decide +kernel
abbrev cX7_init : ByteArray := prog_9_method_1_code
def yX7_init : MethodName := ⟨RX7, "<init>", "(ILLensbench$Table;I)V"⟩
abbrev cX7_show : ByteArray := prog_9_method_2_code
def yX7_show : MethodName := ⟨RX7, "show", "()V"⟩
abbrev cX7_seekOwnConflict : ByteArray := prog_9_method_3_code
def yX7_seekOwnConflict : MethodName := ⟨RX7, "seekOwnConflict", "(LLensbench$Conflict;)V"⟩
abbrev cX7_passOn : ByteArray := prog_9_method_4_code
def yX7_passOn : MethodName := ⟨RX7, "passOn", "()V"⟩
def RX8 : String := "Lensbench$Trials"
def TX8 : u_T := fun k => match k with
  | 0 => ("Lensbench$Trials", "tried", "[I", true)
  | 1 => ("Lensbench$Trials", "rivals", "[I", true)
  | 2 => ("Lensbench$Trials", "count", "I", false)
  | 3 => ("Lensbench$Trials", "held", "I", false)
  | 4 => ("Lensbench$Trials", "seen", "I", false)
  | _ => ("Lensbench$Trials", "unwanted", "I", false)
def tyX8 : Nat → FieldType := fun k => match k with
  | 0 => .array .int
  | 1 => .array .int
  | 2 => .int
  | 3 => .int
  | 4 => .int
  | _ => .int
theorem nmX8 : ∀ a, a < 6 → ∀ b, b < 6 → a ≠ b → (TX8 a).2.1 ≠ (TX8 b).2.1 := by decide +kernel
theorem tyX8_ok : ∀ k, k < 6 → parseFieldDescriptor (TX8 k).2.2.1 = some (tyX8 k) := by decide +kernel
abbrev cX8_init : ByteArray := prog_10_method_1_code
def yX8_init : MethodName := ⟨RX8, "<init>", "()V"⟩
abbrev cX8_canTry : ByteArray := prog_10_method_2_code
def yX8_canTry : MethodName := ⟨RX8, "canTry", "(LLensbench$Table;)Z"⟩
abbrev cX8_hasGreatValue : ByteArray := prog_10_method_3_code
def yX8_hasGreatValue : MethodName := ⟨RX8, "hasGreatValue", "(I)Z"⟩
abbrev cX8_fewestChanges : ByteArray := prog_10_method_4_code
def yX8_fewestChanges : MethodName := ⟨RX8, "fewestChanges", "(LLensbench$View;LLensbench$Table;LLensbench$Rows;)I"⟩
abbrev cX8_listRows : ByteArray := prog_10_method_5_code
def yX8_listRows : MethodName := ⟨RX8, "listRows", "(I)V"⟩
abbrev cX8_sortRows : ByteArray := prog_10_method_6_code
def yX8_sortRows : MethodName := ⟨RX8, "sortRows", "(LLensbench$View;LLensbench$Table;LLensbench$Rows;)V"⟩
abbrev cX8_rivalsOf : ByteArray := prog_10_method_7_code
def yX8_rivalsOf : MethodName := ⟨RX8, "rivalsOf", "(II)I"⟩
abbrev cX8_isSeen : ByteArray := prog_10_method_8_code
def yX8_isSeen : MethodName := ⟨RX8, "isSeen", "(LLensbench$View;I)Z"⟩
abbrev cX8_hasUnlikeKeys : ByteArray := prog_10_method_9_code
def yX8_hasUnlikeKeys : MethodName := ⟨RX8, "hasUnlikeKeys", "(I)Z"⟩
def RX9 : String := "Lensbench$View"
def TX9 : u_T := fun k => match k with
  | _ => ("", "", "", false)
def tyX9 : Nat → FieldType := fun k => match k with
  | _ => .int
theorem nmX9 : ∀ a, a < 0 → ∀ b, b < 0 → a ≠ b → (TX9 a).2.1 ≠ (TX9 b).2.1 := by decide +kernel
theorem tyX9_ok : ∀ k, k < 0 → parseFieldDescriptor (TX9 k).2.2.1 = some (tyX9 k) := by decide +kernel
abbrev cX9_init : ByteArray := prog_11_method_1_code
def yX9_init : MethodName := ⟨RX9, "<init>", "(IIIILLensbench$View;LLensbench$View;)V"⟩
abbrev cX9_selects : ByteArray := prog_11_method_5_code
def yX9_selects : MethodName := ⟨RX9, "selects", "(I)Z"⟩
abbrev cX9_seekConflict : ByteArray := prog_11_method_6_code
def yX9_seekConflict : MethodName := ⟨RX9, "seekConflict", "(LLensbench$Conflict;)V"⟩
abbrev cX9_wantsKeyOf : ByteArray := prog_11_method_7_code
def yX9_wantsKeyOf : MethodName := ⟨RX9, "wantsKeyOf", "(I)Z"⟩
abbrev cX9_wantParts : ByteArray := prog_11_method_8_code
def yX9_wantParts : MethodName := ⟨RX9, "wantParts", "(LLensbench$Rows;)V"⟩
def RX10 : String := "Lensbench"
def TX10 : u_T := fun k => match k with
  | 0 => ("Lensbench", "tables", "[LLensbench$Table;", true)
  | 1 => ("Lensbench", "tableCount", "I", false)
  | 2 => ("Lensbench", "views", "[LLensbench$View;", true)
  | 3 => ("Lensbench", "viewCount", "I", false)
  | 4 => ("Lensbench", "draft", "LLensbench$Rows;", true)
  | 5 => ("Lensbench", "draftView", "LLensbench$View;", false)
  | 6 => ("Lensbench", "found", "LLensbench$Conflict;", true)
  | 7 => ("Lensbench", "trials", "LLensbench$Trials;", true)
  | _ => ("Lensbench", "undoCount", "I", false)
def tyX10 : Nat → FieldType := fun k => match k with
  | 0 => .array (.object "Lensbench$Table")
  | 1 => .int
  | 2 => .array (.object "Lensbench$View")
  | 3 => .int
  | 4 => .object "Lensbench$Rows"
  | 5 => .object "Lensbench$View"
  | 6 => .object "Lensbench$Conflict"
  | 7 => .object "Lensbench$Trials"
  | _ => .int
theorem nmX10 : ∀ a, a < 9 → ∀ b, b < 9 → a ≠ b → (TX10 a).2.1 ≠ (TX10 b).2.1 := by decide +kernel
theorem tyX10_ok : ∀ k, k < 9 → parseFieldDescriptor (TX10 k).2.2.1 = some (tyX10 k) := by decide +kernel
abbrev cX10_init : ByteArray := prog_1_method_1_code
def yX10_init : MethodName := ⟨RX10, "<init>", "()V"⟩
abbrev cX10_table : ByteArray := prog_1_method_2_code
def yX10_table : MethodName := ⟨RX10, "table", "(II)I"⟩
abbrev cX10_insert : ByteArray := prog_1_method_3_code
def yX10_insert : MethodName := ⟨RX10, "insert", "(II)I"⟩
abbrev cX10_delete : ByteArray := prog_1_method_4_code
def yX10_delete : MethodName := ⟨RX10, "delete", "(II)I"⟩
abbrev cX10_of : ByteArray := prog_1_method_5_code
def yX10_of : MethodName := ⟨RX10, "of", "(I)I"⟩
abbrev cX10_select : ByteArray := prog_1_method_6_code
def yX10_select : MethodName := ⟨RX10, "select", "(IIIZ)I"⟩
abbrev cX10_drop : ByteArray := prog_1_method_7_code
def yX10_drop : MethodName := ⟨RX10, "drop", "(III)I"⟩
abbrev cX10_join : ByteArray := prog_1_method_8_code
def yX10_join : MethodName := ⟨RX10, "join", "(II)I"⟩
abbrev cX10_columns : ByteArray := prog_1_method_9_code
def yX10_columns : MethodName := ⟨RX10, "columns", "(I)I"⟩
abbrev cX10_key : ByteArray := prog_1_method_10_code
def yX10_key : MethodName := ⟨RX10, "key", "(I)I"⟩
abbrev cX10_rows : ByteArray := prog_1_method_11_code
def yX10_rows : MethodName := ⟨RX10, "rows", "(I)I"⟩
abbrev cX10_row : ByteArray := prog_1_method_12_code
def yX10_row : MethodName := ⟨RX10, "row", "(II)I"⟩
abbrev cX10_open : ByteArray := prog_1_method_13_code
def yX10_open : MethodName := ⟨RX10, "open", "(I)I"⟩
abbrev cX10_add : ByteArray := prog_1_method_14_code
def yX10_add : MethodName := ⟨RX10, "add", "(I)I"⟩
abbrev cX10_takeOut : ByteArray := prog_1_method_15_code
def yX10_takeOut : MethodName := ⟨RX10, "takeOut", "(I)I"⟩
abbrev cX10_change : ByteArray := prog_1_method_16_code
def yX10_change : MethodName := ⟨RX10, "change", "(III)I"⟩
abbrev cX10_draftRow : ByteArray := prog_1_method_17_code
def yX10_draftRow : MethodName := ⟨RX10, "draftRow", "(I)I"⟩
abbrev cX10_conflict : ByteArray := prog_1_method_18_code
def yX10_conflict : MethodName := ⟨RX10, "conflict", "()I"⟩
abbrev cX10_conflictRow : ByteArray := prog_1_method_19_code
def yX10_conflictRow : MethodName := ⟨RX10, "conflictRow", "(I)I"⟩
abbrev cX10_changes : ByteArray := prog_1_method_20_code
def yX10_changes : MethodName := ⟨RX10, "changes", "()I"⟩
abbrev cX10_fewest : ByteArray := prog_1_method_21_code
def yX10_fewest : MethodName := ⟨RX10, "fewest", "()I"⟩
abbrev cX10_putBack : ByteArray := prog_1_method_22_code
def yX10_putBack : MethodName := ⟨RX10, "putBack", "()I"⟩
abbrev cX10_undo : ByteArray := prog_1_method_23_code
def yX10_undo : MethodName := ⟨RX10, "undo", "()I"⟩
abbrev cX10_tableAt : ByteArray := prog_1_method_24_code
def yX10_tableAt : MethodName := ⟨RX10, "tableAt", "(I)LLensbench$Table;"⟩
abbrev cX10_viewAt : ByteArray := prog_1_method_25_code
def yX10_viewAt : MethodName := ⟨RX10, "viewAt", "(I)LLensbench$View;"⟩
abbrev cX10_onlyTable : ByteArray := prog_1_method_26_code
def yX10_onlyTable : MethodName := ⟨RX10, "onlyTable", "(I)LLensbench$Table;"⟩
abbrev cX10_keepView : ByteArray := prog_1_method_27_code
def yX10_keepView : MethodName := ⟨RX10, "keepView", "(LLensbench$View;)I"⟩
abbrev cX10_showViews : ByteArray := prog_1_method_28_code
def yX10_showViews : MethodName := ⟨RX10, "showViews", "()V"⟩
abbrev cX10_planPutBack : ByteArray := prog_1_method_29_code
def yX10_planPutBack : MethodName := ⟨RX10, "planPutBack", "()V"⟩
abbrev cX10_passDown : ByteArray := prog_1_method_30_code
def yX10_passDown : MethodName := ⟨RX10, "passDown", "(LLensbench$View;LLensbench$Conflict;I)V"⟩
abbrev cX10_countPlanned : ByteArray := prog_1_method_31_code
def yX10_countPlanned : MethodName := ⟨RX10, "countPlanned", "()I"⟩
abbrev cX10_carryOut : ByteArray := prog_1_method_32_code
def yX10_carryOut : MethodName := ⟨RX10, "carryOut", "()V"⟩
def RX11 : String := "LensbenchModel"
def TX11 : u_T := fun k => match k with
  | _ => ("", "", "", false)
def tyX11 : Nat → FieldType := fun k => match k with
  | _ => .int
theorem nmX11 : ∀ a, a < 0 → ∀ b, b < 0 → a ≠ b → (TX11 a).2.1 ≠ (TX11 b).2.1 := by decide +kernel
theorem tyX11_ok : ∀ k, k < 0 → parseFieldDescriptor (TX11 k).2.2.1 = some (tyX11 k) := by decide +kernel
def RJx145de : String := "java/io/Serializable"
def RJ6 : String := "java/lang/Integer"
abbrev cJ6_bitCount_0f7a4 : ByteArray := prog_19_method_49_code
def yJ6_bitCount_0f7a4 : MethodName := ⟨RJ6, "bitCount", "(I)I"⟩
def RJ9 : String := "java/lang/Math"
abbrev cJ9_min_7cf53 : ByteArray := prog_20_method_69_code
def yJ9_min_7cf53 : MethodName := ⟨RJ9, "min", "(II)I"⟩
def RJ0 : String := "java/lang/String"
def RL : String := "LensbenchLaw"
abbrev cL_cell : ByteArray := method_2_code
def yL_cell : MethodName := ⟨RL, "cell", "([II)I"⟩
abbrev cL_low : ByteArray := method_3_code
def yL_low : MethodName := ⟨RL, "low", "(II)I"⟩
abbrev cL_table : ByteArray := method_4_code
def yL_table : MethodName := ⟨RL, "table", "(LLensbench;II)I"⟩
abbrev cL_insert : ByteArray := method_5_code
def yL_insert : MethodName := ⟨RL, "insert", "(LLensbench;II)I"⟩
abbrev cL_delete : ByteArray := method_6_code
def yL_delete : MethodName := ⟨RL, "delete", "(LLensbench;II)I"⟩
abbrev cL_of : ByteArray := method_7_code
def yL_of : MethodName := ⟨RL, "of", "(LLensbench;I)I"⟩
abbrev cL_select : ByteArray := method_8_code
def yL_select : MethodName := ⟨RL, "select", "(LLensbench;IIIZ)I"⟩
abbrev cL_drop : ByteArray := method_9_code
def yL_drop : MethodName := ⟨RL, "drop", "(LLensbench;III)I"⟩
abbrev cL_join : ByteArray := method_10_code
def yL_join : MethodName := ⟨RL, "join", "(LLensbench;II)I"⟩
abbrev cL_columns : ByteArray := method_11_code
def yL_columns : MethodName := ⟨RL, "columns", "(LLensbench;I)I"⟩
abbrev cL_key : ByteArray := method_12_code
def yL_key : MethodName := ⟨RL, "key", "(LLensbench;I)I"⟩
abbrev cL_rows : ByteArray := method_13_code
def yL_rows : MethodName := ⟨RL, "rows", "(LLensbench;I)I"⟩
abbrev cL_row : ByteArray := method_14_code
def yL_row : MethodName := ⟨RL, "row", "(LLensbench;II)I"⟩
abbrev cL_open : ByteArray := method_15_code
def yL_open : MethodName := ⟨RL, "open", "(LLensbench;I)I"⟩
abbrev cL_add : ByteArray := method_16_code
def yL_add : MethodName := ⟨RL, "add", "(LLensbench;I)I"⟩
abbrev cL_takeOut : ByteArray := method_17_code
def yL_takeOut : MethodName := ⟨RL, "takeOut", "(LLensbench;I)I"⟩
abbrev cL_change : ByteArray := method_18_code
def yL_change : MethodName := ⟨RL, "change", "(LLensbench;III)I"⟩
abbrev cL_draftRow : ByteArray := method_19_code
def yL_draftRow : MethodName := ⟨RL, "draftRow", "(LLensbench;I)I"⟩
abbrev cL_conflict : ByteArray := method_20_code
def yL_conflict : MethodName := ⟨RL, "conflict", "(LLensbench;)I"⟩
abbrev cL_conflictRow : ByteArray := method_21_code
def yL_conflictRow : MethodName := ⟨RL, "conflictRow", "(LLensbench;I)I"⟩
abbrev cL_changes : ByteArray := method_22_code
def yL_changes : MethodName := ⟨RL, "changes", "(LLensbench;)I"⟩
abbrev cL_fewest : ByteArray := method_23_code
def yL_fewest : MethodName := ⟨RL, "fewest", "(LLensbench;)I"⟩
abbrev cL_putBack : ByteArray := method_24_code
def yL_putBack : MethodName := ⟨RL, "putBack", "(LLensbench;)I"⟩
abbrev cL_undo : ByteArray := method_25_code
def yL_undo : MethodName := ⟨RL, "undo", "(LLensbench;)I"⟩
abbrev cL_number : ByteArray := method_26_code
def yL_number : MethodName := ⟨RL, "number", "(I)I"⟩
abbrev cL_digit : ByteArray := method_27_code
def yL_digit : MethodName := ⟨RL, "digit", "(II)I"⟩
abbrev cL_unit : ByteArray := method_28_code
def yL_unit : MethodName := ⟨RL, "unit", "(I)I"⟩
abbrev cL_part : ByteArray := method_29_code
def yL_part : MethodName := ⟨RL, "part", "(II)I"⟩
abbrev cL_parts : ByteArray := method_30_code
def yL_parts : MethodName := ⟨RL, "parts", "(II)I"⟩
abbrev cL_columnsOf : ByteArray := method_31_code
def yL_columnsOf : MethodName := ⟨RL, "columnsOf", "([II)I"⟩
abbrev cL_keyOf : ByteArray := method_32_code
def yL_keyOf : MethodName := ⟨RL, "keyOf", "([II)I"⟩
abbrev cL_selected : ByteArray := method_33_code
def yL_selected : MethodName := ⟨RL, "selected", "(IIZ)I"⟩
abbrev cL_like : ByteArray := method_34_code
def yL_like : MethodName := ⟨RL, "like", "(IIIZ)I"⟩
abbrev cL_lay : ByteArray := method_35_code
def yL_lay : MethodName := ⟨RL, "lay", "([I[I[I[I)V"⟩
abbrev cL_twins : ByteArray := method_36_code
def yL_twins : MethodName := ⟨RL, "twins", "([IIIIII)Z"⟩
abbrev cL_hinders : ByteArray := method_37_code
def yL_hinders : MethodName := ⟨RL, "hinders", "([I[III)Z"⟩
abbrev cL_put : ByteArray := method_38_code
def yL_put : MethodName := ⟨RL, "put", "([I[I[I[I[I[I)V"⟩
abbrev cL_count : ByteArray := method_39_code
def yL_count : MethodName := ⟨RL, "count", "(I)I"⟩
abbrev cL_least : ByteArray := method_40_code
def yL_least : MethodName := ⟨RL, "least", "([I[I[I[II)I"⟩
abbrev cL_draftTold : ByteArray := method_41_code
def yL_draftTold : MethodName := ⟨RL, "draftTold", "(LLensbench;[I[I[I[I[I[IZ)Z"⟩
abbrev cL_isTold : ByteArray := method_42_code
def yL_isTold : MethodName := ⟨RL, "isTold", "(LLensbench;[I[I[I[I)Z"⟩
abbrev cL_views : ByteArray := method_43_code
def yL_views : MethodName := ⟨RL, "views", "(LLensbench;III[I[I[I)Z"⟩
abbrev cL_tables : ByteArray := method_44_code
def yL_tables : MethodName := ⟨RL, "tables", "(LLensbench;III[I[I)Z"⟩
abbrev cL_drafts : ByteArray := method_45_code
def yL_drafts : MethodName := ⟨RL, "drafts", "(LLensbench;III[I[I[I[I[I[I[I)Z"⟩
abbrev cL_law : ByteArray := code
def yL_law : MethodName := ⟨RL, "law", "([I)Z"⟩
abbrev vwCl : List vw_C := [(RX0, TX0, 3), (RX2, TX2, 11), (RX3, TX3, 11), (RX4, TX4, 2), (RX5, TX5, 12), (RX6, TX6, 5), (RX7, TX7, 9), (RX8, TX8, 6), (RX10, TX10, 9)]
end
section
theorem a_0 : Cond.selects "java/lang/Throwable" ⟨"java/lang/Throwable", "fillInStackTrace", "(I)Ljava/lang/Throwable;"⟩ ⟨"java/lang/Throwable", "fillInStackTrace", "(I)Ljava/lang/Throwable;"⟩ ∈ ALL := inA 0 (by decide +kernel) (by decide +kernel)
theorem a_1 : Cond.selects RX10 yX10_planPutBack yX10_planPutBack ∈ ALL := inA 1 (by decide +kernel) (by decide +kernel)
theorem a_2 : Cond.selects RX10 yX10_tableAt yX10_tableAt ∈ ALL := inA 2 (by decide +kernel) (by decide +kernel)
theorem a_3 : Cond.selects RX2 yX2_hiddenValue yX2_hiddenValue ∈ ALL := inA 3 (by decide +kernel) (by decide +kernel)
theorem a_4 : Cond.selects RX10 yX10_countPlanned yX10_countPlanned ∈ ALL := inA 4 (by decide +kernel) (by decide +kernel)
theorem a_5 : Cond.selects RX10 yX10_onlyTable yX10_onlyTable ∈ ALL := inA 5 (by decide +kernel) (by decide +kernel)
theorem a_6 : Cond.selects RX8 yX8_listRows yX8_listRows ∈ ALL := inA 6 (by decide +kernel) (by decide +kernel)
theorem a_7 : Cond.selects RX8 yX8_sortRows yX8_sortRows ∈ ALL := inA 7 (by decide +kernel) (by decide +kernel)
theorem a_8 : Cond.selects RX8 yX8_rivalsOf yX8_rivalsOf ∈ ALL := inA 8 (by decide +kernel) (by decide +kernel)
theorem a_9 : Cond.selects RX8 yX8_hasUnlikeKeys yX8_hasUnlikeKeys ∈ ALL := inA 9 (by decide +kernel) (by decide +kernel)
theorem a_10 : Cond.selects RX10 yX10_viewAt yX10_viewAt ∈ ALL := inA 10 (by decide +kernel) (by decide +kernel)
theorem a_11 : Cond.selects RX10 yX10_keepView yX10_keepView ∈ ALL := inA 11 (by decide +kernel) (by decide +kernel)
theorem a_12 : Cond.selects RX10 yX10_showViews yX10_showViews ∈ ALL := inA 12 (by decide +kernel) (by decide +kernel)
theorem a_13 : Cond.selects RX10 yX10_carryOut yX10_carryOut ∈ ALL := inA 13 (by decide +kernel) (by decide +kernel)
theorem a_14 : Cond.selects RX6 yX6_forgetOldest yX6_forgetOldest ∈ ALL := inA 14 (by decide +kernel) (by decide +kernel)
theorem a_15 : Cond.initialized RL ∈ ALL := inA 15 (by decide +kernel) (by decide +kernel)
theorem a_16 : Cond.initialized RX10 ∈ ALL := inA 16 (by decide +kernel) (by decide +kernel)
theorem a_17 : Cond.initialized RX4 ∈ ALL := inA 17 (by decide +kernel) (by decide +kernel)
theorem a_18 : Cond.initialized RX0 ∈ ALL := inA 18 (by decide +kernel) (by decide +kernel)
theorem a_19 : Cond.initialized RX8 ∈ ALL := inA 19 (by decide +kernel) (by decide +kernel)
theorem a_20 : Cond.initialized "java/lang/Throwable" ∈ ALL := inA 20 (by decide +kernel) (by decide +kernel)
theorem a_21 : Cond.initialized "java/lang/Exception" ∈ ALL := inA 21 (by decide +kernel) (by decide +kernel)
theorem a_22 : Cond.initialized "java/lang/RuntimeException" ∈ ALL := inA 22 (by decide +kernel) (by decide +kernel)
theorem a_23 : Cond.initialized "java/lang/IllegalArgumentException" ∈ ALL := inA 23 (by decide +kernel) (by decide +kernel)
theorem a_24 : Cond.initialized "java/lang/IllegalStateException" ∈ ALL := inA 24 (by decide +kernel) (by decide +kernel)
theorem a_25 : Cond.initialized RX6 ∈ ALL := inA 25 (by decide +kernel) (by decide +kernel)
theorem a_26 : Cond.initialized "java/lang/IndexOutOfBoundsException" ∈ ALL := inA 26 (by decide +kernel) (by decide +kernel)
theorem a_27 : Cond.initialized RX1 ∈ ALL := inA 27 (by decide +kernel) (by decide +kernel)
theorem a_28 : Cond.initialized RJ9 ∈ ALL := inA 28 (by decide +kernel) (by decide +kernel)
theorem a_29 : Cond.initialized "java/util/NoSuchElementException" ∈ ALL := inA 29 (by decide +kernel) (by decide +kernel)
theorem a_30 : Cond.initialized RX9 ∈ ALL := inA 30 (by decide +kernel) (by decide +kernel)
theorem a_31 : Cond.initialized RX5 ∈ ALL := inA 31 (by decide +kernel) (by decide +kernel)
theorem a_32 : Cond.initialized RX2 ∈ ALL := inA 32 (by decide +kernel) (by decide +kernel)
theorem a_33 : Cond.initialized RX3 ∈ ALL := inA 33 (by decide +kernel) (by decide +kernel)
theorem a_34 : Cond.initialized RX7 ∈ ALL := inA 34 (by decide +kernel) (by decide +kernel)
theorem a_35 : Cond.initialized RJ6 ∈ ALL := inA 35 (by decide +kernel) (by decide +kernel)
theorem a_36 : Cond.classLink RL 9 RX10 ∈ ALL := inA 36 (by decide +kernel) (by decide +kernel)
theorem a_37 : Cond.instantiable RX10 9 ∈ ALL := inA 37 (by decide +kernel) (by decide +kernel)
theorem a_38 : Cond.methodLink RL 196 yX10_init ∈ ALL := inA 38 (by decide +kernel) (by decide +kernel)
theorem a_39 : Cond.instanceMethod yX10_init ∈ ALL := inA 39 (by decide +kernel) (by decide +kernel)
theorem a_40 : Cond.code yX10_init cX10_init 1 none ∈ ALL := inA 40 (by decide +kernel) (by decide +kernel)
theorem a_41 : Cond.methodLink RX10 1 ⟨"java/lang/Object", "<init>", "()V"⟩ ∈ ALL := inA 41 (by decide +kernel) (by decide +kernel)
theorem a_42 : Cond.instanceMethod ⟨"java/lang/Object", "<init>", "()V"⟩ ∈ ALL := inA 42 (by decide +kernel) (by decide +kernel)
theorem a_43 : Cond.code ({ cls := "java/lang/Object", name := "<init>", desc := "()V" } : Jvm.MethodName) object_method_1_code (1 : Nat) (Option.none : Option Jvm.ClassFile.FieldType) ∈ ALL := inA 43 (by decide +kernel) (by decide +kernel)
theorem a_44 : Cond.classLink RX10 9 RX6 ∈ ALL := inA 44 (by decide +kernel) (by decide +kernel)
theorem a_45 : Cond.arrayOver (Jvm.ClassFile.FieldType.object "Lensbench$Table") ∈ lw_tbl := List.mem_of_getElem? (i := 45) (by decide +kernel)
theorem a_46 : Cond.classLink RX10 15 RX9 ∈ ALL := inA 46 (by decide +kernel) (by decide +kernel)
theorem a_47 : Cond.arrayOver (Jvm.ClassFile.FieldType.object "Lensbench$View") ∈ lw_tbl := List.mem_of_getElem? (i := 47) (by decide +kernel)
theorem a_48 : Cond.classLink RX10 21 RX4 ∈ ALL := inA 48 (by decide +kernel) (by decide +kernel)
theorem a_49 : Cond.instantiable RX4 2 ∈ ALL := inA 49 (by decide +kernel) (by decide +kernel)
theorem a_50 : Cond.methodLink RX10 23 yX4_init ∈ ALL := inA 50 (by decide +kernel) (by decide +kernel)
theorem a_51 : Cond.instanceMethod yX4_init ∈ ALL := inA 51 (by decide +kernel) (by decide +kernel)
theorem a_52 : Cond.code yX4_init cX4_init 2 none ∈ ALL := inA 52 (by decide +kernel) (by decide +kernel)
theorem a_53 : Cond.methodLink RX4 3 ⟨"java/lang/Object", "<init>", "()V"⟩ ∈ ALL := inA 53 (by decide +kernel) (by decide +kernel)
theorem a_54 : Cond.fieldLink RX4 9 "Lensbench$Rows" "numbers" "[I" ∈ ALL := inA 54 (by decide +kernel) (by decide +kernel)
theorem a_55 : Cond.fieldLink RX4 15 "Lensbench$Rows" "count" "I" ∈ ALL := inA 55 (by decide +kernel) (by decide +kernel)
theorem a_61 : Cond.arrayClass Jvm.ClassFile.FieldType.int ∈ ALL := inA 61 (by decide +kernel) (by decide +kernel)
theorem a_62 : Cond.classLink RX10 30 RX0 ∈ ALL := inA 62 (by decide +kernel) (by decide +kernel)
theorem a_63 : Cond.instantiable RX0 3 ∈ ALL := inA 63 (by decide +kernel) (by decide +kernel)
theorem a_64 : Cond.methodLinkNest RX10 32 yX0_init RX10 ∈ lw_tbl := List.mem_of_getElem? (i := 64) (by decide +kernel)
theorem a_65 : Cond.instanceMethod yX0_init ∈ ALL := inA 65 (by decide +kernel) (by decide +kernel)
theorem a_66 : Cond.code yX0_init cX0_init 1 none ∈ ALL := inA 66 (by decide +kernel) (by decide +kernel)
theorem a_67 : Cond.methodLink RX0 3 ⟨"java/lang/Object", "<init>", "()V"⟩ ∈ ALL := inA 67 (by decide +kernel) (by decide +kernel)
theorem a_68 : Cond.fieldLink RX0 18 "Lensbench$Conflict" "told" "I" ∈ ALL := inA 68 (by decide +kernel) (by decide +kernel)
theorem a_69 : Cond.fieldLink RX10 198 "Lensbench$Conflict" "told" "I" ∈ ALL := inA 69 (by decide +kernel) (by decide +kernel)
theorem a_70 : Cond.fieldLink RX0 9 "Lensbench$Conflict" "first" "I" ∈ ALL := inA 70 (by decide +kernel) (by decide +kernel)
theorem a_71 : Cond.fieldLink RX10 203 "Lensbench$Conflict" "first" "I" ∈ ALL := inA 71 (by decide +kernel) (by decide +kernel)
theorem a_72 : Cond.fieldLink RX0 15 "Lensbench$Conflict" "second" "I" ∈ ALL := inA 72 (by decide +kernel) (by decide +kernel)
theorem a_73 : Cond.fieldLink RX10 206 "Lensbench$Conflict" "second" "I" ∈ ALL := inA 73 (by decide +kernel) (by decide +kernel)
theorem a_81 : Cond.classLink RX10 37 RX8 ∈ ALL := inA 81 (by decide +kernel) (by decide +kernel)
theorem a_82 : Cond.instantiable RX8 6 ∈ ALL := inA 82 (by decide +kernel) (by decide +kernel)
theorem a_83 : Cond.methodLinkNest RX10 39 yX8_init RX10 ∈ lw_tbl := List.mem_of_getElem? (i := 83) (by decide +kernel)
theorem a_84 : Cond.instanceMethod yX8_init ∈ ALL := inA 84 (by decide +kernel) (by decide +kernel)
theorem a_85 : Cond.code yX8_init cX8_init 1 none ∈ ALL := inA 85 (by decide +kernel) (by decide +kernel)
theorem a_86 : Cond.methodLink RX8 3 ⟨"java/lang/Object", "<init>", "()V"⟩ ∈ ALL := inA 86 (by decide +kernel) (by decide +kernel)
theorem a_87 : Cond.fieldLink RX8 9 "Lensbench$Trials" "tried" "[I" ∈ ALL := inA 87 (by decide +kernel) (by decide +kernel)
theorem a_88 : Cond.fieldLink RX8 15 "Lensbench$Trials" "rivals" "[I" ∈ ALL := inA 88 (by decide +kernel) (by decide +kernel)
theorem a_89 : Cond.fieldLink RX8 61 "Lensbench$Trials" "count" "I" ∈ ALL := inA 89 (by decide +kernel) (by decide +kernel)
theorem a_90 : Cond.fieldLink RX8 73 "Lensbench$Trials" "held" "I" ∈ ALL := inA 90 (by decide +kernel) (by decide +kernel)
theorem a_91 : Cond.fieldLink RX8 67 "Lensbench$Trials" "seen" "I" ∈ ALL := inA 91 (by decide +kernel) (by decide +kernel)
theorem a_92 : Cond.fieldLink RX8 64 "Lensbench$Trials" "unwanted" "I" ∈ ALL := inA 92 (by decide +kernel) (by decide +kernel)
theorem a_106 : Cond.fieldLink RX10 11 "Lensbench" "tables" "[LLensbench$Table;" ∈ ALL := inA 106 (by decide +kernel) (by decide +kernel)
theorem a_107 : Cond.fieldLink RX10 51 "Lensbench" "tableCount" "I" ∈ ALL := inA 107 (by decide +kernel) (by decide +kernel)
theorem a_108 : Cond.fieldLink RX10 17 "Lensbench" "views" "[LLensbench$View;" ∈ ALL := inA 108 (by decide +kernel) (by decide +kernel)
theorem a_109 : Cond.fieldLink RX10 117 "Lensbench" "viewCount" "I" ∈ ALL := inA 109 (by decide +kernel) (by decide +kernel)
theorem a_110 : Cond.fieldLink RX10 26 "Lensbench" "draft" "LLensbench$Rows;" ∈ ALL := inA 110 (by decide +kernel) (by decide +kernel)
theorem a_111 : Cond.fieldLink RX10 175 "Lensbench" "draftView" "LLensbench$View;" ∈ ALL := inA 111 (by decide +kernel) (by decide +kernel)
theorem a_112 : Cond.fieldLink RX10 33 "Lensbench" "found" "LLensbench$Conflict;" ∈ ALL := inA 112 (by decide +kernel) (by decide +kernel)
theorem a_113 : Cond.fieldLink RX10 40 "Lensbench" "trials" "LLensbench$Trials;" ∈ ALL := inA 113 (by decide +kernel) (by decide +kernel)
theorem a_114 : Cond.fieldLink RX10 234 "Lensbench" "undoCount" "I" ∈ ALL := inA 114 (by decide +kernel) (by decide +kernel)
theorem a_134 : Cond.methodLink RL 197 yL_cell ∈ ALL := inA 134 (by decide +kernel) (by decide +kernel)
theorem a_135 : Cond.static yL_cell ∈ ALL := inA 135 (by decide +kernel) (by decide +kernel)
theorem a_136 : Cond.code yL_cell cL_cell 2 (some .int) ∈ ALL := inA 136 (by decide +kernel) (by decide +kernel)
theorem a_137 : Cond.constant RL 7 (1205586917) ∈ ALL := inA 137 (by decide +kernel) (by decide +kernel)
theorem a_138 : Cond.methodLink RL 180 yL_low ∈ ALL := inA 138 (by decide +kernel) (by decide +kernel)
theorem a_139 : Cond.static yL_low ∈ ALL := inA 139 (by decide +kernel) (by decide +kernel)
theorem a_140 : Cond.code yL_low cL_low 2 (some .int) ∈ ALL := inA 140 (by decide +kernel) (by decide +kernel)
theorem a_141 : Cond.methodLink RL 216 yL_draftTold ∈ ALL := inA 141 (by decide +kernel) (by decide +kernel)
theorem a_142 : Cond.static yL_draftTold ∈ ALL := inA 142 (by decide +kernel) (by decide +kernel)
set_option maxRecDepth 1000000 in
set_option maxHeartbeats 4000000 in
theorem a_143 : Cond.code yL_draftTold cL_draftTold 13 (some .boolean) ∈ ALL := inA 143 (by exact rfl) (by decide +kernel)
theorem a_144 : Cond.methodLink RL 135 yL_conflict ∈ ALL := inA 144 (by decide +kernel) (by decide +kernel)
theorem a_145 : Cond.static yL_conflict ∈ ALL := inA 145 (by decide +kernel) (by decide +kernel)
theorem a_146 : Cond.codeWith ({ cls := "LensbenchLaw", name := "conflict", desc := "(LLensbench;)I" } : Jvm.MethodName) method_20_code (3 : Nat) (Option.some Jvm.ClassFile.FieldType.int) [((0 : Nat), (5 : Nat), (8 : Nat), (16 : Nat))] ∈ ALL := inA 146 (by decide +kernel) (by decide +kernel)
theorem a_147 : Cond.classLink RL 16 "java/lang/IllegalStateException" ∈ ALL := inA 147 (by decide +kernel) (by decide +kernel)
theorem a_148 : Cond.methodLink RL 70 yX10_conflict ∈ ALL := inA 148 (by decide +kernel) (by decide +kernel)
theorem a_149 : Cond.instanceMethod yX10_conflict ∈ ALL := inA 149 (by decide +kernel) (by decide +kernel)
theorem a_150 : Cond.selects RX10 yX10_conflict yX10_conflict ∈ ALL := inA 150 (by decide +kernel) (by decide +kernel)
theorem a_151 : Cond.code yX10_conflict cX10_conflict 1 (some .int) ∈ ALL := inA 151 (by decide +kernel) (by decide +kernel)
theorem a_152 : Cond.classLink RX10 55 "java/lang/IllegalStateException" ∈ ALL := inA 152 (by decide +kernel) (by decide +kernel)
theorem a_153 : Cond.instantiable "java/lang/IllegalStateException" 6 ∈ ALL := inA 153 (by decide +kernel) (by decide +kernel)
theorem a_154 : Cond.castable "java/lang/IllegalStateException" "java/lang/IllegalStateException" ∈ lw_tbl := List.mem_of_getElem? (i := 154) (by decide +kernel)
theorem a_155 : Cond.declares ⟨"java/lang/RuntimeException", "<init>", "()V"⟩ ∈ lw_tbl := List.mem_of_getElem? (i := 155) (by decide +kernel)
theorem a_156 : Cond.declares ⟨"java/lang/RuntimeException", "<init>", "(Ljava/lang/String;)V"⟩ ∈ lw_tbl := List.mem_of_getElem? (i := 156) (by decide +kernel)
theorem a_157 : Cond.declares ⟨"java/lang/Exception", "<init>", "()V"⟩ ∈ lw_tbl := List.mem_of_getElem? (i := 157) (by decide +kernel)
theorem a_158 : Cond.declares ⟨"java/lang/Exception", "<init>", "(Ljava/lang/String;)V"⟩ ∈ lw_tbl := List.mem_of_getElem? (i := 158) (by decide +kernel)
theorem a_159 : Cond.declares ⟨"java/lang/Throwable", "<init>", "()V"⟩ ∈ lw_tbl := List.mem_of_getElem? (i := 159) (by decide +kernel)
theorem a_160 : Cond.declares ⟨"java/lang/Throwable", "<init>", "(Ljava/lang/String;)V"⟩ ∈ lw_tbl := List.mem_of_getElem? (i := 160) (by decide +kernel)
theorem a_161 : Cond.selects "java/lang/IllegalStateException" ⟨"java/lang/Throwable", "fillInStackTrace", "(I)Ljava/lang/Throwable;"⟩ ⟨"java/lang/Throwable", "fillInStackTrace", "(I)Ljava/lang/Throwable;"⟩ ∈ ALL := inA 161 (by decide +kernel) (by decide +kernel)
theorem a_162 : Cond.selects "java/lang/IllegalStateException" ⟨"java/lang/Throwable", "fillInStackTrace", "()Ljava/lang/Throwable;"⟩ ⟨"java/lang/Throwable", "fillInStackTrace", "()Ljava/lang/Throwable;"⟩ ∈ ALL := inA 162 (by decide +kernel) (by decide +kernel)
theorem a_173 : Cond.fieldLink "java/lang/Throwable" 198 "java/lang/Throwable" "backtrace" "Ljava/lang/Object;" ∈ ALL := inA 173 (by decide +kernel) (by decide +kernel)
theorem a_175 : Cond.instanceMethod ⟨"java/lang/Throwable", "<init>", "()V"⟩ ∈ ALL := inA 175 (by decide +kernel) (by decide +kernel)
theorem a_176 : Cond.code ⟨"java/lang/Throwable", "<init>", "()V"⟩ prog_23_method_1_code 1 none ∈ ALL := inA 176 (by decide +kernel) (by decide +kernel)
theorem a_177 : Cond.methodLink "java/lang/Throwable" 1 ⟨"java/lang/Object", "<init>", "()V"⟩ ∈ ALL := inA 177 (by decide +kernel) (by decide +kernel)
theorem a_178 : Cond.fieldLink "java/lang/Throwable" 13 "java/lang/Throwable" "UNASSIGNED_STACK" "[Ljava/lang/StackTraceElement;" ∈ ALL := inA 178 (by decide +kernel) (by decide +kernel)
theorem a_180 : Cond.fieldLink "java/lang/Throwable" 20 "java/lang/Throwable" "SUPPRESSED_SENTINEL" "Ljava/util/List;" ∈ ALL := inA 180 (by decide +kernel) (by decide +kernel)
theorem a_182 : Cond.methodLink "java/lang/Throwable" 27 ⟨"java/lang/Throwable", "fillInStackTrace", "()Ljava/lang/Throwable;"⟩ ∈ ALL := inA 182 (by decide +kernel) (by decide +kernel)
theorem a_183 : Cond.instanceMethod ⟨"java/lang/Throwable", "fillInStackTrace", "()Ljava/lang/Throwable;"⟩ ∈ ALL := inA 183 (by decide +kernel) (by decide +kernel)
theorem a_184 : Cond.sameMethod "java/lang/Throwable" "java/lang/Throwable" "fillInStackTrace" "()Ljava/lang/Throwable;" ∈ ALL := inA 184 (by decide +kernel) (by decide +kernel)
theorem a_185 : Cond.selects "java/lang/IllegalArgumentException" ⟨"java/lang/Throwable", "fillInStackTrace", "()Ljava/lang/Throwable;"⟩ ⟨"java/lang/Throwable", "fillInStackTrace", "()Ljava/lang/Throwable;"⟩ ∈ ALL := inA 185 (by decide +kernel) (by decide +kernel)
theorem a_186 : Cond.selects "java/lang/IndexOutOfBoundsException" ⟨"java/lang/Throwable", "fillInStackTrace", "()Ljava/lang/Throwable;"⟩ ⟨"java/lang/Throwable", "fillInStackTrace", "()Ljava/lang/Throwable;"⟩ ∈ ALL := inA 186 (by decide +kernel) (by decide +kernel)
theorem a_187 : Cond.selects "java/util/NoSuchElementException" ⟨"java/lang/Throwable", "fillInStackTrace", "()Ljava/lang/Throwable;"⟩ ⟨"java/lang/Throwable", "fillInStackTrace", "()Ljava/lang/Throwable;"⟩ ∈ ALL := inA 187 (by decide +kernel) (by decide +kernel)
theorem a_189 : Cond.methodLink "java/lang/Throwable" 202 ⟨"java/lang/Throwable", "fillInStackTrace", "(I)Ljava/lang/Throwable;"⟩ ∈ ALL := inA 189 (by decide +kernel) (by decide +kernel)
theorem a_191 : Cond.instanceMethod ⟨"java/lang/Throwable", "fillInStackTrace", "(I)Ljava/lang/Throwable;"⟩ ∈ ALL := inA 191 (by decide +kernel) (by decide +kernel)
theorem a_192 : Cond.instantiable "java/lang/Throwable" 6 ∈ ALL := inA 192 (by decide +kernel) (by decide +kernel)
theorem a_195 : Cond.methodLink RX10 59 ⟨"java/lang/IllegalStateException", "<init>", "(Ljava/lang/String;)V"⟩ ∈ ALL := inA 195 (by decide +kernel) (by decide +kernel)
theorem a_196 : Cond.instanceMethod ⟨"java/lang/IllegalStateException", "<init>", "(Ljava/lang/String;)V"⟩ ∈ ALL := inA 196 (by decide +kernel) (by decide +kernel)
theorem a_197 : Cond.code ⟨"java/lang/IllegalStateException", "<init>", "(Ljava/lang/String;)V"⟩ prog_17_method_2_code 2 none ∈ ALL := inA 197 (by decide +kernel) (by decide +kernel)
theorem a_198 : Cond.methodLink "java/lang/IllegalStateException" 7 ⟨"java/lang/RuntimeException", "<init>", "(Ljava/lang/String;)V"⟩ ∈ ALL := inA 198 (by decide +kernel) (by decide +kernel)
theorem a_199 : Cond.instanceMethod ⟨"java/lang/RuntimeException", "<init>", "(Ljava/lang/String;)V"⟩ ∈ ALL := inA 199 (by decide +kernel) (by decide +kernel)
theorem a_200 : Cond.code ⟨"java/lang/RuntimeException", "<init>", "(Ljava/lang/String;)V"⟩ prog_21_method_2_code 2 none ∈ ALL := inA 200 (by decide +kernel) (by decide +kernel)
theorem a_201 : Cond.methodLink "java/lang/RuntimeException" 7 ⟨"java/lang/Exception", "<init>", "(Ljava/lang/String;)V"⟩ ∈ ALL := inA 201 (by decide +kernel) (by decide +kernel)
theorem a_202 : Cond.instanceMethod ⟨"java/lang/Exception", "<init>", "(Ljava/lang/String;)V"⟩ ∈ ALL := inA 202 (by decide +kernel) (by decide +kernel)
theorem a_203 : Cond.code ⟨"java/lang/Exception", "<init>", "(Ljava/lang/String;)V"⟩ prog_15_method_2_code 2 none ∈ ALL := inA 203 (by decide +kernel) (by decide +kernel)
theorem a_204 : Cond.methodLink "java/lang/Exception" 7 ⟨"java/lang/Throwable", "<init>", "(Ljava/lang/String;)V"⟩ ∈ ALL := inA 204 (by decide +kernel) (by decide +kernel)
theorem a_205 : Cond.instanceMethod ⟨"java/lang/Throwable", "<init>", "(Ljava/lang/String;)V"⟩ ∈ ALL := inA 205 (by decide +kernel) (by decide +kernel)
theorem a_206 : Cond.code ⟨"java/lang/Throwable", "<init>", "(Ljava/lang/String;)V"⟩ prog_23_method_2_code 2 none ∈ ALL := inA 206 (by decide +kernel) (by decide +kernel)
theorem a_208 : Cond.fieldLink "java/lang/Throwable" 31 "java/lang/Throwable" "detailMessage" "Ljava/lang/String;" ∈ ALL := inA 208 (by decide +kernel) (by decide +kernel)
theorem a_209 : Cond.fieldLink "java/lang/Throwable" 7 "java/lang/Throwable" "cause" "Ljava/lang/Throwable;" ∈ ALL := inA 209 (by decide +kernel) (by decide +kernel)
theorem a_210 : Cond.fieldLink "java/lang/Throwable" 17 "java/lang/Throwable" "stackTrace" "[Ljava/lang/StackTraceElement;" ∈ ALL := inA 210 (by decide +kernel) (by decide +kernel)
theorem a_211 : Cond.fieldLink "java/lang/Throwable" 24 "java/lang/Throwable" "suppressedExceptions" "Ljava/util/List;" ∈ ALL := inA 211 (by decide +kernel) (by decide +kernel)
theorem a_220 : Cond.arrayClass Jvm.ClassFile.FieldType.byte ∈ ALL := inA 220 (by decide +kernel) (by decide +kernel)
theorem a_221 : Cond.methodLink RX10 195 yX10_planPutBack ∈ ALL := inA 221 (by decide +kernel) (by decide +kernel)
theorem a_223 : Cond.instanceMethod yX10_planPutBack ∈ ALL := inA 223 (by decide +kernel) (by decide +kernel)
theorem a_224 : Cond.code yX10_planPutBack cX10_planPutBack 3 none ∈ ALL := inA 224 (by decide +kernel) (by decide +kernel)
theorem a_225 : Cond.methodLink RX10 63 yX10_tableAt ∈ ALL := inA 225 (by decide +kernel) (by decide +kernel)
theorem a_227 : Cond.instanceMethod yX10_tableAt ∈ ALL := inA 227 (by decide +kernel) (by decide +kernel)
theorem a_228 : Cond.code yX10_tableAt cX10_tableAt 2 (some (.object "Lensbench$Table")) ∈ ALL := inA 228 (by decide +kernel) (by decide +kernel)
theorem a_229 : Cond.methodLink RX10 179 yX4_takeOver ∈ ALL := inA 229 (by decide +kernel) (by decide +kernel)
theorem a_230 : Cond.instanceMethod yX4_takeOver ∈ ALL := inA 230 (by decide +kernel) (by decide +kernel)
theorem a_231 : Cond.selects RX4 yX4_takeOver yX4_takeOver ∈ ALL := inA 231 (by decide +kernel) (by decide +kernel)
theorem a_232 : Cond.code yX4_takeOver cX4_takeOver 3 none ∈ ALL := inA 232 (by decide +kernel) (by decide +kernel)
theorem a_233 : Cond.methodLink RX4 33 yJ9_min_7cf53 ∈ ALL := inA 233 (by decide +kernel) (by decide +kernel)
theorem a_234 : Cond.static yJ9_min_7cf53 ∈ ALL := inA 234 (by decide +kernel) (by decide +kernel)
theorem a_235 : Cond.code yJ9_min_7cf53 cJ9_min_7cf53 2 (some .int) ∈ ALL := inA 235 (by decide +kernel) (by decide +kernel)
theorem a_236 : Cond.methodLink RX4 19 yX4_at ∈ ALL := inA 236 (by decide +kernel) (by decide +kernel)
theorem a_237 : Cond.instanceMethod yX4_at ∈ ALL := inA 237 (by decide +kernel) (by decide +kernel)
theorem a_238 : Cond.selects RX4 yX4_at yX4_at ∈ ALL := inA 238 (by decide +kernel) (by decide +kernel)
theorem a_239 : Cond.code yX4_at cX4_at 2 (some .int) ∈ ALL := inA 239 (by decide +kernel) (by decide +kernel)
theorem a_240 : Cond.methodLink RX10 251 yX0_clear ∈ ALL := inA 240 (by decide +kernel) (by decide +kernel)
theorem a_241 : Cond.instanceMethod yX0_clear ∈ ALL := inA 241 (by decide +kernel) (by decide +kernel)
theorem a_242 : Cond.selects RX0 yX0_clear yX0_clear ∈ ALL := inA 242 (by decide +kernel) (by decide +kernel)
theorem a_243 : Cond.code yX0_clear cX0_clear 1 none ∈ ALL := inA 243 (by decide +kernel) (by decide +kernel)
theorem a_244 : Cond.methodLink RX0 21 yX0_tell ∈ ALL := inA 244 (by decide +kernel) (by decide +kernel)
theorem a_245 : Cond.instanceMethod yX0_tell ∈ ALL := inA 245 (by decide +kernel) (by decide +kernel)
theorem a_246 : Cond.selects RX0 yX0_tell yX0_tell ∈ ALL := inA 246 (by decide +kernel) (by decide +kernel)
theorem a_247 : Cond.code yX0_tell cX0_tell 4 none ∈ ALL := inA 247 (by decide +kernel) (by decide +kernel)
theorem a_248 : Cond.methodLink RX10 255 yX10_passDown ∈ ALL := inA 248 (by decide +kernel) (by decide +kernel)
theorem a_249 : Cond.static yX10_passDown ∈ ALL := inA 249 (by decide +kernel) (by decide +kernel)
theorem a_250 : Cond.code yX10_passDown cX10_passDown 3 none ∈ ALL := inA 250 (by decide +kernel) (by decide +kernel)
theorem a_251 : Cond.methodLink RX10 209 yX0_isTold ∈ ALL := inA 251 (by decide +kernel) (by decide +kernel)
theorem a_252 : Cond.instanceMethod yX0_isTold ∈ ALL := inA 252 (by decide +kernel) (by decide +kernel)
theorem a_253 : Cond.selects RX0 yX0_isTold yX0_isTold ∈ ALL := inA 253 (by decide +kernel) (by decide +kernel)
theorem a_254 : Cond.code yX0_isTold cX0_isTold 1 (some .boolean) ∈ ALL := inA 254 (by decide +kernel) (by decide +kernel)
theorem a_255 : Cond.methodLink RX10 259 yX9_seekConflict ∈ ALL := inA 255 (by decide +kernel) (by decide +kernel)
theorem a_256 : Cond.instanceMethod yX9_seekConflict ∈ ALL := inA 256 (by decide +kernel) (by decide +kernel)
theorem a_257 : Cond.sameMethod "Lensbench$View" "Lensbench$View" "seekConflict" "(LLensbench$Conflict;)V" ∈ ALL := inA 257 (by decide +kernel) (by decide +kernel)
theorem a_258 : Cond.selects RX2 yX9_seekConflict yX9_seekConflict ∈ ALL := inA 258 (by decide +kernel) (by decide +kernel)
theorem a_259 : Cond.selects RX3 yX9_seekConflict yX9_seekConflict ∈ ALL := inA 259 (by decide +kernel) (by decide +kernel)
theorem a_260 : Cond.selects RX5 yX9_seekConflict yX9_seekConflict ∈ ALL := inA 260 (by decide +kernel) (by decide +kernel)
theorem a_261 : Cond.selects RX7 yX9_seekConflict yX9_seekConflict ∈ ALL := inA 261 (by decide +kernel) (by decide +kernel)
theorem a_262 : Cond.code yX9_seekConflict cX9_seekConflict 2 none ∈ ALL := inA 262 (by decide +kernel) (by decide +kernel)
theorem a_263 : Cond.methodLink RX9 43 yX0_seekPair ∈ ALL := inA 263 (by decide +kernel) (by decide +kernel)
theorem a_264 : Cond.instanceMethod yX0_seekPair ∈ ALL := inA 264 (by decide +kernel) (by decide +kernel)
theorem a_265 : Cond.selects RX0 yX0_seekPair yX0_seekPair ∈ ALL := inA 265 (by decide +kernel) (by decide +kernel)
theorem a_266 : Cond.code yX0_seekPair cX0_seekPair 10 none ∈ ALL := inA 266 (by decide +kernel) (by decide +kernel)
theorem a_267 : Cond.methodLink RX0 31 yX4_size ∈ ALL := inA 267 (by decide +kernel) (by decide +kernel)
theorem a_268 : Cond.instanceMethod yX4_size ∈ ALL := inA 268 (by decide +kernel) (by decide +kernel)
theorem a_269 : Cond.selects RX4 yX4_size yX4_size ∈ ALL := inA 269 (by decide +kernel) (by decide +kernel)
theorem a_270 : Cond.code yX4_size cX4_size 1 (some .int) ∈ ALL := inA 270 (by decide +kernel) (by decide +kernel)
theorem a_271 : Cond.methodLink RX0 37 yX4_at ∈ ALL := inA 271 (by decide +kernel) (by decide +kernel)
theorem a_272 : Cond.methodLink RX0 41 yX1_alike ∈ ALL := inA 272 (by decide +kernel) (by decide +kernel)
theorem a_273 : Cond.static yX1_alike ∈ ALL := inA 273 (by decide +kernel) (by decide +kernel)
theorem a_274 : Cond.code yX1_alike cX1_alike 6 (some .boolean) ∈ ALL := inA 274 (by decide +kernel) (by decide +kernel)
theorem a_275 : Cond.methodLink RX9 49 yX0_isTold ∈ ALL := inA 275 (by decide +kernel) (by decide +kernel)
theorem a_276 : Cond.methodLink RX9 53 ⟨"Lensbench$View", "seekOwnConflict", "(LLensbench$Conflict;)V"⟩ ∈ ALL := inA 276 (by decide +kernel) (by decide +kernel)
theorem a_277 : Cond.declares ⟨"Lensbench$View", "seekOwnConflict", "(LLensbench$Conflict;)V"⟩ ∈ lw_tbl := List.mem_of_getElem? (i := 277) (by decide +kernel)
theorem a_278 : Cond.sameMethod "Lensbench$View" "Lensbench$View" "seekOwnConflict" "(LLensbench$Conflict;)V" ∈ ALL := inA 278 (by decide +kernel) (by decide +kernel)
theorem a_279 : Cond.selects RX2 ⟨"Lensbench$View", "seekOwnConflict", "(LLensbench$Conflict;)V"⟩ yX2_seekOwnConflict ∈ ALL := inA 279 (by decide +kernel) (by decide +kernel)
theorem a_280 : Cond.instanceMethod yX2_seekOwnConflict ∈ ALL := inA 280 (by decide +kernel) (by decide +kernel)
theorem a_281 : Cond.code yX2_seekOwnConflict cX2_seekOwnConflict 2 none ∈ ALL := inA 281 (by decide +kernel) (by decide +kernel)
theorem a_282 : Cond.selects RX3 ⟨"Lensbench$View", "seekOwnConflict", "(LLensbench$Conflict;)V"⟩ yX3_seekOwnConflict ∈ ALL := inA 282 (by decide +kernel) (by decide +kernel)
theorem a_283 : Cond.instanceMethod yX3_seekOwnConflict ∈ ALL := inA 283 (by decide +kernel) (by decide +kernel)
theorem a_284 : Cond.code yX3_seekOwnConflict cX3_seekOwnConflict 2 none ∈ ALL := inA 284 (by decide +kernel) (by decide +kernel)
theorem a_285 : Cond.methodLink RX3 63 yX0_seekPair ∈ ALL := inA 285 (by decide +kernel) (by decide +kernel)
theorem a_286 : Cond.selects RX5 ⟨"Lensbench$View", "seekOwnConflict", "(LLensbench$Conflict;)V"⟩ yX5_seekOwnConflict ∈ ALL := inA 286 (by decide +kernel) (by decide +kernel)
theorem a_287 : Cond.instanceMethod yX5_seekOwnConflict ∈ ALL := inA 287 (by decide +kernel) (by decide +kernel)
theorem a_288 : Cond.code yX5_seekOwnConflict cX5_seekOwnConflict 4 none ∈ ALL := inA 288 (by decide +kernel) (by decide +kernel)
theorem a_289 : Cond.methodLink RX5 52 yX4_size ∈ ALL := inA 289 (by decide +kernel) (by decide +kernel)
theorem a_290 : Cond.methodLink RX5 56 yX4_at ∈ ALL := inA 290 (by decide +kernel) (by decide +kernel)
theorem a_291 : Cond.methodLink RX5 60 yX5_selects ∈ ALL := inA 291 (by decide +kernel) (by decide +kernel)
theorem a_292 : Cond.instanceMethod yX5_selects ∈ ALL := inA 292 (by decide +kernel) (by decide +kernel)
theorem a_293 : Cond.selects RX5 yX5_selects yX5_selects ∈ ALL := inA 293 (by decide +kernel) (by decide +kernel)
theorem a_294 : Cond.code yX5_selects cX5_selects 2 (some .boolean) ∈ ALL := inA 294 (by decide +kernel) (by decide +kernel)
theorem a_295 : Cond.methodLink RX5 35 yX1_digit ∈ ALL := inA 295 (by decide +kernel) (by decide +kernel)
theorem a_296 : Cond.static yX1_digit ∈ ALL := inA 296 (by decide +kernel) (by decide +kernel)
theorem a_297 : Cond.code yX1_digit cX1_digit 4 (some .int) ∈ ALL := inA 297 (by decide +kernel) (by decide +kernel)
theorem a_298 : Cond.methodLink RX5 74 yX0_tell ∈ ALL := inA 298 (by decide +kernel) (by decide +kernel)
theorem a_299 : Cond.selects RX7 ⟨"Lensbench$View", "seekOwnConflict", "(LLensbench$Conflict;)V"⟩ yX7_seekOwnConflict ∈ ALL := inA 299 (by decide +kernel) (by decide +kernel)
theorem a_300 : Cond.instanceMethod yX7_seekOwnConflict ∈ ALL := inA 300 (by decide +kernel) (by decide +kernel)
theorem a_301 : Cond.code yX7_seekOwnConflict cX7_seekOwnConflict 2 none ∈ ALL := inA 301 (by decide +kernel) (by decide +kernel)
theorem a_302 : Cond.methodLink RX7 40 yX4_size ∈ ALL := inA 302 (by decide +kernel) (by decide +kernel)
theorem a_303 : Cond.methodLink RX7 47 yX0_tell ∈ ALL := inA 303 (by decide +kernel) (by decide +kernel)
theorem a_304 : Cond.methodLink RX10 263 ⟨"Lensbench$View", "passOn", "()V"⟩ ∈ ALL := inA 304 (by decide +kernel) (by decide +kernel)
theorem a_305 : Cond.declares ⟨"Lensbench$View", "passOn", "()V"⟩ ∈ lw_tbl := List.mem_of_getElem? (i := 305) (by decide +kernel)
theorem a_306 : Cond.sameMethod "Lensbench$View" "Lensbench$View" "passOn" "()V" ∈ ALL := inA 306 (by decide +kernel) (by decide +kernel)
theorem a_307 : Cond.selects RX2 ⟨"Lensbench$View", "passOn", "()V"⟩ yX2_passOn ∈ ALL := inA 307 (by decide +kernel) (by decide +kernel)
theorem a_308 : Cond.instanceMethod yX2_passOn ∈ ALL := inA 308 (by decide +kernel) (by decide +kernel)
theorem a_309 : Cond.code yX2_passOn cX2_passOn 3 none ∈ ALL := inA 309 (by decide +kernel) (by decide +kernel)
theorem a_310 : Cond.methodLink RX2 35 yX4_clear ∈ ALL := inA 310 (by decide +kernel) (by decide +kernel)
theorem a_311 : Cond.instanceMethod yX4_clear ∈ ALL := inA 311 (by decide +kernel) (by decide +kernel)
theorem a_312 : Cond.selects RX4 yX4_clear yX4_clear ∈ ALL := inA 312 (by decide +kernel) (by decide +kernel)
theorem a_313 : Cond.code yX4_clear cX4_clear 1 none ∈ ALL := inA 313 (by decide +kernel) (by decide +kernel)
theorem a_314 : Cond.methodLink RX2 42 yX4_size ∈ ALL := inA 314 (by decide +kernel) (by decide +kernel)
theorem a_315 : Cond.methodLink RX2 46 yX4_at ∈ ALL := inA 315 (by decide +kernel) (by decide +kernel)
theorem a_316 : Cond.methodLink RX2 65 yX2_hiddenValue ∈ ALL := inA 316 (by decide +kernel) (by decide +kernel)
theorem a_318 : Cond.instanceMethod yX2_hiddenValue ∈ ALL := inA 318 (by decide +kernel) (by decide +kernel)
theorem a_319 : Cond.instantiable RX2 11 ∈ ALL := inA 319 (by decide +kernel) (by decide +kernel)
theorem a_320 : Cond.code yX2_hiddenValue cX2_hiddenValue 3 (some .int) ∈ ALL := inA 320 (by decide +kernel) (by decide +kernel)
theorem a_321 : Cond.methodLink RX2 73 yX4_firstLike ∈ ALL := inA 321 (by decide +kernel) (by decide +kernel)
theorem a_322 : Cond.instanceMethod yX4_firstLike ∈ ALL := inA 322 (by decide +kernel) (by decide +kernel)
theorem a_323 : Cond.selects RX4 yX4_firstLike yX4_firstLike ∈ ALL := inA 323 (by decide +kernel) (by decide +kernel)
theorem a_324 : Cond.code yX4_firstLike cX4_firstLike 4 (some .int) ∈ ALL := inA 324 (by decide +kernel) (by decide +kernel)
theorem a_325 : Cond.methodLink RX4 23 yX1_alike ∈ ALL := inA 325 (by decide +kernel) (by decide +kernel)
theorem a_326 : Cond.methodLink RX2 76 yX1_digit ∈ ALL := inA 326 (by decide +kernel) (by decide +kernel)
theorem a_327 : Cond.methodLink RX2 68 yX1_with ∈ ALL := inA 327 (by decide +kernel) (by decide +kernel)
theorem a_328 : Cond.static yX1_with ∈ ALL := inA 328 (by decide +kernel) (by decide +kernel)
theorem a_329 : Cond.code yX1_with cX1_with 3 (some .int) ∈ ALL := inA 329 (by decide +kernel) (by decide +kernel)
theorem a_330 : Cond.methodLink RX1 20 yX1_digit ∈ ALL := inA 330 (by decide +kernel) (by decide +kernel)
theorem a_331 : Cond.methodLink RX1 23 yX1_told ∈ ALL := inA 331 (by decide +kernel) (by decide +kernel)
theorem a_332 : Cond.static yX1_told ∈ ALL := inA 332 (by decide +kernel) (by decide +kernel)
theorem a_333 : Cond.code yX1_told cX1_told 4 (some .int) ∈ ALL := inA 333 (by decide +kernel) (by decide +kernel)
theorem a_334 : Cond.methodLink RX2 57 yX4_put ∈ ALL := inA 334 (by decide +kernel) (by decide +kernel)
theorem a_335 : Cond.instanceMethod yX4_put ∈ ALL := inA 335 (by decide +kernel) (by decide +kernel)
theorem a_336 : Cond.selects RX4 yX4_put yX4_put ∈ ALL := inA 336 (by decide +kernel) (by decide +kernel)
theorem a_337 : Cond.code yX4_put cX4_put 3 none ∈ ALL := inA 337 (by decide +kernel) (by decide +kernel)
theorem a_338 : Cond.methodLink RX4 29 yX4_has ∈ ALL := inA 338 (by decide +kernel) (by decide +kernel)
theorem a_339 : Cond.instanceMethod yX4_has ∈ ALL := inA 339 (by decide +kernel) (by decide +kernel)
theorem a_340 : Cond.selects RX4 yX4_has yX4_has ∈ ALL := inA 340 (by decide +kernel) (by decide +kernel)
theorem a_341 : Cond.code yX4_has cX4_has 3 (some .boolean) ∈ ALL := inA 341 (by decide +kernel) (by decide +kernel)
theorem a_342 : Cond.selects RX3 ⟨"Lensbench$View", "passOn", "()V"⟩ yX3_passOn ∈ ALL := inA 342 (by decide +kernel) (by decide +kernel)
theorem a_343 : Cond.instanceMethod yX3_passOn ∈ ALL := inA 343 (by decide +kernel) (by decide +kernel)
end
section
theorem a_344 : Cond.code yX3_passOn cX3_passOn 3 none ∈ ALL := inA 344 (by decide +kernel) (by decide +kernel)
theorem a_345 : Cond.methodLink RX3 72 yX9_wantParts ∈ ALL := inA 345 (by decide +kernel) (by decide +kernel)
theorem a_346 : Cond.instanceMethod yX9_wantParts ∈ ALL := inA 346 (by decide +kernel) (by decide +kernel)
theorem a_347 : Cond.sameMethod "Lensbench$View" "Lensbench$View" "wantParts" "(LLensbench$Rows;)V" ∈ ALL := inA 347 (by decide +kernel) (by decide +kernel)
theorem a_348 : Cond.selects RX2 yX9_wantParts yX9_wantParts ∈ ALL := inA 348 (by decide +kernel) (by decide +kernel)
theorem a_349 : Cond.selects RX3 yX9_wantParts yX9_wantParts ∈ ALL := inA 349 (by decide +kernel) (by decide +kernel)
theorem a_350 : Cond.selects RX5 yX9_wantParts yX9_wantParts ∈ ALL := inA 350 (by decide +kernel) (by decide +kernel)
theorem a_351 : Cond.selects RX7 yX9_wantParts yX9_wantParts ∈ ALL := inA 351 (by decide +kernel) (by decide +kernel)
theorem a_352 : Cond.code yX9_wantParts cX9_wantParts 3 none ∈ ALL := inA 352 (by decide +kernel) (by decide +kernel)
theorem a_353 : Cond.methodLink RX9 61 yX4_clear ∈ ALL := inA 353 (by decide +kernel) (by decide +kernel)
theorem a_354 : Cond.methodLink RX9 64 yX4_size ∈ ALL := inA 354 (by decide +kernel) (by decide +kernel)
theorem a_355 : Cond.methodLink RX9 68 yX4_at ∈ ALL := inA 355 (by decide +kernel) (by decide +kernel)
theorem a_356 : Cond.methodLink RX9 72 yX1_part ∈ ALL := inA 356 (by decide +kernel) (by decide +kernel)
theorem a_357 : Cond.static yX1_part ∈ ALL := inA 357 (by decide +kernel) (by decide +kernel)
theorem a_358 : Cond.code yX1_part cX1_part 6 (some .int) ∈ ALL := inA 358 (by decide +kernel) (by decide +kernel)
theorem a_359 : Cond.methodLink RX1 9 yX1_isIn ∈ ALL := inA 359 (by decide +kernel) (by decide +kernel)
theorem a_360 : Cond.static yX1_isIn ∈ ALL := inA 360 (by decide +kernel) (by decide +kernel)
theorem a_361 : Cond.code yX1_isIn cX1_isIn 2 (some .boolean) ∈ ALL := inA 361 (by decide +kernel) (by decide +kernel)
theorem a_362 : Cond.methodLink RX9 77 yX4_put ∈ ALL := inA 362 (by decide +kernel) (by decide +kernel)
theorem a_363 : Cond.methodLink RX3 42 yX4_size ∈ ALL := inA 363 (by decide +kernel) (by decide +kernel)
theorem a_364 : Cond.methodLink RX3 46 yX4_at ∈ ALL := inA 364 (by decide +kernel) (by decide +kernel)
theorem a_365 : Cond.methodLink RX3 76 yX9_wantsKeyOf ∈ ALL := inA 365 (by decide +kernel) (by decide +kernel)
theorem a_366 : Cond.instanceMethod yX9_wantsKeyOf ∈ ALL := inA 366 (by decide +kernel) (by decide +kernel)
theorem a_367 : Cond.sameMethod "Lensbench$View" "Lensbench$View" "wantsKeyOf" "(I)Z" ∈ ALL := inA 367 (by decide +kernel) (by decide +kernel)
theorem a_368 : Cond.selects RX2 yX9_wantsKeyOf yX9_wantsKeyOf ∈ ALL := inA 368 (by decide +kernel) (by decide +kernel)
theorem a_369 : Cond.selects RX3 yX9_wantsKeyOf yX9_wantsKeyOf ∈ ALL := inA 369 (by decide +kernel) (by decide +kernel)
theorem a_370 : Cond.selects RX5 yX9_wantsKeyOf yX9_wantsKeyOf ∈ ALL := inA 370 (by decide +kernel) (by decide +kernel)
theorem a_371 : Cond.selects RX7 yX9_wantsKeyOf yX9_wantsKeyOf ∈ ALL := inA 371 (by decide +kernel) (by decide +kernel)
theorem a_372 : Cond.code yX9_wantsKeyOf cX9_wantsKeyOf 2 (some .boolean) ∈ ALL := inA 372 (by decide +kernel) (by decide +kernel)
theorem a_373 : Cond.methodLink RX9 57 yX4_firstLike ∈ ALL := inA 373 (by decide +kernel) (by decide +kernel)
theorem a_374 : Cond.methodLink RX3 59 yX4_put ∈ ALL := inA 374 (by decide +kernel) (by decide +kernel)
theorem a_375 : Cond.methodLink RX3 50 yX4_firstLike ∈ ALL := inA 375 (by decide +kernel) (by decide +kernel)
theorem a_376 : Cond.selects RX5 ⟨"Lensbench$View", "passOn", "()V"⟩ yX5_passOn ∈ ALL := inA 376 (by decide +kernel) (by decide +kernel)
theorem a_377 : Cond.instanceMethod yX5_passOn ∈ ALL := inA 377 (by decide +kernel) (by decide +kernel)
theorem a_378 : Cond.code yX5_passOn cX5_passOn 3 none ∈ ALL := inA 378 (by decide +kernel) (by decide +kernel)
theorem a_379 : Cond.methodLink RX5 81 yX4_takeOver ∈ ALL := inA 379 (by decide +kernel) (by decide +kernel)
theorem a_380 : Cond.methodLink RX5 85 ⟨"Lensbench$SelectView", "wantsKeyOf", "(I)Z"⟩ ∈ ALL := inA 380 (by decide +kernel) (by decide +kernel)
theorem a_381 : Cond.sameMethod "Lensbench$SelectView" "Lensbench$View" "wantsKeyOf" "(I)Z" ∈ ALL := inA 381 (by decide +kernel) (by decide +kernel)
theorem a_382 : Cond.declares yX9_wantsKeyOf ∈ lw_tbl := List.mem_of_getElem? (i := 382) (by decide +kernel)
theorem a_383 : Cond.selects RX5 ⟨"Lensbench$SelectView", "wantsKeyOf", "(I)Z"⟩ yX9_wantsKeyOf ∈ ALL := inA 383 (by decide +kernel) (by decide +kernel)
theorem a_384 : Cond.methodLink RX5 64 yX4_put ∈ ALL := inA 384 (by decide +kernel) (by decide +kernel)
theorem a_385 : Cond.selects RX7 ⟨"Lensbench$View", "passOn", "()V"⟩ yX7_passOn ∈ ALL := inA 385 (by decide +kernel) (by decide +kernel)
theorem a_386 : Cond.instanceMethod yX7_passOn ∈ ALL := inA 386 (by decide +kernel) (by decide +kernel)
theorem a_387 : Cond.code yX7_passOn cX7_passOn 1 none ∈ ALL := inA 387 (by decide +kernel) (by decide +kernel)
theorem a_388 : Cond.methodLink RX7 31 yX4_takeOver ∈ ALL := inA 388 (by decide +kernel) (by decide +kernel)
theorem a_389 : Cond.methodLink RL 138 yL_conflictRow ∈ ALL := inA 389 (by decide +kernel) (by decide +kernel)
theorem a_390 : Cond.static yL_conflictRow ∈ ALL := inA 390 (by decide +kernel) (by decide +kernel)
theorem a_391 : Cond.codeWith ({ cls := "LensbenchLaw", name := "conflictRow", desc := "(LLensbench;I)I" } : Jvm.MethodName) method_21_code (4 : Nat) (Option.some Jvm.ClassFile.FieldType.int) [((0 : Nat), (6 : Nat), (9 : Nat), (16 : Nat)), ((0 : Nat), (6 : Nat), (14 : Nat), (14 : Nat))] ∈ ALL := inA 391 (by decide +kernel) (by decide +kernel)
theorem a_392 : Cond.classLink RL 14 "java/lang/IllegalArgumentException" ∈ ALL := inA 392 (by decide +kernel) (by decide +kernel)
theorem a_393 : Cond.methodLink RL 74 yX10_conflictRow ∈ ALL := inA 393 (by decide +kernel) (by decide +kernel)
theorem a_394 : Cond.instanceMethod yX10_conflictRow ∈ ALL := inA 394 (by decide +kernel) (by decide +kernel)
theorem a_395 : Cond.selects RX10 yX10_conflictRow yX10_conflictRow ∈ ALL := inA 395 (by decide +kernel) (by decide +kernel)
theorem a_396 : Cond.code yX10_conflictRow cX10_conflictRow 2 (some .int) ∈ ALL := inA 396 (by decide +kernel) (by decide +kernel)
theorem a_397 : Cond.classLink RX10 44 "java/lang/IllegalArgumentException" ∈ ALL := inA 397 (by decide +kernel) (by decide +kernel)
theorem a_398 : Cond.instantiable "java/lang/IllegalArgumentException" 6 ∈ ALL := inA 398 (by decide +kernel) (by decide +kernel)
theorem a_399 : Cond.castable "java/lang/IllegalArgumentException" "java/lang/IllegalArgumentException" ∈ lw_tbl := List.mem_of_getElem? (i := 399) (by decide +kernel)
theorem a_400 : Cond.selects "java/lang/IllegalArgumentException" ⟨"java/lang/Throwable", "fillInStackTrace", "(I)Ljava/lang/Throwable;"⟩ ⟨"java/lang/Throwable", "fillInStackTrace", "(I)Ljava/lang/Throwable;"⟩ ∈ ALL := inA 400 (by decide +kernel) (by decide +kernel)
theorem a_407 : Cond.methodLink RX10 48 ⟨"java/lang/IllegalArgumentException", "<init>", "(Ljava/lang/String;)V"⟩ ∈ ALL := inA 407 (by decide +kernel) (by decide +kernel)
theorem a_408 : Cond.instanceMethod ⟨"java/lang/IllegalArgumentException", "<init>", "(Ljava/lang/String;)V"⟩ ∈ ALL := inA 408 (by decide +kernel) (by decide +kernel)
theorem a_409 : Cond.code ⟨"java/lang/IllegalArgumentException", "<init>", "(Ljava/lang/String;)V"⟩ prog_16_method_2_code 2 none ∈ ALL := inA 409 (by decide +kernel) (by decide +kernel)
theorem a_410 : Cond.methodLink "java/lang/IllegalArgumentException" 7 ⟨"java/lang/RuntimeException", "<init>", "(Ljava/lang/String;)V"⟩ ∈ ALL := inA 410 (by decide +kernel) (by decide +kernel)
theorem a_413 : Cond.methodLink RL 141 yL_changes ∈ ALL := inA 413 (by decide +kernel) (by decide +kernel)
theorem a_414 : Cond.static yL_changes ∈ ALL := inA 414 (by decide +kernel) (by decide +kernel)
theorem a_415 : Cond.codeWith ({ cls := "LensbenchLaw", name := "changes", desc := "(LLensbench;)I" } : Jvm.MethodName) method_22_code (3 : Nat) (Option.some Jvm.ClassFile.FieldType.int) [((0 : Nat), (5 : Nat), (8 : Nat), (16 : Nat))] ∈ ALL := inA 415 (by decide +kernel) (by decide +kernel)
theorem a_416 : Cond.methodLink RL 77 yX10_changes ∈ ALL := inA 416 (by decide +kernel) (by decide +kernel)
theorem a_417 : Cond.instanceMethod yX10_changes ∈ ALL := inA 417 (by decide +kernel) (by decide +kernel)
theorem a_418 : Cond.selects RX10 yX10_changes yX10_changes ∈ ALL := inA 418 (by decide +kernel) (by decide +kernel)
theorem a_419 : Cond.code yX10_changes cX10_changes 1 (some .int) ∈ ALL := inA 419 (by decide +kernel) (by decide +kernel)
theorem a_420 : Cond.methodLink RX10 213 yX10_countPlanned ∈ ALL := inA 420 (by decide +kernel) (by decide +kernel)
theorem a_422 : Cond.instanceMethod yX10_countPlanned ∈ ALL := inA 422 (by decide +kernel) (by decide +kernel)
theorem a_423 : Cond.code yX10_countPlanned cX10_countPlanned 4 (some .int) ∈ ALL := inA 423 (by decide +kernel) (by decide +kernel)
theorem a_424 : Cond.methodLink RX10 272 yX4_countMissingIn ∈ ALL := inA 424 (by decide +kernel) (by decide +kernel)
theorem a_425 : Cond.instanceMethod yX4_countMissingIn ∈ ALL := inA 425 (by decide +kernel) (by decide +kernel)
theorem a_426 : Cond.selects RX4 yX4_countMissingIn yX4_countMissingIn ∈ ALL := inA 426 (by decide +kernel) (by decide +kernel)
theorem a_427 : Cond.code yX4_countMissingIn cX4_countMissingIn 4 (some .int) ∈ ALL := inA 427 (by decide +kernel) (by decide +kernel)
theorem a_428 : Cond.methodLink RL 143 yL_fewest ∈ ALL := inA 428 (by decide +kernel) (by decide +kernel)
theorem a_429 : Cond.static yL_fewest ∈ ALL := inA 429 (by decide +kernel) (by decide +kernel)
theorem a_430 : Cond.codeWith ({ cls := "LensbenchLaw", name := "fewest", desc := "(LLensbench;)I" } : Jvm.MethodName) method_23_code (3 : Nat) (Option.some Jvm.ClassFile.FieldType.int) [((0 : Nat), (5 : Nat), (8 : Nat), (16 : Nat))] ∈ ALL := inA 430 (by decide +kernel) (by decide +kernel)
theorem a_431 : Cond.methodLink RL 80 yX10_fewest ∈ ALL := inA 431 (by decide +kernel) (by decide +kernel)
theorem a_432 : Cond.instanceMethod yX10_fewest ∈ ALL := inA 432 (by decide +kernel) (by decide +kernel)
theorem a_433 : Cond.selects RX10 yX10_fewest yX10_fewest ∈ ALL := inA 433 (by decide +kernel) (by decide +kernel)
theorem a_434 : Cond.code yX10_fewest cX10_fewest 2 (some .int) ∈ ALL := inA 434 (by decide +kernel) (by decide +kernel)
theorem a_435 : Cond.methodLink RX10 216 yX10_onlyTable ∈ ALL := inA 435 (by decide +kernel) (by decide +kernel)
theorem a_437 : Cond.instanceMethod yX10_onlyTable ∈ ALL := inA 437 (by decide +kernel) (by decide +kernel)
theorem a_438 : Cond.code yX10_onlyTable cX10_onlyTable 3 (some (.object "Lensbench$Table")) ∈ ALL := inA 438 (by decide +kernel) (by decide +kernel)
theorem a_439 : Cond.methodLink RX10 219 yX8_canTry ∈ ALL := inA 439 (by decide +kernel) (by decide +kernel)
theorem a_440 : Cond.static yX8_canTry ∈ ALL := inA 440 (by decide +kernel) (by decide +kernel)
theorem a_441 : Cond.code yX8_canTry cX8_canTry 2 (some .boolean) ∈ ALL := inA 441 (by decide +kernel) (by decide +kernel)
theorem a_442 : Cond.methodLink RX8 24 yJ6_bitCount_0f7a4 ∈ ALL := inA 442 (by decide +kernel) (by decide +kernel)
theorem a_443 : Cond.static yJ6_bitCount_0f7a4 ∈ ALL := inA 443 (by decide +kernel) (by decide +kernel)
theorem a_444 : Cond.code yJ6_bitCount_0f7a4 cJ6_bitCount_0f7a4 1 (some .int) ∈ ALL := inA 444 (by decide +kernel) (by decide +kernel)
theorem a_445 : Cond.constant RJ6 265 (1431655765) ∈ ALL := inA 445 (by decide +kernel) (by decide +kernel)
theorem a_446 : Cond.constant RJ6 266 (858993459) ∈ ALL := inA 446 (by decide +kernel) (by decide +kernel)
theorem a_447 : Cond.constant RJ6 267 (252645135) ∈ ALL := inA 447 (by decide +kernel) (by decide +kernel)
theorem a_448 : Cond.methodLink RX8 34 yX4_size ∈ ALL := inA 448 (by decide +kernel) (by decide +kernel)
theorem a_449 : Cond.methodLink RX8 40 yX4_at ∈ ALL := inA 449 (by decide +kernel) (by decide +kernel)
theorem a_450 : Cond.methodLink RX8 43 yX8_hasGreatValue ∈ ALL := inA 450 (by decide +kernel) (by decide +kernel)
theorem a_451 : Cond.static yX8_hasGreatValue ∈ ALL := inA 451 (by decide +kernel) (by decide +kernel)
theorem a_452 : Cond.code yX8_hasGreatValue cX8_hasGreatValue 2 (some .boolean) ∈ ALL := inA 452 (by decide +kernel) (by decide +kernel)
theorem a_453 : Cond.methodLink RX8 47 yX1_digit ∈ ALL := inA 453 (by decide +kernel) (by decide +kernel)
theorem a_455 : Cond.methodLink RX10 225 yX8_fewestChanges ∈ ALL := inA 455 (by decide +kernel) (by decide +kernel)
theorem a_456 : Cond.instanceMethod yX8_fewestChanges ∈ ALL := inA 456 (by decide +kernel) (by decide +kernel)
theorem a_457 : Cond.selects RX8 yX8_fewestChanges yX8_fewestChanges ∈ ALL := inA 457 (by decide +kernel) (by decide +kernel)
theorem a_458 : Cond.code yX8_fewestChanges cX8_fewestChanges 7 (some .int) ∈ ALL := inA 458 (by decide +kernel) (by decide +kernel)
theorem a_459 : Cond.methodLink RX8 53 yX8_listRows ∈ ALL := inA 459 (by decide +kernel) (by decide +kernel)
theorem a_461 : Cond.instanceMethod yX8_listRows ∈ ALL := inA 461 (by decide +kernel) (by decide +kernel)
theorem a_462 : Cond.code yX8_listRows cX8_listRows 5 none ∈ ALL := inA 462 (by decide +kernel) (by decide +kernel)
theorem a_463 : Cond.methodLink RX8 81 yX1_isIn ∈ ALL := inA 463 (by decide +kernel) (by decide +kernel)
theorem a_464 : Cond.methodLink RX8 85 yX1_told ∈ ALL := inA 464 (by decide +kernel) (by decide +kernel)
theorem a_465 : Cond.methodLink RX8 57 yX8_sortRows ∈ ALL := inA 465 (by decide +kernel) (by decide +kernel)
theorem a_467 : Cond.instanceMethod yX8_sortRows ∈ ALL := inA 467 (by decide +kernel) (by decide +kernel)
theorem a_468 : Cond.code yX8_sortRows cX8_sortRows 6 none ∈ ALL := inA 468 (by decide +kernel) (by decide +kernel)
theorem a_469 : Cond.methodLink RX8 88 yX4_has ∈ ALL := inA 469 (by decide +kernel) (by decide +kernel)
theorem a_470 : Cond.methodLink RX8 91 yX8_isSeen ∈ ALL := inA 470 (by decide +kernel) (by decide +kernel)
theorem a_471 : Cond.static yX8_isSeen ∈ ALL := inA 471 (by decide +kernel) (by decide +kernel)
theorem a_472 : Cond.code yX8_isSeen cX8_isSeen 3 (some .boolean) ∈ ALL := inA 472 (by decide +kernel) (by decide +kernel)
theorem a_473 : Cond.methodLink RX8 111 yX9_selects ∈ ALL := inA 473 (by decide +kernel) (by decide +kernel)
theorem a_474 : Cond.instanceMethod yX9_selects ∈ ALL := inA 474 (by decide +kernel) (by decide +kernel)
theorem a_475 : Cond.sameMethod "Lensbench$View" "Lensbench$View" "selects" "(I)Z" ∈ ALL := inA 475 (by decide +kernel) (by decide +kernel)
theorem a_476 : Cond.selects RX2 yX9_selects yX9_selects ∈ ALL := inA 476 (by decide +kernel) (by decide +kernel)
theorem a_477 : Cond.selects RX3 yX9_selects yX9_selects ∈ ALL := inA 477 (by decide +kernel) (by decide +kernel)
theorem a_478 : Cond.selects RX5 yX9_selects yX5_selects ∈ ALL := inA 478 (by decide +kernel) (by decide +kernel)
theorem a_479 : Cond.selects RX7 yX9_selects yX9_selects ∈ ALL := inA 479 (by decide +kernel) (by decide +kernel)
theorem a_480 : Cond.code yX9_selects cX9_selects 2 (some .boolean) ∈ ALL := inA 480 (by decide +kernel) (by decide +kernel)
theorem a_481 : Cond.methodLink RX8 98 yX1_part ∈ ALL := inA 481 (by decide +kernel) (by decide +kernel)
theorem a_482 : Cond.methodLink RX8 104 yX8_rivalsOf ∈ ALL := inA 482 (by decide +kernel) (by decide +kernel)
theorem a_484 : Cond.instanceMethod yX8_rivalsOf ∈ ALL := inA 484 (by decide +kernel) (by decide +kernel)
theorem a_485 : Cond.code yX8_rivalsOf cX8_rivalsOf 5 (some .int) ∈ ALL := inA 485 (by decide +kernel) (by decide +kernel)
theorem a_486 : Cond.methodLink RX8 107 yX1_alike ∈ ALL := inA 486 (by decide +kernel) (by decide +kernel)
theorem a_487 : Cond.methodLink RX8 70 yX8_hasUnlikeKeys ∈ ALL := inA 487 (by decide +kernel) (by decide +kernel)
theorem a_489 : Cond.instanceMethod yX8_hasUnlikeKeys ∈ ALL := inA 489 (by decide +kernel) (by decide +kernel)
theorem a_490 : Cond.code yX8_hasUnlikeKeys cX8_hasUnlikeKeys 3 (some .boolean) ∈ ALL := inA 490 (by decide +kernel) (by decide +kernel)
theorem a_491 : Cond.methodLink RX8 76 yJ9_min_7cf53 ∈ ALL := inA 491 (by decide +kernel) (by decide +kernel)
theorem a_492 : Cond.methodLink RL 145 yL_draftRow ∈ ALL := inA 492 (by decide +kernel) (by decide +kernel)
theorem a_493 : Cond.static yL_draftRow ∈ ALL := inA 493 (by decide +kernel) (by decide +kernel)
theorem a_494 : Cond.codeWith ({ cls := "LensbenchLaw", name := "draftRow", desc := "(LLensbench;I)I" } : Jvm.MethodName) method_19_code (4 : Nat) (Option.some Jvm.ClassFile.FieldType.int) [((0 : Nat), (6 : Nat), (9 : Nat), (16 : Nat)), ((0 : Nat), (6 : Nat), (14 : Nat), (21 : Nat))] ∈ ALL := inA 494 (by decide +kernel) (by decide +kernel)
theorem a_495 : Cond.classLink RL 21 "java/lang/IndexOutOfBoundsException" ∈ ALL := inA 495 (by decide +kernel) (by decide +kernel)
theorem a_496 : Cond.methodLink RL 67 yX10_draftRow ∈ ALL := inA 496 (by decide +kernel) (by decide +kernel)
theorem a_497 : Cond.instanceMethod yX10_draftRow ∈ ALL := inA 497 (by decide +kernel) (by decide +kernel)
theorem a_498 : Cond.selects RX10 yX10_draftRow yX10_draftRow ∈ ALL := inA 498 (by decide +kernel) (by decide +kernel)
theorem a_499 : Cond.code yX10_draftRow cX10_draftRow 2 (some .int) ∈ ALL := inA 499 (by decide +kernel) (by decide +kernel)
theorem a_500 : Cond.classLink RX10 67 "java/lang/IndexOutOfBoundsException" ∈ ALL := inA 500 (by decide +kernel) (by decide +kernel)
theorem a_501 : Cond.instantiable "java/lang/IndexOutOfBoundsException" 6 ∈ ALL := inA 501 (by decide +kernel) (by decide +kernel)
theorem a_502 : Cond.castable "java/lang/IndexOutOfBoundsException" "java/lang/IndexOutOfBoundsException" ∈ lw_tbl := List.mem_of_getElem? (i := 502) (by decide +kernel)
theorem a_503 : Cond.selects "java/lang/IndexOutOfBoundsException" ⟨"java/lang/Throwable", "fillInStackTrace", "(I)Ljava/lang/Throwable;"⟩ ⟨"java/lang/Throwable", "fillInStackTrace", "(I)Ljava/lang/Throwable;"⟩ ∈ ALL := inA 503 (by decide +kernel) (by decide +kernel)
theorem a_510 : Cond.methodLink RX10 71 ⟨"java/lang/IndexOutOfBoundsException", "<init>", "(Ljava/lang/String;)V"⟩ ∈ ALL := inA 510 (by decide +kernel) (by decide +kernel)
theorem a_511 : Cond.instanceMethod ⟨"java/lang/IndexOutOfBoundsException", "<init>", "(Ljava/lang/String;)V"⟩ ∈ ALL := inA 511 (by decide +kernel) (by decide +kernel)
theorem a_512 : Cond.code ⟨"java/lang/IndexOutOfBoundsException", "<init>", "(Ljava/lang/String;)V"⟩ prog_18_method_2_code 2 none ∈ ALL := inA 512 (by decide +kernel) (by decide +kernel)
theorem a_513 : Cond.methodLink "java/lang/IndexOutOfBoundsException" 7 ⟨"java/lang/RuntimeException", "<init>", "(Ljava/lang/String;)V"⟩ ∈ ALL := inA 513 (by decide +kernel) (by decide +kernel)
theorem a_516 : Cond.methodLink RX10 171 yX4_at ∈ ALL := inA 516 (by decide +kernel) (by decide +kernel)
theorem a_517 : Cond.methodLink RL 147 yL_add ∈ ALL := inA 517 (by decide +kernel) (by decide +kernel)
theorem a_518 : Cond.static yL_add ∈ ALL := inA 518 (by decide +kernel) (by decide +kernel)
theorem a_519 : Cond.codeWith ({ cls := "LensbenchLaw", name := "add", desc := "(LLensbench;I)I" } : Jvm.MethodName) method_16_code (4 : Nat) (Option.some Jvm.ClassFile.FieldType.int) [((0 : Nat), (6 : Nat), (9 : Nat), (16 : Nat)), ((0 : Nat), (6 : Nat), (14 : Nat), (14 : Nat))] ∈ ALL := inA 519 (by decide +kernel) (by decide +kernel)
theorem a_520 : Cond.methodLink RL 58 yX10_add ∈ ALL := inA 520 (by decide +kernel) (by decide +kernel)
theorem a_521 : Cond.instanceMethod yX10_add ∈ ALL := inA 521 (by decide +kernel) (by decide +kernel)
theorem a_522 : Cond.selects RX10 yX10_add yX10_add ∈ ALL := inA 522 (by decide +kernel) (by decide +kernel)
theorem a_523 : Cond.code yX10_add cX10_add 2 (some .int) ∈ ALL := inA 523 (by decide +kernel) (by decide +kernel)
theorem a_524 : Cond.methodLink RX10 105 yX4_has ∈ ALL := inA 524 (by decide +kernel) (by decide +kernel)
theorem a_525 : Cond.methodLink RX10 86 yX4_size ∈ ALL := inA 525 (by decide +kernel) (by decide +kernel)
theorem a_527 : Cond.methodLink RX10 75 yX1_isRow ∈ ALL := inA 527 (by decide +kernel) (by decide +kernel)
theorem a_528 : Cond.static yX1_isRow ∈ ALL := inA 528 (by decide +kernel) (by decide +kernel)
theorem a_529 : Cond.code yX1_isRow cX1_isRow 2 (some .boolean) ∈ ALL := inA 529 (by decide +kernel) (by decide +kernel)
theorem a_530 : Cond.constant RX1 15 (999999) ∈ ALL := inA 530 (by decide +kernel) (by decide +kernel)
theorem a_531 : Cond.methodLink RX1 16 yX1_part ∈ ALL := inA 531 (by decide +kernel) (by decide +kernel)
theorem a_533 : Cond.methodLink RX10 99 yX4_put ∈ ALL := inA 533 (by decide +kernel) (by decide +kernel)
theorem a_534 : Cond.methodLink RL 149 yL_takeOut ∈ ALL := inA 534 (by decide +kernel) (by decide +kernel)
theorem a_535 : Cond.static yL_takeOut ∈ ALL := inA 535 (by decide +kernel) (by decide +kernel)
theorem a_536 : Cond.codeWith ({ cls := "LensbenchLaw", name := "takeOut", desc := "(LLensbench;I)I" } : Jvm.MethodName) method_17_code (4 : Nat) (Option.some Jvm.ClassFile.FieldType.int) [((0 : Nat), (6 : Nat), (9 : Nat), (16 : Nat)), ((0 : Nat), (6 : Nat), (14 : Nat), (26 : Nat))] ∈ ALL := inA 536 (by decide +kernel) (by decide +kernel)
theorem a_537 : Cond.classLink RL 26 "java/util/NoSuchElementException" ∈ ALL := inA 537 (by decide +kernel) (by decide +kernel)
theorem a_538 : Cond.methodLink RL 61 yX10_takeOut ∈ ALL := inA 538 (by decide +kernel) (by decide +kernel)
theorem a_539 : Cond.instanceMethod yX10_takeOut ∈ ALL := inA 539 (by decide +kernel) (by decide +kernel)
theorem a_540 : Cond.selects RX10 yX10_takeOut yX10_takeOut ∈ ALL := inA 540 (by decide +kernel) (by decide +kernel)
theorem a_541 : Cond.code yX10_takeOut cX10_takeOut 2 (some .int) ∈ ALL := inA 541 (by decide +kernel) (by decide +kernel)
theorem a_542 : Cond.classLink RX10 109 "java/util/NoSuchElementException" ∈ ALL := inA 542 (by decide +kernel) (by decide +kernel)
theorem a_543 : Cond.instantiable "java/util/NoSuchElementException" 6 ∈ ALL := inA 543 (by decide +kernel) (by decide +kernel)
theorem a_544 : Cond.castable "java/util/NoSuchElementException" "java/util/NoSuchElementException" ∈ lw_tbl := List.mem_of_getElem? (i := 544) (by decide +kernel)
theorem a_545 : Cond.selects "java/util/NoSuchElementException" ⟨"java/lang/Throwable", "fillInStackTrace", "(I)Ljava/lang/Throwable;"⟩ ⟨"java/lang/Throwable", "fillInStackTrace", "(I)Ljava/lang/Throwable;"⟩ ∈ ALL := inA 545 (by decide +kernel) (by decide +kernel)
theorem a_552 : Cond.methodLink RX10 113 ⟨"java/util/NoSuchElementException", "<init>", "(Ljava/lang/String;)V"⟩ ∈ ALL := inA 552 (by decide +kernel) (by decide +kernel)
theorem a_553 : Cond.instanceMethod ⟨"java/util/NoSuchElementException", "<init>", "(Ljava/lang/String;)V"⟩ ∈ ALL := inA 553 (by decide +kernel) (by decide +kernel)
theorem a_554 : Cond.code ⟨"java/util/NoSuchElementException", "<init>", "(Ljava/lang/String;)V"⟩ prog_24_method_4_code 2 none ∈ ALL := inA 554 (by decide +kernel) (by decide +kernel)
theorem a_555 : Cond.methodLink "java/util/NoSuchElementException" 13 ⟨"java/lang/RuntimeException", "<init>", "(Ljava/lang/String;)V"⟩ ∈ ALL := inA 555 (by decide +kernel) (by decide +kernel)
theorem a_558 : Cond.methodLink RX10 114 yX4_remove ∈ ALL := inA 558 (by decide +kernel) (by decide +kernel)
theorem a_559 : Cond.instanceMethod yX4_remove ∈ ALL := inA 559 (by decide +kernel) (by decide +kernel)
theorem a_560 : Cond.selects RX4 yX4_remove yX4_remove ∈ ALL := inA 560 (by decide +kernel) (by decide +kernel)
theorem a_561 : Cond.code yX4_remove cX4_remove 4 none ∈ ALL := inA 561 (by decide +kernel) (by decide +kernel)
theorem a_562 : Cond.methodLink RL 151 yL_change ∈ ALL := inA 562 (by decide +kernel) (by decide +kernel)
theorem a_563 : Cond.static yL_change ∈ ALL := inA 563 (by decide +kernel) (by decide +kernel)
theorem a_564 : Cond.codeWith ({ cls := "LensbenchLaw", name := "change", desc := "(LLensbench;III)I" } : Jvm.MethodName) method_18_code (6 : Nat) (Option.some Jvm.ClassFile.FieldType.int) [((0 : Nat), (9 : Nat), (12 : Nat), (16 : Nat)), ((0 : Nat), (9 : Nat), (18 : Nat), (14 : Nat)), ((0 : Nat), (9 : Nat), (24 : Nat), (26 : Nat))] ∈ ALL := inA 564 (by decide +kernel) (by decide +kernel)
theorem a_565 : Cond.methodLink RL 64 yX10_change ∈ ALL := inA 565 (by decide +kernel) (by decide +kernel)
theorem a_566 : Cond.instanceMethod yX10_change ∈ ALL := inA 566 (by decide +kernel) (by decide +kernel)
theorem a_567 : Cond.selects RX10 yX10_change yX10_change ∈ ALL := inA 567 (by decide +kernel) (by decide +kernel)
theorem a_568 : Cond.code yX10_change cX10_change 5 (some .int) ∈ ALL := inA 568 (by decide +kernel) (by decide +kernel)
theorem a_569 : Cond.methodLink RX10 138 yX1_isColumn ∈ ALL := inA 569 (by decide +kernel) (by decide +kernel)
theorem a_570 : Cond.static yX1_isColumn ∈ ALL := inA 570 (by decide +kernel) (by decide +kernel)
theorem a_571 : Cond.code yX1_isColumn cX1_isColumn 2 (some .boolean) ∈ ALL := inA 571 (by decide +kernel) (by decide +kernel)
theorem a_572 : Cond.methodLink RX10 141 yX1_isValue ∈ ALL := inA 572 (by decide +kernel) (by decide +kernel)
theorem a_573 : Cond.static yX1_isValue ∈ ALL := inA 573 (by decide +kernel) (by decide +kernel)
theorem a_574 : Cond.code yX1_isValue cX1_isValue 1 (some .boolean) ∈ ALL := inA 574 (by decide +kernel) (by decide +kernel)
theorem a_576 : Cond.methodLink RX10 187 yX1_with ∈ ALL := inA 576 (by decide +kernel) (by decide +kernel)
theorem a_578 : Cond.methodLink RL 111 yL_number ∈ ALL := inA 578 (by decide +kernel) (by decide +kernel)
theorem a_579 : Cond.static yL_number ∈ ALL := inA 579 (by decide +kernel) (by decide +kernel)
theorem a_580 : Cond.code yL_number cL_number 1 (some .int) ∈ ALL := inA 580 (by decide +kernel) (by decide +kernel)
theorem a_581 : Cond.methodLink RL 154 yL_put ∈ ALL := inA 581 (by decide +kernel) (by decide +kernel)
theorem a_582 : Cond.static yL_put ∈ ALL := inA 582 (by decide +kernel) (by decide +kernel)
set_option maxRecDepth 1000000 in
set_option maxHeartbeats 4000000 in
theorem a_583 : Cond.code yL_put cL_put 16 none ∈ ALL := inA 583 (by exact rfl) (by decide +kernel)
theorem a_584 : Cond.methodLink RL 121 yL_lay ∈ ALL := inA 584 (by decide +kernel) (by decide +kernel)
theorem a_585 : Cond.static yL_lay ∈ ALL := inA 585 (by decide +kernel) (by decide +kernel)
theorem a_586 : Cond.code yL_lay cL_lay 10 none ∈ ALL := inA 586 (by decide +kernel) (by decide +kernel)
theorem a_587 : Cond.methodLink RL 103 yL_selected ∈ ALL := inA 587 (by decide +kernel) (by decide +kernel)
theorem a_588 : Cond.static yL_selected ∈ ALL := inA 588 (by decide +kernel) (by decide +kernel)
theorem a_589 : Cond.code yL_selected cL_selected 6 (some .int) ∈ ALL := inA 589 (by decide +kernel) (by decide +kernel)
theorem a_590 : Cond.methodLink RL 89 yL_digit ∈ ALL := inA 590 (by decide +kernel) (by decide +kernel)
theorem a_591 : Cond.static yL_digit ∈ ALL := inA 591 (by decide +kernel) (by decide +kernel)
theorem a_592 : Cond.code yL_digit cL_digit 2 (some .int) ∈ ALL := inA 592 (by decide +kernel) (by decide +kernel)
theorem a_593 : Cond.methodLink RL 107 yL_columnsOf ∈ ALL := inA 593 (by decide +kernel) (by decide +kernel)
theorem a_594 : Cond.static yL_columnsOf ∈ ALL := inA 594 (by decide +kernel) (by decide +kernel)
theorem a_595 : Cond.code yL_columnsOf cL_columnsOf 2 (some .int) ∈ ALL := inA 595 (by decide +kernel) (by decide +kernel)
theorem a_596 : Cond.methodLink RL 100 yL_parts ∈ ALL := inA 596 (by decide +kernel) (by decide +kernel)
theorem a_597 : Cond.static yL_parts ∈ ALL := inA 597 (by decide +kernel) (by decide +kernel)
theorem a_598 : Cond.code yL_parts cL_parts 4 (some .int) ∈ ALL := inA 598 (by decide +kernel) (by decide +kernel)
theorem a_599 : Cond.methodLink RL 97 yL_part ∈ ALL := inA 599 (by decide +kernel) (by decide +kernel)
theorem a_600 : Cond.static yL_part ∈ ALL := inA 600 (by decide +kernel) (by decide +kernel)
theorem a_601 : Cond.code yL_part cL_part 4 (some .int) ∈ ALL := inA 601 (by decide +kernel) (by decide +kernel)
theorem a_602 : Cond.methodLink RL 94 yL_unit ∈ ALL := inA 602 (by decide +kernel) (by decide +kernel)
theorem a_603 : Cond.static yL_unit ∈ ALL := inA 603 (by decide +kernel) (by decide +kernel)
theorem a_604 : Cond.code yL_unit cL_unit 1 (some .int) ∈ ALL := inA 604 (by decide +kernel) (by decide +kernel)
theorem a_605 : Cond.methodLink RL 125 yL_hinders ∈ ALL := inA 605 (by decide +kernel) (by decide +kernel)
theorem a_606 : Cond.static yL_hinders ∈ ALL := inA 606 (by decide +kernel) (by decide +kernel)
theorem a_607 : Cond.code yL_hinders cL_hinders 9 (some .boolean) ∈ ALL := inA 607 (by decide +kernel) (by decide +kernel)
theorem a_608 : Cond.methodLink RL 114 yL_keyOf ∈ ALL := inA 608 (by decide +kernel) (by decide +kernel)
theorem a_609 : Cond.static yL_keyOf ∈ ALL := inA 609 (by decide +kernel) (by decide +kernel)
theorem a_610 : Cond.code yL_keyOf cL_keyOf 2 (some .int) ∈ ALL := inA 610 (by decide +kernel) (by decide +kernel)
theorem a_611 : Cond.methodLink RL 117 yL_twins ∈ ALL := inA 611 (by decide +kernel) (by decide +kernel)
theorem a_612 : Cond.static yL_twins ∈ ALL := inA 612 (by decide +kernel) (by decide +kernel)
theorem a_613 : Cond.code yL_twins cL_twins 8 (some .boolean) ∈ ALL := inA 613 (by decide +kernel) (by decide +kernel)
theorem a_614 : Cond.methodLink RL 129 yL_like ∈ ALL := inA 614 (by decide +kernel) (by decide +kernel)
theorem a_615 : Cond.static yL_like ∈ ALL := inA 615 (by decide +kernel) (by decide +kernel)
theorem a_616 : Cond.code yL_like cL_like 7 (some .int) ∈ ALL := inA 616 (by decide +kernel) (by decide +kernel)
theorem a_617 : Cond.methodLink RL 132 yL_count ∈ ALL := inA 617 (by decide +kernel) (by decide +kernel)
theorem a_618 : Cond.static yL_count ∈ ALL := inA 618 (by decide +kernel) (by decide +kernel)
theorem a_619 : Cond.code yL_count cL_count 3 (some .int) ∈ ALL := inA 619 (by decide +kernel) (by decide +kernel)
theorem a_620 : Cond.methodLink RL 158 yL_least ∈ ALL := inA 620 (by decide +kernel) (by decide +kernel)
theorem a_621 : Cond.static yL_least ∈ ALL := inA 621 (by decide +kernel) (by decide +kernel)
theorem a_622 : Cond.code yL_least cL_least 11 (some .int) ∈ ALL := inA 622 (by decide +kernel) (by decide +kernel)
theorem a_623 : Cond.methodLink RL 212 yL_isTold ∈ ALL := inA 623 (by decide +kernel) (by decide +kernel)
theorem a_624 : Cond.static yL_isTold ∈ ALL := inA 624 (by decide +kernel) (by decide +kernel)
theorem a_625 : Cond.code yL_isTold cL_isTold 8 (some .boolean) ∈ ALL := inA 625 (by decide +kernel) (by decide +kernel)
theorem a_626 : Cond.methodLink RL 162 yL_row ∈ ALL := inA 626 (by decide +kernel) (by decide +kernel)
theorem a_627 : Cond.static yL_row ∈ ALL := inA 627 (by decide +kernel) (by decide +kernel)
theorem a_628 : Cond.codeWith ({ cls := "LensbenchLaw", name := "row", desc := "(LLensbench;II)I" } : Jvm.MethodName) method_14_code (5 : Nat) (Option.some Jvm.ClassFile.FieldType.int) [((0 : Nat), (7 : Nat), (10 : Nat), (21 : Nat))] ∈ ALL := inA 628 (by decide +kernel) (by decide +kernel)
theorem a_629 : Cond.methodLink RL 52 yX10_row ∈ ALL := inA 629 (by decide +kernel) (by decide +kernel)
theorem a_630 : Cond.instanceMethod yX10_row ∈ ALL := inA 630 (by decide +kernel) (by decide +kernel)
theorem a_631 : Cond.selects RX10 yX10_row yX10_row ∈ ALL := inA 631 (by decide +kernel) (by decide +kernel)
theorem a_632 : Cond.code yX10_row cX10_row 4 (some .int) ∈ ALL := inA 632 (by decide +kernel) (by decide +kernel)
theorem a_633 : Cond.methodLink RX10 131 yX10_viewAt ∈ ALL := inA 633 (by decide +kernel) (by decide +kernel)
theorem a_635 : Cond.instanceMethod yX10_viewAt ∈ ALL := inA 635 (by decide +kernel) (by decide +kernel)
theorem a_636 : Cond.code yX10_viewAt cX10_viewAt 2 (some (.object "Lensbench$View")) ∈ ALL := inA 636 (by decide +kernel) (by decide +kernel)
theorem a_638 : Cond.methodLink RL 165 yL_rows ∈ ALL := inA 638 (by decide +kernel) (by decide +kernel)
theorem a_639 : Cond.static yL_rows ∈ ALL := inA 639 (by decide +kernel) (by decide +kernel)
theorem a_640 : Cond.codeWith ({ cls := "LensbenchLaw", name := "rows", desc := "(LLensbench;I)I" } : Jvm.MethodName) method_13_code (4 : Nat) (Option.some Jvm.ClassFile.FieldType.int) [((0 : Nat), (6 : Nat), (9 : Nat), (21 : Nat))] ∈ ALL := inA 640 (by decide +kernel) (by decide +kernel)
theorem a_641 : Cond.methodLink RL 49 yX10_rows ∈ ALL := inA 641 (by decide +kernel) (by decide +kernel)
theorem a_642 : Cond.instanceMethod yX10_rows ∈ ALL := inA 642 (by decide +kernel) (by decide +kernel)
theorem a_643 : Cond.selects RX10 yX10_rows yX10_rows ∈ ALL := inA 643 (by decide +kernel) (by decide +kernel)
theorem a_644 : Cond.code yX10_rows cX10_rows 3 (some .int) ∈ ALL := inA 644 (by decide +kernel) (by decide +kernel)
theorem a_646 : Cond.methodLink RL 167 yL_columns ∈ ALL := inA 646 (by decide +kernel) (by decide +kernel)
theorem a_647 : Cond.static yL_columns ∈ ALL := inA 647 (by decide +kernel) (by decide +kernel)
theorem a_648 : Cond.codeWith ({ cls := "LensbenchLaw", name := "columns", desc := "(LLensbench;I)I" } : Jvm.MethodName) method_11_code (4 : Nat) (Option.some Jvm.ClassFile.FieldType.int) [((0 : Nat), (6 : Nat), (9 : Nat), (21 : Nat))] ∈ ALL := inA 648 (by decide +kernel) (by decide +kernel)
theorem a_649 : Cond.methodLink RL 43 yX10_columns ∈ ALL := inA 649 (by decide +kernel) (by decide +kernel)
theorem a_650 : Cond.instanceMethod yX10_columns ∈ ALL := inA 650 (by decide +kernel) (by decide +kernel)
theorem a_651 : Cond.selects RX10 yX10_columns yX10_columns ∈ ALL := inA 651 (by decide +kernel) (by decide +kernel)
theorem a_652 : Cond.code yX10_columns cX10_columns 3 (some .int) ∈ ALL := inA 652 (by decide +kernel) (by decide +kernel)
end
section
theorem a_653 : Cond.methodLink RL 169 yL_key ∈ ALL := inA 653 (by decide +kernel) (by decide +kernel)
theorem a_654 : Cond.static yL_key ∈ ALL := inA 654 (by decide +kernel) (by decide +kernel)
theorem a_655 : Cond.codeWith ({ cls := "LensbenchLaw", name := "key", desc := "(LLensbench;I)I" } : Jvm.MethodName) method_12_code (4 : Nat) (Option.some Jvm.ClassFile.FieldType.int) [((0 : Nat), (6 : Nat), (9 : Nat), (21 : Nat))] ∈ ALL := inA 655 (by decide +kernel) (by decide +kernel)
theorem a_656 : Cond.methodLink RL 46 yX10_key ∈ ALL := inA 656 (by decide +kernel) (by decide +kernel)
theorem a_657 : Cond.instanceMethod yX10_key ∈ ALL := inA 657 (by decide +kernel) (by decide +kernel)
theorem a_658 : Cond.selects RX10 yX10_key yX10_key ∈ ALL := inA 658 (by decide +kernel) (by decide +kernel)
theorem a_659 : Cond.code yX10_key cX10_key 3 (some .int) ∈ ALL := inA 659 (by decide +kernel) (by decide +kernel)
theorem a_660 : Cond.methodLink RL 171 yL_open ∈ ALL := inA 660 (by decide +kernel) (by decide +kernel)
theorem a_661 : Cond.static yL_open ∈ ALL := inA 661 (by decide +kernel) (by decide +kernel)
theorem a_662 : Cond.codeWith ({ cls := "LensbenchLaw", name := "open", desc := "(LLensbench;I)I" } : Jvm.MethodName) method_15_code (4 : Nat) (Option.some Jvm.ClassFile.FieldType.int) [((0 : Nat), (6 : Nat), (9 : Nat), (21 : Nat))] ∈ ALL := inA 662 (by decide +kernel) (by decide +kernel)
theorem a_663 : Cond.methodLink RL 55 yX10_open ∈ ALL := inA 663 (by decide +kernel) (by decide +kernel)
theorem a_664 : Cond.instanceMethod yX10_open ∈ ALL := inA 664 (by decide +kernel) (by decide +kernel)
theorem a_665 : Cond.selects RX10 yX10_open yX10_open ∈ ALL := inA 665 (by decide +kernel) (by decide +kernel)
theorem a_666 : Cond.code yX10_open cX10_open 3 (some .int) ∈ ALL := inA 666 (by decide +kernel) (by decide +kernel)
theorem a_667 : Cond.methodLink RL 204 yL_views ∈ ALL := inA 667 (by decide +kernel) (by decide +kernel)
theorem a_668 : Cond.static yL_views ∈ ALL := inA 668 (by decide +kernel) (by decide +kernel)
set_option maxRecDepth 1000000 in
set_option maxHeartbeats 4000000 in
theorem a_669 : Cond.code yL_views cL_views 15 (some .boolean) ∈ ALL := inA 669 (by exact rfl) (by decide +kernel)
theorem a_670 : Cond.methodLink RL 173 yL_select ∈ ALL := inA 670 (by decide +kernel) (by decide +kernel)
theorem a_671 : Cond.static yL_select ∈ ALL := inA 671 (by decide +kernel) (by decide +kernel)
theorem a_672 : Cond.codeWith ({ cls := "LensbenchLaw", name := "select", desc := "(LLensbench;IIIZ)I" } : Jvm.MethodName) method_8_code (7 : Nat) (Option.some Jvm.ClassFile.FieldType.int) [((0 : Nat), (11 : Nat), (14 : Nat), (21 : Nat)), ((0 : Nat), (11 : Nat), (20 : Nat), (14 : Nat)), ((0 : Nat), (11 : Nat), (26 : Nat), (16 : Nat))] ∈ ALL := inA 672 (by decide +kernel) (by decide +kernel)
theorem a_673 : Cond.methodLink RL 32 yX10_select ∈ ALL := inA 673 (by decide +kernel) (by decide +kernel)
theorem a_674 : Cond.instanceMethod yX10_select ∈ ALL := inA 674 (by decide +kernel) (by decide +kernel)
theorem a_675 : Cond.selects RX10 yX10_select yX10_select ∈ ALL := inA 675 (by decide +kernel) (by decide +kernel)
theorem a_676 : Cond.code yX10_select cX10_select 6 (some .int) ∈ ALL := inA 676 (by decide +kernel) (by decide +kernel)
theorem a_678 : Cond.classLink RX10 146 RX5 ∈ ALL := inA 678 (by decide +kernel) (by decide +kernel)
theorem a_679 : Cond.instantiable RX5 12 ∈ ALL := inA 679 (by decide +kernel) (by decide +kernel)
theorem a_680 : Cond.methodLink RX10 148 yX5_init ∈ ALL := inA 680 (by decide +kernel) (by decide +kernel)
theorem a_681 : Cond.instanceMethod yX5_init ∈ ALL := inA 681 (by decide +kernel) (by decide +kernel)
theorem a_682 : Cond.code yX5_init cX5_init 6 none ∈ ALL := inA 682 (by decide +kernel) (by decide +kernel)
theorem a_683 : Cond.methodLink RX5 15 yX9_init ∈ ALL := inA 683 (by decide +kernel) (by decide +kernel)
theorem a_684 : Cond.instanceMethod yX9_init ∈ ALL := inA 684 (by decide +kernel) (by decide +kernel)
theorem a_685 : Cond.code yX9_init cX9_init 7 none ∈ ALL := inA 685 (by decide +kernel) (by decide +kernel)
theorem a_686 : Cond.methodLink RX9 3 ⟨"java/lang/Object", "<init>", "()V"⟩ ∈ ALL := inA 686 (by decide +kernel) (by decide +kernel)
theorem a_687 : Cond.classLink RX9 9 RX4 ∈ ALL := inA 687 (by decide +kernel) (by decide +kernel)
theorem a_688 : Cond.methodLink RX9 11 yX4_init ∈ ALL := inA 688 (by decide +kernel) (by decide +kernel)
theorem a_689 : Cond.fieldLink RX5 19 "Lensbench$SelectView" "source" "LLensbench$View;" ∈ ALL := inA 689 (by decide +kernel) (by decide +kernel)
theorem a_690 : Cond.fieldLink RX5 25 "Lensbench$SelectView" "column" "I" ∈ ALL := inA 690 (by decide +kernel) (by decide +kernel)
theorem a_691 : Cond.fieldLink RX5 28 "Lensbench$SelectView" "value" "I" ∈ ALL := inA 691 (by decide +kernel) (by decide +kernel)
theorem a_692 : Cond.fieldLink RX5 31 "Lensbench$SelectView" "isSame" "Z" ∈ ALL := inA 692 (by decide +kernel) (by decide +kernel)
theorem a_693 : Cond.fieldLink RX9 23 "Lensbench$View" "number" "I" ∈ ALL := inA 693 (by decide +kernel) (by decide +kernel)
theorem a_694 : Cond.fieldLink RX7 44 "Lensbench$TableView" "number" "I" ∈ ALL := inA 694 (by decide +kernel) (by decide +kernel)
theorem a_695 : Cond.sameField "Lensbench$TableView" "Lensbench$View" "number" "I" ∈ ALL := inA 695 (by decide +kernel) (by decide +kernel)
theorem a_696 : Cond.fieldLink RX5 71 "Lensbench$SelectView" "number" "I" ∈ ALL := inA 696 (by decide +kernel) (by decide +kernel)
theorem a_697 : Cond.sameField "Lensbench$SelectView" "Lensbench$View" "number" "I" ∈ ALL := inA 697 (by decide +kernel) (by decide +kernel)
theorem a_698 : Cond.fieldLink RX0 47 "Lensbench$View" "number" "I" ∈ ALL := inA 698 (by decide +kernel) (by decide +kernel)
theorem a_699 : Cond.fieldLink RX10 245 "Lensbench$View" "number" "I" ∈ ALL := inA 699 (by decide +kernel) (by decide +kernel)
theorem a_700 : Cond.fieldLink RX5 3 "Lensbench$View" "columns" "I" ∈ ALL := inA 700 (by decide +kernel) (by decide +kernel)
theorem a_701 : Cond.fieldLink RX2 3 "Lensbench$View" "columns" "I" ∈ ALL := inA 701 (by decide +kernel) (by decide +kernel)
theorem a_702 : Cond.fieldLink RX3 3 "Lensbench$View" "columns" "I" ∈ ALL := inA 702 (by decide +kernel) (by decide +kernel)
theorem a_703 : Cond.fieldLink RX9 27 "Lensbench$View" "columns" "I" ∈ ALL := inA 703 (by decide +kernel) (by decide +kernel)
theorem a_704 : Cond.fieldLink RX2 50 "Lensbench$DropView" "columns" "I" ∈ ALL := inA 704 (by decide +kernel) (by decide +kernel)
theorem a_705 : Cond.sameField "Lensbench$DropView" "Lensbench$View" "columns" "I" ∈ ALL := inA 705 (by decide +kernel) (by decide +kernel)
theorem a_706 : Cond.fieldLink RX10 137 "Lensbench$View" "columns" "I" ∈ ALL := inA 706 (by decide +kernel) (by decide +kernel)
theorem a_707 : Cond.fieldLink RX8 95 "Lensbench$View" "columns" "I" ∈ ALL := inA 707 (by decide +kernel) (by decide +kernel)
theorem a_708 : Cond.fieldLink RX5 9 "Lensbench$View" "key" "I" ∈ ALL := inA 708 (by decide +kernel) (by decide +kernel)
theorem a_709 : Cond.fieldLink RX3 9 "Lensbench$View" "key" "I" ∈ ALL := inA 709 (by decide +kernel) (by decide +kernel)
theorem a_710 : Cond.fieldLink RX2 9 "Lensbench$View" "key" "I" ∈ ALL := inA 710 (by decide +kernel) (by decide +kernel)
theorem a_711 : Cond.fieldLink RX9 30 "Lensbench$View" "key" "I" ∈ ALL := inA 711 (by decide +kernel) (by decide +kernel)
theorem a_712 : Cond.fieldLink RX2 72 "Lensbench$DropView" "key" "I" ∈ ALL := inA 712 (by decide +kernel) (by decide +kernel)
theorem a_713 : Cond.sameField "Lensbench$DropView" "Lensbench$View" "key" "I" ∈ ALL := inA 713 (by decide +kernel) (by decide +kernel)
theorem a_714 : Cond.fieldLink RX10 151 "Lensbench$View" "key" "I" ∈ ALL := inA 714 (by decide +kernel) (by decide +kernel)
theorem a_715 : Cond.fieldLink RX5 12 "Lensbench$View" "tables" "I" ∈ ALL := inA 715 (by decide +kernel) (by decide +kernel)
theorem a_716 : Cond.fieldLink RX3 12 "Lensbench$View" "tables" "I" ∈ ALL := inA 716 (by decide +kernel) (by decide +kernel)
theorem a_717 : Cond.fieldLink RX2 12 "Lensbench$View" "tables" "I" ∈ ALL := inA 717 (by decide +kernel) (by decide +kernel)
theorem a_718 : Cond.fieldLink RX9 33 "Lensbench$View" "tables" "I" ∈ ALL := inA 718 (by decide +kernel) (by decide +kernel)
theorem a_719 : Cond.fieldLink RX10 157 "Lensbench$View" "tables" "I" ∈ ALL := inA 719 (by decide +kernel) (by decide +kernel)
theorem a_720 : Cond.fieldLink RX9 36 "Lensbench$View" "left" "LLensbench$View;" ∈ ALL := inA 720 (by decide +kernel) (by decide +kernel)
theorem a_721 : Cond.fieldLink RX8 114 "Lensbench$View" "left" "LLensbench$View;" ∈ ALL := inA 721 (by decide +kernel) (by decide +kernel)
theorem a_722 : Cond.fieldLink RX10 269 "Lensbench$View" "left" "LLensbench$View;" ∈ ALL := inA 722 (by decide +kernel) (by decide +kernel)
theorem a_723 : Cond.fieldLink RX9 40 "Lensbench$View" "right" "LLensbench$View;" ∈ ALL := inA 723 (by decide +kernel) (by decide +kernel)
theorem a_724 : Cond.fieldLink RX10 266 "Lensbench$View" "right" "LLensbench$View;" ∈ ALL := inA 724 (by decide +kernel) (by decide +kernel)
theorem a_725 : Cond.fieldLink RX9 14 "Lensbench$View" "shown" "LLensbench$Rows;" ∈ ALL := inA 725 (by decide +kernel) (by decide +kernel)
theorem a_726 : Cond.fieldLink RX2 31 "Lensbench$DropView" "shown" "LLensbench$Rows;" ∈ ALL := inA 726 (by decide +kernel) (by decide +kernel)
theorem a_727 : Cond.sameField "Lensbench$DropView" "Lensbench$View" "shown" "LLensbench$Rows;" ∈ ALL := inA 727 (by decide +kernel) (by decide +kernel)
theorem a_728 : Cond.fieldLink RX3 31 "Lensbench$JoinView" "shown" "LLensbench$Rows;" ∈ ALL := inA 728 (by decide +kernel) (by decide +kernel)
theorem a_729 : Cond.sameField "Lensbench$JoinView" "Lensbench$View" "shown" "LLensbench$Rows;" ∈ ALL := inA 729 (by decide +kernel) (by decide +kernel)
theorem a_730 : Cond.fieldLink RX7 24 "Lensbench$TableView" "shown" "LLensbench$Rows;" ∈ ALL := inA 730 (by decide +kernel) (by decide +kernel)
theorem a_731 : Cond.sameField "Lensbench$TableView" "Lensbench$View" "shown" "LLensbench$Rows;" ∈ ALL := inA 731 (by decide +kernel) (by decide +kernel)
theorem a_732 : Cond.fieldLink RX2 41 "Lensbench$View" "shown" "LLensbench$Rows;" ∈ ALL := inA 732 (by decide +kernel) (by decide +kernel)
theorem a_733 : Cond.fieldLink RX3 41 "Lensbench$View" "shown" "LLensbench$Rows;" ∈ ALL := inA 733 (by decide +kernel) (by decide +kernel)
theorem a_734 : Cond.fieldLink RX5 41 "Lensbench$SelectView" "shown" "LLensbench$Rows;" ∈ ALL := inA 734 (by decide +kernel) (by decide +kernel)
theorem a_735 : Cond.sameField "Lensbench$SelectView" "Lensbench$View" "shown" "LLensbench$Rows;" ∈ ALL := inA 735 (by decide +kernel) (by decide +kernel)
theorem a_736 : Cond.fieldLink RX5 51 "Lensbench$View" "shown" "LLensbench$Rows;" ∈ ALL := inA 736 (by decide +kernel) (by decide +kernel)
theorem a_737 : Cond.fieldLink RX10 166 "Lensbench$View" "shown" "LLensbench$Rows;" ∈ ALL := inA 737 (by decide +kernel) (by decide +kernel)
theorem a_738 : Cond.fieldLink RX9 20 "Lensbench$View" "wanted" "LLensbench$Rows;" ∈ ALL := inA 738 (by decide +kernel) (by decide +kernel)
theorem a_739 : Cond.fieldLink RX7 37 "Lensbench$TableView" "wanted" "LLensbench$Rows;" ∈ ALL := inA 739 (by decide +kernel) (by decide +kernel)
theorem a_740 : Cond.sameField "Lensbench$TableView" "Lensbench$View" "wanted" "LLensbench$Rows;" ∈ ALL := inA 740 (by decide +kernel) (by decide +kernel)
theorem a_741 : Cond.fieldLink RX5 68 "Lensbench$SelectView" "wanted" "LLensbench$Rows;" ∈ ALL := inA 741 (by decide +kernel) (by decide +kernel)
theorem a_742 : Cond.sameField "Lensbench$SelectView" "Lensbench$View" "wanted" "LLensbench$Rows;" ∈ ALL := inA 742 (by decide +kernel) (by decide +kernel)
theorem a_743 : Cond.fieldLink RX2 61 "Lensbench$View" "wanted" "LLensbench$Rows;" ∈ ALL := inA 743 (by decide +kernel) (by decide +kernel)
theorem a_744 : Cond.fieldLink RX3 69 "Lensbench$JoinView" "wanted" "LLensbench$Rows;" ∈ ALL := inA 744 (by decide +kernel) (by decide +kernel)
theorem a_745 : Cond.sameField "Lensbench$JoinView" "Lensbench$View" "wanted" "LLensbench$Rows;" ∈ ALL := inA 745 (by decide +kernel) (by decide +kernel)
theorem a_746 : Cond.fieldLink RX2 64 "Lensbench$DropView" "wanted" "LLensbench$Rows;" ∈ ALL := inA 746 (by decide +kernel) (by decide +kernel)
theorem a_747 : Cond.sameField "Lensbench$DropView" "Lensbench$View" "wanted" "LLensbench$Rows;" ∈ ALL := inA 747 (by decide +kernel) (by decide +kernel)
theorem a_748 : Cond.fieldLink RX3 80 "Lensbench$View" "wanted" "LLensbench$Rows;" ∈ ALL := inA 748 (by decide +kernel) (by decide +kernel)
theorem a_749 : Cond.fieldLink RX0 25 "Lensbench$View" "wanted" "LLensbench$Rows;" ∈ ALL := inA 749 (by decide +kernel) (by decide +kernel)
theorem a_750 : Cond.fieldLink RX5 80 "Lensbench$View" "wanted" "LLensbench$Rows;" ∈ ALL := inA 750 (by decide +kernel) (by decide +kernel)
theorem a_751 : Cond.fieldLink RX10 254 "Lensbench$View" "wanted" "LLensbench$Rows;" ∈ ALL := inA 751 (by decide +kernel) (by decide +kernel)
theorem a_777 : Cond.methodLink RX10 127 yX10_keepView ∈ ALL := inA 777 (by decide +kernel) (by decide +kernel)
theorem a_779 : Cond.instanceMethod yX10_keepView ∈ ALL := inA 779 (by decide +kernel) (by decide +kernel)
theorem a_780 : Cond.code yX10_keepView cX10_keepView 2 (some .int) ∈ ALL := inA 780 (by decide +kernel) (by decide +kernel)
theorem a_781 : Cond.methodLink RX10 242 ⟨"Lensbench$View", "show", "()V"⟩ ∈ ALL := inA 781 (by decide +kernel) (by decide +kernel)
theorem a_782 : Cond.declares ⟨"Lensbench$View", "show", "()V"⟩ ∈ lw_tbl := List.mem_of_getElem? (i := 782) (by decide +kernel)
theorem a_783 : Cond.sameMethod "Lensbench$View" "Lensbench$View" "show" "()V" ∈ ALL := inA 783 (by decide +kernel) (by decide +kernel)
theorem a_784 : Cond.selects RX2 ⟨"Lensbench$View", "show", "()V"⟩ yX2_show ∈ ALL := inA 784 (by decide +kernel) (by decide +kernel)
theorem a_785 : Cond.instanceMethod yX2_show ∈ ALL := inA 785 (by decide +kernel) (by decide +kernel)
theorem a_786 : Cond.code yX2_show cX2_show 2 none ∈ ALL := inA 786 (by decide +kernel) (by decide +kernel)
theorem a_787 : Cond.methodLink RX2 51 yX1_part ∈ ALL := inA 787 (by decide +kernel) (by decide +kernel)
theorem a_788 : Cond.selects RX3 ⟨"Lensbench$View", "show", "()V"⟩ yX3_show ∈ ALL := inA 788 (by decide +kernel) (by decide +kernel)
theorem a_789 : Cond.instanceMethod yX3_show ∈ ALL := inA 789 (by decide +kernel) (by decide +kernel)
theorem a_790 : Cond.code yX3_show cX3_show 4 none ∈ ALL := inA 790 (by decide +kernel) (by decide +kernel)
theorem a_791 : Cond.methodLink RX3 35 yX4_clear ∈ ALL := inA 791 (by decide +kernel) (by decide +kernel)
theorem a_792 : Cond.methodLink RX3 54 yX1_part ∈ ALL := inA 792 (by decide +kernel) (by decide +kernel)
theorem a_793 : Cond.selects RX5 ⟨"Lensbench$View", "show", "()V"⟩ yX5_show ∈ ALL := inA 793 (by decide +kernel) (by decide +kernel)
theorem a_794 : Cond.instanceMethod yX5_show ∈ ALL := inA 794 (by decide +kernel) (by decide +kernel)
theorem a_795 : Cond.code yX5_show cX5_show 3 none ∈ ALL := inA 795 (by decide +kernel) (by decide +kernel)
theorem a_796 : Cond.methodLink RX5 45 yX4_clear ∈ ALL := inA 796 (by decide +kernel) (by decide +kernel)
theorem a_797 : Cond.selects RX7 ⟨"Lensbench$View", "show", "()V"⟩ yX7_show ∈ ALL := inA 797 (by decide +kernel) (by decide +kernel)
theorem a_798 : Cond.instanceMethod yX7_show ∈ ALL := inA 798 (by decide +kernel) (by decide +kernel)
theorem a_799 : Cond.code yX7_show cX7_show 1 none ∈ ALL := inA 799 (by decide +kernel) (by decide +kernel)
theorem a_800 : Cond.methodLink RL 176 yL_drop ∈ ALL := inA 800 (by decide +kernel) (by decide +kernel)
theorem a_801 : Cond.static yL_drop ∈ ALL := inA 801 (by decide +kernel) (by decide +kernel)
theorem a_802 : Cond.codeWith ({ cls := "LensbenchLaw", name := "drop", desc := "(LLensbench;III)I" } : Jvm.MethodName) method_9_code (6 : Nat) (Option.some Jvm.ClassFile.FieldType.int) [((0 : Nat), (9 : Nat), (12 : Nat), (21 : Nat)), ((0 : Nat), (9 : Nat), (18 : Nat), (14 : Nat)), ((0 : Nat), (9 : Nat), (24 : Nat), (16 : Nat))] ∈ ALL := inA 802 (by decide +kernel) (by decide +kernel)
theorem a_803 : Cond.methodLink RL 36 yX10_drop ∈ ALL := inA 803 (by decide +kernel) (by decide +kernel)
theorem a_804 : Cond.instanceMethod yX10_drop ∈ ALL := inA 804 (by decide +kernel) (by decide +kernel)
theorem a_805 : Cond.selects RX10 yX10_drop yX10_drop ∈ ALL := inA 805 (by decide +kernel) (by decide +kernel)
theorem a_806 : Cond.code yX10_drop cX10_drop 5 (some .int) ∈ ALL := inA 806 (by decide +kernel) (by decide +kernel)
theorem a_807 : Cond.classLink RX10 152 RX2 ∈ ALL := inA 807 (by decide +kernel) (by decide +kernel)
theorem a_808 : Cond.methodLink RX10 154 yX2_init ∈ ALL := inA 808 (by decide +kernel) (by decide +kernel)
theorem a_809 : Cond.instanceMethod yX2_init ∈ ALL := inA 809 (by decide +kernel) (by decide +kernel)
theorem a_810 : Cond.code yX2_init cX2_init 5 none ∈ ALL := inA 810 (by decide +kernel) (by decide +kernel)
theorem a_811 : Cond.methodLink RX2 15 yX9_init ∈ ALL := inA 811 (by decide +kernel) (by decide +kernel)
theorem a_812 : Cond.fieldLink RX2 19 "Lensbench$DropView" "source" "LLensbench$View;" ∈ ALL := inA 812 (by decide +kernel) (by decide +kernel)
theorem a_813 : Cond.fieldLink RX2 25 "Lensbench$DropView" "column" "I" ∈ ALL := inA 813 (by decide +kernel) (by decide +kernel)
theorem a_814 : Cond.fieldLink RX2 28 "Lensbench$DropView" "value" "I" ∈ ALL := inA 814 (by decide +kernel) (by decide +kernel)
theorem a_830 : Cond.methodLink RL 178 yL_join ∈ ALL := inA 830 (by decide +kernel) (by decide +kernel)
theorem a_831 : Cond.static yL_join ∈ ALL := inA 831 (by decide +kernel) (by decide +kernel)
theorem a_832 : Cond.codeWith ({ cls := "LensbenchLaw", name := "join", desc := "(LLensbench;II)I" } : Jvm.MethodName) method_10_code (5 : Nat) (Option.some Jvm.ClassFile.FieldType.int) [((0 : Nat), (7 : Nat), (10 : Nat), (21 : Nat)), ((0 : Nat), (7 : Nat), (16 : Nat), (14 : Nat)), ((0 : Nat), (7 : Nat), (22 : Nat), (16 : Nat))] ∈ ALL := inA 832 (by decide +kernel) (by decide +kernel)
theorem a_833 : Cond.methodLink RL 40 yX10_join ∈ ALL := inA 833 (by decide +kernel) (by decide +kernel)
theorem a_834 : Cond.instanceMethod yX10_join ∈ ALL := inA 834 (by decide +kernel) (by decide +kernel)
theorem a_835 : Cond.selects RX10 yX10_join yX10_join ∈ ALL := inA 835 (by decide +kernel) (by decide +kernel)
theorem a_836 : Cond.code yX10_join cX10_join 5 (some .int) ∈ ALL := inA 836 (by decide +kernel) (by decide +kernel)
theorem a_838 : Cond.classLink RX10 161 RX3 ∈ ALL := inA 838 (by decide +kernel) (by decide +kernel)
theorem a_839 : Cond.instantiable RX3 11 ∈ ALL := inA 839 (by decide +kernel) (by decide +kernel)
theorem a_840 : Cond.methodLink RX10 163 yX3_init ∈ ALL := inA 840 (by decide +kernel) (by decide +kernel)
theorem a_841 : Cond.instanceMethod yX3_init ∈ ALL := inA 841 (by decide +kernel) (by decide +kernel)
theorem a_842 : Cond.code yX3_init cX3_init 4 none ∈ ALL := inA 842 (by decide +kernel) (by decide +kernel)
theorem a_843 : Cond.methodLink RX3 15 yX9_init ∈ ALL := inA 843 (by decide +kernel) (by decide +kernel)
theorem a_844 : Cond.fieldLink RX3 19 "Lensbench$JoinView" "one" "LLensbench$View;" ∈ ALL := inA 844 (by decide +kernel) (by decide +kernel)
theorem a_845 : Cond.fieldLink RX3 25 "Lensbench$JoinView" "other" "LLensbench$View;" ∈ ALL := inA 845 (by decide +kernel) (by decide +kernel)
theorem a_846 : Cond.fieldLink RX3 28 "Lensbench$JoinView" "common" "I" ∈ ALL := inA 846 (by decide +kernel) (by decide +kernel)
theorem a_862 : Cond.methodLink RL 183 yL_of ∈ ALL := inA 862 (by decide +kernel) (by decide +kernel)
theorem a_863 : Cond.static yL_of ∈ ALL := inA 863 (by decide +kernel) (by decide +kernel)
theorem a_864 : Cond.codeWith ({ cls := "LensbenchLaw", name := "of", desc := "(LLensbench;I)I" } : Jvm.MethodName) method_7_code (4 : Nat) (Option.some Jvm.ClassFile.FieldType.int) [((0 : Nat), (6 : Nat), (9 : Nat), (21 : Nat)), ((0 : Nat), (6 : Nat), (14 : Nat), (16 : Nat))] ∈ ALL := inA 864 (by decide +kernel) (by decide +kernel)
theorem a_865 : Cond.methodLink RL 28 yX10_of ∈ ALL := inA 865 (by decide +kernel) (by decide +kernel)
theorem a_866 : Cond.instanceMethod yX10_of ∈ ALL := inA 866 (by decide +kernel) (by decide +kernel)
theorem a_867 : Cond.selects RX10 yX10_of yX10_of ∈ ALL := inA 867 (by decide +kernel) (by decide +kernel)
theorem a_868 : Cond.code yX10_of cX10_of 3 (some .int) ∈ ALL := inA 868 (by decide +kernel) (by decide +kernel)
theorem a_870 : Cond.classLink RX10 122 RX7 ∈ ALL := inA 870 (by decide +kernel) (by decide +kernel)
theorem a_871 : Cond.instantiable RX7 9 ∈ ALL := inA 871 (by decide +kernel) (by decide +kernel)
theorem a_872 : Cond.methodLink RX10 124 yX7_init ∈ ALL := inA 872 (by decide +kernel) (by decide +kernel)
theorem a_873 : Cond.instanceMethod yX7_init ∈ ALL := inA 873 (by decide +kernel) (by decide +kernel)
theorem a_874 : Cond.code yX7_init cX7_init 4 none ∈ ALL := inA 874 (by decide +kernel) (by decide +kernel)
theorem a_875 : Cond.methodLink RX7 12 yX9_init ∈ ALL := inA 875 (by decide +kernel) (by decide +kernel)
theorem a_876 : Cond.fieldLink RX7 18 "Lensbench$TableView" "table" "LLensbench$Table;" ∈ ALL := inA 876 (by decide +kernel) (by decide +kernel)
theorem a_888 : Cond.methodLink RL 200 yL_tables ∈ ALL := inA 888 (by decide +kernel) (by decide +kernel)
theorem a_889 : Cond.static yL_tables ∈ ALL := inA 889 (by decide +kernel) (by decide +kernel)
set_option maxRecDepth 1000000 in
set_option maxHeartbeats 4000000 in
theorem a_890 : Cond.code yL_tables cL_tables 9 (some .boolean) ∈ ALL := inA 890 (by exact rfl) (by decide +kernel)
theorem a_891 : Cond.methodLink RL 185 yL_table ∈ ALL := inA 891 (by decide +kernel) (by decide +kernel)
theorem a_892 : Cond.static yL_table ∈ ALL := inA 892 (by decide +kernel) (by decide +kernel)
theorem a_893 : Cond.codeWith ({ cls := "LensbenchLaw", name := "table", desc := "(LLensbench;II)I" } : Jvm.MethodName) method_4_code (5 : Nat) (Option.some Jvm.ClassFile.FieldType.int) [((0 : Nat), (7 : Nat), (10 : Nat), (14 : Nat)), ((0 : Nat), (7 : Nat), (16 : Nat), (16 : Nat))] ∈ ALL := inA 893 (by decide +kernel) (by decide +kernel)
theorem a_894 : Cond.methodLink RL 8 yX10_table ∈ ALL := inA 894 (by decide +kernel) (by decide +kernel)
theorem a_895 : Cond.instanceMethod yX10_table ∈ ALL := inA 895 (by decide +kernel) (by decide +kernel)
theorem a_896 : Cond.selects RX10 yX10_table yX10_table ∈ ALL := inA 896 (by decide +kernel) (by decide +kernel)
theorem a_897 : Cond.code yX10_table cX10_table 3 (some .int) ∈ ALL := inA 897 (by decide +kernel) (by decide +kernel)
theorem a_900 : Cond.instantiable RX6 5 ∈ ALL := inA 900 (by decide +kernel) (by decide +kernel)
theorem a_901 : Cond.methodLink RX10 60 yX6_init ∈ ALL := inA 901 (by decide +kernel) (by decide +kernel)
theorem a_902 : Cond.instanceMethod yX6_init ∈ ALL := inA 902 (by decide +kernel) (by decide +kernel)
theorem a_903 : Cond.code yX6_init cX6_init 4 none ∈ ALL := inA 903 (by decide +kernel) (by decide +kernel)
theorem a_904 : Cond.methodLink RX6 3 ⟨"java/lang/Object", "<init>", "()V"⟩ ∈ ALL := inA 904 (by decide +kernel) (by decide +kernel)
theorem a_905 : Cond.classLink RX6 9 RX4 ∈ ALL := inA 905 (by decide +kernel) (by decide +kernel)
theorem a_906 : Cond.methodLink RX6 11 yX4_init ∈ ALL := inA 906 (by decide +kernel) (by decide +kernel)
theorem a_907 : Cond.arrayOver (Jvm.ClassFile.FieldType.object "Lensbench$Rows") ∈ lw_tbl := List.mem_of_getElem? (i := 907) (by decide +kernel)
theorem a_908 : Cond.fieldLink RX7 3 "Lensbench$Table" "columns" "I" ∈ ALL := inA 908 (by decide +kernel) (by decide +kernel)
theorem a_909 : Cond.fieldLink RX6 27 "Lensbench$Table" "columns" "I" ∈ ALL := inA 909 (by decide +kernel) (by decide +kernel)
theorem a_910 : Cond.fieldLink RX8 18 "Lensbench$Table" "columns" "I" ∈ ALL := inA 910 (by decide +kernel) (by decide +kernel)
theorem a_911 : Cond.fieldLink RX10 72 "Lensbench$Table" "columns" "I" ∈ ALL := inA 911 (by decide +kernel) (by decide +kernel)
theorem a_912 : Cond.fieldLink RX7 9 "Lensbench$Table" "key" "I" ∈ ALL := inA 912 (by decide +kernel) (by decide +kernel)
theorem a_913 : Cond.fieldLink RX6 31 "Lensbench$Table" "key" "I" ∈ ALL := inA 913 (by decide +kernel) (by decide +kernel)
theorem a_914 : Cond.fieldLink RX10 90 "Lensbench$Table" "key" "I" ∈ ALL := inA 914 (by decide +kernel) (by decide +kernel)
theorem a_915 : Cond.fieldLink RX8 101 "Lensbench$Table" "key" "I" ∈ ALL := inA 915 (by decide +kernel) (by decide +kernel)
theorem a_916 : Cond.fieldLink RX6 14 "Lensbench$Table" "rows" "LLensbench$Rows;" ∈ ALL := inA 916 (by decide +kernel) (by decide +kernel)
theorem a_917 : Cond.fieldLink RX7 28 "Lensbench$Table" "rows" "LLensbench$Rows;" ∈ ALL := inA 917 (by decide +kernel) (by decide +kernel)
theorem a_918 : Cond.fieldLink RX8 30 "Lensbench$Table" "rows" "LLensbench$Rows;" ∈ ALL := inA 918 (by decide +kernel) (by decide +kernel)
theorem a_919 : Cond.fieldLink RX10 83 "Lensbench$Table" "rows" "LLensbench$Rows;" ∈ ALL := inA 919 (by decide +kernel) (by decide +kernel)
theorem a_920 : Cond.fieldLink RX6 20 "Lensbench$Table" "wanted" "LLensbench$Rows;" ∈ ALL := inA 920 (by decide +kernel) (by decide +kernel)
theorem a_921 : Cond.fieldLink RX7 53 "Lensbench$Table" "wanted" "LLensbench$Rows;" ∈ ALL := inA 921 (by decide +kernel) (by decide +kernel)
theorem a_922 : Cond.fieldLink RX10 248 "Lensbench$Table" "wanted" "LLensbench$Rows;" ∈ ALL := inA 922 (by decide +kernel) (by decide +kernel)
theorem a_923 : Cond.fieldLink RX6 23 "Lensbench$Table" "past" "[LLensbench$Rows;" ∈ ALL := inA 923 (by decide +kernel) (by decide +kernel)
theorem a_935 : Cond.methodLink RL 187 yL_insert ∈ ALL := inA 935 (by decide +kernel) (by decide +kernel)
theorem a_936 : Cond.static yL_insert ∈ ALL := inA 936 (by decide +kernel) (by decide +kernel)
theorem a_937 : Cond.codeWith ({ cls := "LensbenchLaw", name := "insert", desc := "(LLensbench;II)I" } : Jvm.MethodName) method_5_code (5 : Nat) (Option.some Jvm.ClassFile.FieldType.int) [((0 : Nat), (7 : Nat), (10 : Nat), (21 : Nat)), ((0 : Nat), (7 : Nat), (16 : Nat), (14 : Nat)), ((0 : Nat), (7 : Nat), (22 : Nat), (16 : Nat))] ∈ ALL := inA 937 (by decide +kernel) (by decide +kernel)
theorem a_938 : Cond.methodLink RL 18 yX10_insert ∈ ALL := inA 938 (by decide +kernel) (by decide +kernel)
theorem a_939 : Cond.instanceMethod yX10_insert ∈ ALL := inA 939 (by decide +kernel) (by decide +kernel)
theorem a_940 : Cond.selects RX10 yX10_insert yX10_insert ∈ ALL := inA 940 (by decide +kernel) (by decide +kernel)
theorem a_941 : Cond.code yX10_insert cX10_insert 4 (some .int) ∈ ALL := inA 941 (by decide +kernel) (by decide +kernel)
theorem a_942 : Cond.methodLink RX10 93 yX4_firstLike ∈ ALL := inA 942 (by decide +kernel) (by decide +kernel)
theorem a_944 : Cond.methodLink RX10 102 yX10_showViews ∈ ALL := inA 944 (by decide +kernel) (by decide +kernel)
theorem a_946 : Cond.instanceMethod yX10_showViews ∈ ALL := inA 946 (by decide +kernel) (by decide +kernel)
theorem a_947 : Cond.code yX10_showViews cX10_showViews 3 none ∈ ALL := inA 947 (by decide +kernel) (by decide +kernel)
theorem a_948 : Cond.methodLink RL 189 yL_delete ∈ ALL := inA 948 (by decide +kernel) (by decide +kernel)
theorem a_949 : Cond.static yL_delete ∈ ALL := inA 949 (by decide +kernel) (by decide +kernel)
theorem a_950 : Cond.codeWith ({ cls := "LensbenchLaw", name := "delete", desc := "(LLensbench;II)I" } : Jvm.MethodName) method_6_code (5 : Nat) (Option.some Jvm.ClassFile.FieldType.int) [((0 : Nat), (7 : Nat), (10 : Nat), (21 : Nat)), ((0 : Nat), (7 : Nat), (16 : Nat), (26 : Nat))] ∈ ALL := inA 950 (by decide +kernel) (by decide +kernel)
theorem a_951 : Cond.methodLink RL 23 yX10_delete ∈ ALL := inA 951 (by decide +kernel) (by decide +kernel)
theorem a_952 : Cond.instanceMethod yX10_delete ∈ ALL := inA 952 (by decide +kernel) (by decide +kernel)
theorem a_953 : Cond.selects RX10 yX10_delete yX10_delete ∈ ALL := inA 953 (by decide +kernel) (by decide +kernel)
theorem a_954 : Cond.code yX10_delete cX10_delete 4 (some .int) ∈ ALL := inA 954 (by decide +kernel) (by decide +kernel)
theorem a_955 : Cond.constant RL 191 (1000000) ∈ ALL := inA 955 (by decide +kernel) (by decide +kernel)
theorem a_956 : Cond.methodLink RL 208 yL_drafts ∈ ALL := inA 956 (by decide +kernel) (by decide +kernel)
theorem a_957 : Cond.static yL_drafts ∈ ALL := inA 957 (by decide +kernel) (by decide +kernel)
set_option maxRecDepth 1000000 in
set_option maxHeartbeats 4000000 in
theorem a_958 : Cond.code yL_drafts cL_drafts 16 (some .boolean) ∈ ALL := inA 958 (by exact rfl) (by decide +kernel)
theorem a_959 : Cond.methodLink RL 192 yL_putBack ∈ ALL := inA 959 (by decide +kernel) (by decide +kernel)
theorem a_960 : Cond.static yL_putBack ∈ ALL := inA 960 (by decide +kernel) (by decide +kernel)
theorem a_961 : Cond.codeWith ({ cls := "LensbenchLaw", name := "putBack", desc := "(LLensbench;)I" } : Jvm.MethodName) method_24_code (3 : Nat) (Option.some Jvm.ClassFile.FieldType.int) [((0 : Nat), (5 : Nat), (8 : Nat), (16 : Nat))] ∈ ALL := inA 961 (by decide +kernel) (by decide +kernel)
theorem a_962 : Cond.methodLink RL 83 yX10_putBack ∈ ALL := inA 962 (by decide +kernel) (by decide +kernel)
theorem a_963 : Cond.instanceMethod yX10_putBack ∈ ALL := inA 963 (by decide +kernel) (by decide +kernel)
theorem a_964 : Cond.selects RX10 yX10_putBack yX10_putBack ∈ ALL := inA 964 (by decide +kernel) (by decide +kernel)
theorem a_965 : Cond.code yX10_putBack cX10_putBack 2 (some .int) ∈ ALL := inA 965 (by decide +kernel) (by decide +kernel)
theorem a_967 : Cond.methodLink RX10 231 yX10_carryOut ∈ ALL := inA 967 (by decide +kernel) (by decide +kernel)
theorem a_969 : Cond.instanceMethod yX10_carryOut ∈ ALL := inA 969 (by decide +kernel) (by decide +kernel)
theorem a_970 : Cond.code yX10_carryOut cX10_carryOut 3 none ∈ ALL := inA 970 (by decide +kernel) (by decide +kernel)
theorem a_971 : Cond.methodLink RX10 276 yX6_remember ∈ ALL := inA 971 (by decide +kernel) (by decide +kernel)
theorem a_972 : Cond.instanceMethod yX6_remember ∈ ALL := inA 972 (by decide +kernel) (by decide +kernel)
theorem a_973 : Cond.selects RX6 yX6_remember yX6_remember ∈ ALL := inA 973 (by decide +kernel) (by decide +kernel)
theorem a_974 : Cond.code yX6_remember cX6_remember 3 none ∈ ALL := inA 974 (by decide +kernel) (by decide +kernel)
theorem a_975 : Cond.methodLink RX6 34 yX6_forgetOldest ∈ ALL := inA 975 (by decide +kernel) (by decide +kernel)
theorem a_977 : Cond.instanceMethod yX6_forgetOldest ∈ ALL := inA 977 (by decide +kernel) (by decide +kernel)
theorem a_978 : Cond.code yX6_forgetOldest cX6_forgetOldest 2 none ∈ ALL := inA 978 (by decide +kernel) (by decide +kernel)
theorem a_979 : Cond.methodLink RX6 37 yX4_takeOver ∈ ALL := inA 979 (by decide +kernel) (by decide +kernel)
theorem a_980 : Cond.methodLink RX10 279 yJ9_min_7cf53 ∈ ALL := inA 980 (by decide +kernel) (by decide +kernel)
theorem a_981 : Cond.methodLink RL 194 yL_undo ∈ ALL := inA 981 (by decide +kernel) (by decide +kernel)
theorem a_982 : Cond.static yL_undo ∈ ALL := inA 982 (by decide +kernel) (by decide +kernel)
theorem a_983 : Cond.codeWith ({ cls := "LensbenchLaw", name := "undo", desc := "(LLensbench;)I" } : Jvm.MethodName) method_25_code (3 : Nat) (Option.some Jvm.ClassFile.FieldType.int) [((0 : Nat), (5 : Nat), (8 : Nat), (16 : Nat))] ∈ ALL := inA 983 (by decide +kernel) (by decide +kernel)
theorem a_984 : Cond.methodLink RL 86 yX10_undo ∈ ALL := inA 984 (by decide +kernel) (by decide +kernel)
theorem a_985 : Cond.instanceMethod yX10_undo ∈ ALL := inA 985 (by decide +kernel) (by decide +kernel)
theorem a_986 : Cond.selects RX10 yX10_undo yX10_undo ∈ ALL := inA 986 (by decide +kernel) (by decide +kernel)
theorem a_987 : Cond.code yX10_undo cX10_undo 3 (some .int) ∈ ALL := inA 987 (by decide +kernel) (by decide +kernel)
theorem a_989 : Cond.methodLink RX10 239 yX6_recall ∈ ALL := inA 989 (by decide +kernel) (by decide +kernel)
theorem a_990 : Cond.instanceMethod yX6_recall ∈ ALL := inA 990 (by decide +kernel) (by decide +kernel)
theorem a_991 : Cond.selects RX6 yX6_recall yX6_recall ∈ ALL := inA 991 (by decide +kernel) (by decide +kernel)
theorem a_992 : Cond.code yX6_recall cX6_recall 2 none ∈ ALL := inA 992 (by decide +kernel) (by decide +kernel)
theorem a_993 : Cond.sameMethod "java/lang/Throwable" "java/lang/Throwable" "fillInStackTrace" "(I)Ljava/lang/Throwable;" ∈ ALL := inA 993 (by decide +kernel) (by decide +kernel)
theorem a_994 : Cond.castable RX10 "java/lang/Object" ∈ lw_tbl := List.mem_of_getElem? (i := 994) (by decide +kernel)
theorem a_995 : Cond.castable RX4 "java/lang/Object" ∈ lw_tbl := List.mem_of_getElem? (i := 995) (by decide +kernel)
theorem a_996 : Cond.castable RX0 "java/lang/Object" ∈ lw_tbl := List.mem_of_getElem? (i := 996) (by decide +kernel)
theorem a_997 : Cond.castable RX8 "java/lang/Object" ∈ lw_tbl := List.mem_of_getElem? (i := 997) (by decide +kernel)
theorem a_998 : Cond.castable "java/lang/IllegalArgumentException" "java/lang/Object" ∈ lw_tbl := List.mem_of_getElem? (i := 998) (by decide +kernel)
theorem a_999 : Cond.castable "java/lang/IllegalStateException" "java/lang/Object" ∈ lw_tbl := List.mem_of_getElem? (i := 999) (by decide +kernel)
theorem a_1000 : Cond.castable RX6 "java/lang/Object" ∈ lw_tbl := List.mem_of_getElem? (i := 1000) (by decide +kernel)
theorem a_1001 : Cond.castable "java/lang/IndexOutOfBoundsException" "java/lang/Object" ∈ lw_tbl := List.mem_of_getElem? (i := 1001) (by decide +kernel)
theorem a_1002 : Cond.castable "java/util/NoSuchElementException" "java/lang/Object" ∈ lw_tbl := List.mem_of_getElem? (i := 1002) (by decide +kernel)
theorem a_1003 : Cond.castable RX5 "java/lang/Object" ∈ lw_tbl := List.mem_of_getElem? (i := 1003) (by decide +kernel)
theorem a_1004 : Cond.castable RX2 "java/lang/Object" ∈ lw_tbl := List.mem_of_getElem? (i := 1004) (by decide +kernel)
theorem a_1005 : Cond.castable RX3 "java/lang/Object" ∈ lw_tbl := List.mem_of_getElem? (i := 1005) (by decide +kernel)
theorem a_1006 : Cond.castable RX7 "java/lang/Object" ∈ lw_tbl := List.mem_of_getElem? (i := 1006) (by decide +kernel)
theorem a_1007 : Cond.castable "java/lang/Throwable" "java/lang/Object" ∈ lw_tbl := List.mem_of_getElem? (i := 1007) (by decide +kernel)
theorem a_1008 : Cond.castable RJ0 "java/lang/Object" ∈ lw_tbl := List.mem_of_getElem? (i := 1008) (by decide +kernel)
theorem a_1009 : Cond.castable RX5 RX9 ∈ lw_tbl := List.mem_of_getElem? (i := 1009) (by decide +kernel)
theorem a_1010 : Cond.castable RX2 RX9 ∈ lw_tbl := List.mem_of_getElem? (i := 1010) (by decide +kernel)
theorem a_1011 : Cond.castable RX3 RX9 ∈ lw_tbl := List.mem_of_getElem? (i := 1011) (by decide +kernel)
theorem a_1012 : Cond.castable RX7 RX9 ∈ lw_tbl := List.mem_of_getElem? (i := 1012) (by decide +kernel)
end
