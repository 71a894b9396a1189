/-! THE CLAIM OUT OF ONE WALK OF THE LAW'S BODY. Your part is whole_start (and what it stands on); all else here is the same for every law, but numbers. -/
def R_law : String := "LensbenchLaw"
def lw_P (b : Addr) (xs : List Int32) (args : Array Value) (s : State) : Prop := args = #[.ref b] ∧ s.IntsAt b xs ∧ xs.length ≤ 2560 ∧ (Jvm.Cond.and given_1 narrow_1).before args s = true
def lw_Q (_ : Array Value) (s : State) (o : Outcome) (t : State) : Prop := o = .returned (some (.int 1)) ∧ Framed s o t [] 601024 7293034
def lw_Z (below : List Frame) (a : Array Value) (s : State) : State → Prop := fun t => ∃ o, t.status = .running ∧ Ended t below o ∧ lw_Q a s o t
/-- the law's own end, with 1 on the stack, nothing written that was there before, its room as the claim has it -/
theorem lw_ret {p : Program} {l : Launch} {e : Env} {s : State} {m : MethodId} {below : List Frame} {meth : Method} {c : Code} {b : Nat} (hx : p.tables.exec = Jvm.exec) (hb : c.code = code) (hr : meth.sig.returnType = ret) (hlocks : meth.locks = false) {pc : Nat} {H : Heap} {ls : Array Slot} (hdg : decode code pc = .ok (.ireturn, 1)) : W p l e room_1 s m #[Value.ref b] below meth c H [] 601024 7293034 (lw_Z below #[Value.ref b] s) (F0 m pc ls [.int 1]) := by
  intro T hT X
  obtain ⟨fs, hret, hrun, hended, hW, hframe⟩ := X.leave (v := some (.int 1)) (hlocks := hlocks) (fun h => by rw [hr] at h; cases h)
  have hmeth' : T.vm.method? m = some meth := X.method'
  refine ⟨T.setFrames fs, ?_, .returned (some (.int 1)), hrun, hended, rfl, ⟨_, rfl⟩, hW, hframe⟩
  jvm_step X.here [X.here.top, hx, hb, hdg, hmeth', hr, ret, narrow_b1]
  (try refine ⟨rfl, ?_⟩); (try refine ⟨rfl, ?_⟩)
  first | (intro acts; rw [hret _ acts rfl rfl rfl]) | rw [hret _ _ rfl rfl rfl]
  exact Steps.refl _
/-- what holds at the law's entry: the machine, the code, the tables' words (any of lw_tbl by 'hts w (by decide +kernel)'), the script of L ints xs at the cell b, what the Statement gives of the start (any of its parts by flat_of_before) -/
def lw_At (p : Program) (s : State) (m : MethodId) (meth : Method) (c : Code) (b L : Nat) (xs : Nat → Int32) : Prop :=
  p.tables.exec = Jvm.exec ∧ c.code = code ∧ meth.sig.returnType = ret ∧ c.maxLocals = 7 ∧ s.vm.findClass R_law = some m.cls ∧ (∀ w ∈ lw_tbl, w.before #[Value.ref b] s = true) ∧ va_X b L xs s s.heap ∧ b < s.heap.size ∧ meth.locks = false ∧ (Jvm.Cond.and given_1 narrow_1).before #[Value.ref b] s = true
/-! ===== the law's loop ===== -/
def AL (n0 n1 o : Nat) : Nat → Prop := fun q => (n0 ≤ q ∧ q < n1) ∨ o < q
def AM (n1 o : Nat) : Nat → Prop := fun q => n1 ≤ q ∧ q < o
theorem AX.keptA {D : va_G} {cA : Nat → ClassId} {A B : Nat → Prop} {x0 : Nat} {S : St} {G : Gt} {nt nv : Nat} {H H1 : Heap} (h : AX D cA A x0 S G nt nv H) (hAB : ∀ q, A q → ¬ B q) (hq : ∀ q : Nat, q < H.size → ¬ B q → H1[q]? = H[q]?) : AX D cA A x0 S G nt nv H1 := by
  obtain ⟨ad, L, h1, h2⟩ := h
  exact ⟨ad, L, HP.keptA h1 hAB hq, h2⟩
theorem MX.keptB {D : va_G} {cA : Nat → ClassId} {A B : Nat → Prop} {ad : Nat → Nat} {S : St} {H H1 : Heap} (h : MX D cA A ad S H) (hAB : ∀ q, A q → ¬ B q) (hq : ∀ q : Nat, q < H.size → ¬ B q → H1[q]? = H[q]?) : MX D cA A ad S H1 := HP.keptA h hAB hq
theorem AL_A0 {n0 n1 o q : Nat} (h1 : n0 ≤ n1) (h2 : n1 ≤ o) (h : AL n0 n1 o q ∨ q = o) : n0 ≤ q := by
  rcases h with (h | h) | h <;> omega
theorem AM_A0 {n0 n1 o q : Nat} (h1 : n0 ≤ n1) (h : AM n1 o q) : n0 ≤ q := Nat.le_trans h1 h.1
theorem AM_AL {n0 n1 o q : Nat} (h : AM n1 o q) : ¬ (AL n0 n1 o q ∨ q = o) := by
  intro z
  have h1 := h.1
  have h2 := h.2
  rcases z with (z | z) | z <;> omega
theorem AL_AM {n0 n1 o q : Nat} (h : AL n0 n1 o q) : ¬ AM n1 o q := fun z => AM_AL z (Or.inl h)
theorem AL_o {n0 n1 o : Nat} (h : n1 ≤ o) : ¬ AL n0 n1 o o := by
  intro z
  rcases z with z | z <;> omega
theorem AM_o {n1 o : Nat} : ¬ AM n1 o o := fun z => Nat.lt_irrefl _ z.2
theorem lg_cmp_self (z : Int64) : lg_cmp z z = 0 := by simp [lg_cmp]
abbrev RT : Type := St → Gt → Nat → Nat → St → Prop
def Sm_table (R : RT) : Prop := ∀ (S : St) (G : Gt) (nt nv : Nat) (M : St) (x1 x2 : Int32), R S G nt nv M → ∃ (e0 : Nat) (r k r2 : Int32) (S' M' : St) (G' : Gt) (nt' nv' : Nat), d10_table G nt nv x1 x2 S = some (e0, r, S', G', nt', nv') ∧ m_table x1 x2 M = some (r2, M') ∧ m_thrown M' = some k ∧ ((e0 = 0 ∧ k = 0) ∨ (e0 = 1 ∧ k = 1) ∨ (e0 = 2 ∧ k = 2)) ∧ (e0 = 0 → r = r2) ∧ R S' G' nt' nv' M'
def Sm_insert (R : RT) : Prop := ∀ (S : St) (G : Gt) (nt nv : Nat) (M : St) (x1 x2 : Int32), R S G nt nv M → ∃ (e0 : Nat) (r k r2 : Int32) (S' M' : St), d10_insert G nt nv x1 x2 S = some (e0, r, S') ∧ m_insert x1 x2 M = some (r2, M') ∧ m_thrown M' = some k ∧ ((e0 = 0 ∧ k = 0) ∨ (e0 = 3 ∧ k = 1) ∨ (e0 = 1 ∧ k = 2) ∨ (e0 = 2 ∧ k = 3)) ∧ (e0 = 0 → r = r2) ∧ R S' G nt nv M'
def Sm_delete (R : RT) : Prop := ∀ (S : St) (G : Gt) (nt nv : Nat) (M : St) (x1 x2 : Int32), R S G nt nv M → ∃ (e0 : Nat) (r k r2 : Int32) (S' M' : St), d10_delete G nt nv x1 x2 S = some (e0, r, S') ∧ m_delete x1 x2 M = some (r2, M') ∧ m_thrown M' = some k ∧ ((e0 = 0 ∧ k = 0) ∨ (e0 = 3 ∧ k = 1) ∨ (e0 = 4 ∧ k = 2)) ∧ (e0 = 0 → r = r2) ∧ R S' G nt nv M'
def Sm_of (R : RT) : Prop := ∀ (S : St) (G : Gt) (nt nv : Nat) (M : St) (x1 : Int32), R S G nt nv M → ∃ (e0 : Nat) (r k r2 : Int32) (S' M' : St) (G' : Gt) (nt' nv' : Nat), d10_of G nt nv x1 S = some (e0, r, S', G', nt', nv') ∧ m_of x1 M = some (r2, M') ∧ m_thrown M' = some k ∧ ((e0 = 0 ∧ k = 0) ∨ (e0 = 3 ∧ k = 1) ∨ (e0 = 2 ∧ k = 2)) ∧ (e0 = 0 → r = r2) ∧ R S' G' nt' nv' M'
def Sm_select (R : RT) : Prop := ∀ (S : St) (G : Gt) (nt nv : Nat) (M : St) (x1 x2 x3 x4 : Int32), R S G nt nv M → (x4 = 0 ∨ x4 = 1) → ∃ (e0 : Nat) (r k r2 : Int32) (S' M' : St) (G' : Gt) (nt' nv' : Nat), d10_select G nt nv x1 x2 x3 x4 S = some (e0, r, S', G', nt', nv') ∧ m_select x1 x2 x3 x4 M = some (r2, M') ∧ m_thrown M' = some k ∧ ((e0 = 0 ∧ k = 0) ∨ (e0 = 3 ∧ k = 1) ∨ (e0 = 1 ∧ k = 2) ∨ (e0 = 2 ∧ k = 3)) ∧ (e0 = 0 → r = r2) ∧ R S' G' nt' nv' M'
def Sm_drop (R : RT) : Prop := ∀ (S : St) (G : Gt) (nt nv : Nat) (M : St) (x1 x2 x3 : Int32), R S G nt nv M → ∃ (e0 : Nat) (r k r2 : Int32) (S' M' : St) (G' : Gt) (nt' nv' : Nat), d10_drop G nt nv x1 x2 x3 S = some (e0, r, S', G', nt', nv') ∧ m_drop x1 x2 x3 M = some (r2, M') ∧ m_thrown M' = some k ∧ ((e0 = 0 ∧ k = 0) ∨ (e0 = 3 ∧ k = 1) ∨ (e0 = 1 ∧ k = 2) ∨ (e0 = 2 ∧ k = 3)) ∧ (e0 = 0 → r = r2) ∧ R S' G' nt' nv' M'
def Sm_join (R : RT) : Prop := ∀ (S : St) (G : Gt) (nt nv : Nat) (M : St) (x1 x2 : Int32), R S G nt nv M → ∃ (e0 : Nat) (r k r2 : Int32) (S' M' : St) (G' : Gt) (nt' nv' : Nat), d10_join G nt nv x1 x2 S = some (e0, r, S', G', nt', nv') ∧ m_join x1 x2 M = some (r2, M') ∧ m_thrown M' = some k ∧ ((e0 = 0 ∧ k = 0) ∨ (e0 = 3 ∧ k = 1) ∨ (e0 = 1 ∧ k = 2) ∨ (e0 = 2 ∧ k = 3)) ∧ (e0 = 0 → r = r2) ∧ R S' G' nt' nv' M'
def Sm_columns (R : RT) : Prop := ∀ (S : St) (G : Gt) (nt nv : Nat) (M : St) (x1 : Int32), R S G nt nv M → ∃ (e0 : Nat) (r k r2 : Int32) (S' M' : St), d10_columns G nt nv x1 S = some (e0, r, S') ∧ m_columns x1 M = some (r2, M') ∧ m_thrown M' = some k ∧ ((e0 = 0 ∧ k = 0) ∨ (e0 = 3 ∧ k = 1)) ∧ (e0 = 0 → r = r2) ∧ R S' G nt nv M'
def Sm_key (R : RT) : Prop := ∀ (S : St) (G : Gt) (nt nv : Nat) (M : St) (x1 : Int32), R S G nt nv M → ∃ (e0 : Nat) (r k r2 : Int32) (S' M' : St), d10_key G nt nv x1 S = some (e0, r, S') ∧ m_key x1 M = some (r2, M') ∧ m_thrown M' = some k ∧ ((e0 = 0 ∧ k = 0) ∨ (e0 = 3 ∧ k = 1)) ∧ (e0 = 0 → r = r2) ∧ R S' G nt nv M'
def Sm_rows (R : RT) : Prop := ∀ (S : St) (G : Gt) (nt nv : Nat) (M : St) (x1 : Int32), R S G nt nv M → ∃ (e0 : Nat) (r k r2 : Int32) (S' M' : St), d10_rows G nt nv x1 S = some (e0, r, S') ∧ m_rows x1 M = some (r2, M') ∧ m_thrown M' = some k ∧ ((e0 = 0 ∧ k = 0) ∨ (e0 = 3 ∧ k = 1)) ∧ (e0 = 0 → r = r2) ∧ R S' G nt nv M'
def Sm_row (R : RT) : Prop := ∀ (S : St) (G : Gt) (nt nv : Nat) (M : St) (x1 x2 : Int32), R S G nt nv M → ∃ (e0 : Nat) (r k r2 : Int32) (S' M' : St), d10_row G nt nv x1 x2 S = some (e0, r, S') ∧ m_row x1 x2 M = some (r2, M') ∧ m_thrown M' = some k ∧ ((e0 = 0 ∧ k = 0) ∨ (e0 = 3 ∧ k = 1)) ∧ (e0 = 0 → r = r2) ∧ R S' G nt nv M'
def Sm_open (R : RT) : Prop := ∀ (S : St) (G : Gt) (nt nv : Nat) (M : St) (x1 : Int32), R S G nt nv M → ∃ (e0 : Nat) (r k r2 : Int32) (S' M' : St), d10_open G nt nv x1 S = some (e0, r, S') ∧ m_open x1 M = some (r2, M') ∧ m_thrown M' = some k ∧ ((e0 = 0 ∧ k = 0) ∨ (e0 = 3 ∧ k = 1)) ∧ (e0 = 0 → r = r2) ∧ R S' G nt nv M'
def Sm_add (R : RT) : Prop := ∀ (S : St) (G : Gt) (nt nv : Nat) (M : St) (x1 : Int32), R S G nt nv M → ∃ (e0 : Nat) (r k r2 : Int32) (S' M' : St), d10_add G nt nv x1 S = some (e0, r, S') ∧ m_add x1 M = some (r2, M') ∧ m_thrown M' = some k ∧ ((e0 = 0 ∧ k = 0) ∨ (e0 = 2 ∧ k = 1) ∨ (e0 = 1 ∧ k = 2)) ∧ (e0 = 0 → r = r2) ∧ R S' G nt nv M'
def Sm_takeOut (R : RT) : Prop := ∀ (S : St) (G : Gt) (nt nv : Nat) (M : St) (x1 : Int32), R S G nt nv M → ∃ (e0 : Nat) (r k r2 : Int32) (S' M' : St), d10_takeOut G nt nv x1 S = some (e0, r, S') ∧ m_takeOut x1 M = some (r2, M') ∧ m_thrown M' = some k ∧ ((e0 = 0 ∧ k = 0) ∨ (e0 = 2 ∧ k = 1) ∨ (e0 = 4 ∧ k = 2)) ∧ (e0 = 0 → r = r2) ∧ R S' G nt nv M'
def Sm_change (R : RT) : Prop := ∀ (S : St) (G : Gt) (nt nv : Nat) (M : St) (x1 x2 x3 : Int32), R S G nt nv M → ∃ (e0 : Nat) (r k r2 : Int32) (S' M' : St), d10_change G nt nv x1 x2 x3 S = some (e0, r, S') ∧ m_change x1 x2 x3 M = some (r2, M') ∧ m_thrown M' = some k ∧ ((e0 = 0 ∧ k = 0) ∨ (e0 = 2 ∧ k = 1) ∨ (e0 = 1 ∧ k = 2) ∨ (e0 = 4 ∧ k = 3)) ∧ (e0 = 0 → r = r2) ∧ R S' G nt nv M'
def Sm_draftRow (R : RT) : Prop := ∀ (S : St) (G : Gt) (nt nv : Nat) (M : St) (x1 : Int32), R S G nt nv M → ∃ (e0 : Nat) (r k r2 : Int32) (S' M' : St), d10_draftRow G nt nv x1 S = some (e0, r, S') ∧ m_draftRow x1 M = some (r2, M') ∧ m_thrown M' = some k ∧ ((e0 = 0 ∧ k = 0) ∨ (e0 = 2 ∧ k = 1) ∨ (e0 = 3 ∧ k = 2)) ∧ (e0 = 0 → r = r2) ∧ R S' G nt nv M'
def Sm_conflict (R : RT) : Prop := ∀ (S : St) (G : Gt) (nt nv : Nat) (M : St), R S G nt nv M → ∃ (e0 : Nat) (r k r2 : Int32) (S' M' : St), d10_conflict G nt nv S = some (e0, r, S') ∧ m_conflict M = some (r2, M') ∧ m_thrown M' = some k ∧ ((e0 = 0 ∧ k = 0) ∨ (e0 = 2 ∧ k = 1)) ∧ (e0 = 0 → r = r2) ∧ R S' G nt nv M'
def Sm_conflictRow (R : RT) : Prop := ∀ (S : St) (G : Gt) (nt nv : Nat) (M : St) (x1 : Int32), R S G nt nv M → ∃ (e0 : Nat) (r k r2 : Int32) (S' M' : St), d10_conflictRow G nt nv x1 S = some (e0, r, S') ∧ m_conflictRow x1 M = some (r2, M') ∧ m_thrown M' = some k ∧ ((e0 = 0 ∧ k = 0) ∨ (e0 = 2 ∧ k = 1) ∨ (e0 = 1 ∧ k = 2)) ∧ (e0 = 0 → r = r2) ∧ R S' G nt nv M'
def Sm_changes (R : RT) : Prop := ∀ (S : St) (G : Gt) (nt nv : Nat) (M : St), R S G nt nv M → ∃ (e0 : Nat) (r k r2 : Int32) (S' M' : St), d10_changes G nt nv S = some (e0, r, S') ∧ m_changes M = some (r2, M') ∧ m_thrown M' = some k ∧ ((e0 = 0 ∧ k = 0) ∨ (e0 = 2 ∧ k = 1)) ∧ (e0 = 0 → r = r2) ∧ R S' G nt nv M'
def Sm_fewest (R : RT) : Prop := ∀ (S : St) (G : Gt) (nt nv : Nat) (M : St), R S G nt nv M → ∃ (e0 : Nat) (r k r2 : Int32) (S' M' : St), d10_fewest G nt nv S = some (e0, r, S') ∧ m_fewest M = some (r2, M') ∧ m_thrown M' = some k ∧ ((e0 = 0 ∧ k = 0) ∨ (e0 = 2 ∧ k = 1)) ∧ (e0 = 0 → r = r2) ∧ R S' G nt nv M'
def Sm_putBack (R : RT) : Prop := ∀ (S : St) (G : Gt) (nt nv : Nat) (M : St), R S G nt nv M → ∃ (e0 : Nat) (r k r2 : Int32) (S' M' : St), d10_putBack G nt nv S = some (e0, r, S') ∧ m_putBack M = some (r2, M') ∧ m_thrown M' = some k ∧ ((e0 = 0 ∧ k = 0) ∨ (e0 = 2 ∧ k = 1)) ∧ (e0 = 0 → r = r2) ∧ R S' G nt nv M'
def Sm_undo (R : RT) : Prop := ∀ (S : St) (G : Gt) (nt nv : Nat) (M : St), R S G nt nv M → ∃ (e0 : Nat) (r k r2 : Int32) (S' M' : St), d10_undo G nt nv S = some (e0, r, S') ∧ m_undo M = some (r2, M') ∧ m_thrown M' = some k ∧ ((e0 = 0 ∧ k = 0) ∨ (e0 = 2 ∧ k = 1)) ∧ (e0 = 0 → r = r2) ∧ R S' G nt nv M'
def SimAll (R : RT) : Prop := (∀ S G nt nv M, R S G nt nv M → SX S nt nv) ∧ Sm_table R ∧ Sm_insert R ∧ Sm_delete R ∧ Sm_of R ∧ Sm_select R ∧ Sm_drop R ∧ Sm_join R ∧ Sm_columns R ∧ Sm_key R ∧ Sm_rows R ∧ Sm_row R ∧ Sm_open R ∧ Sm_add R ∧ Sm_takeOut R ∧ Sm_change R ∧ Sm_draftRow R ∧ Sm_conflict R ∧ Sm_conflictRow R ∧ Sm_changes R ∧ Sm_fewest R ∧ Sm_putBack R ∧ Sm_undo R
section LVQ
variable {p : Program} {l : Launch} {e : Env} {R : Room} {s : State} {m : MethodId} {args : Array Value} {below : List Frame} {meth : Method} {c : Code} {H : Heap} {locs : List Loc} {cells slots : Nat} {Q : State → Prop}
variable {cc bytes : ByteArray} {pc nL maxL index n h : Nat} {ls : Array Slot} {D : va_G} {cA : Nat → ClassId} {A A0 : Nat → Prop} {X X' : Heap → Prop} {H0 : Heap} {own C : String} {w0 : Cond} {y : MethodName} {ret : Option FieldType} {As rest : List Value} {b : Addr}
theorem Ct_VRq {x : Value} (hC : CallFix p m c cc nL s args (w0 :: ALL) own) (hM : Ct l D cA A y bytes maxL ret h 0 0 (.ref b :: As) X (some x) X') (q : VWv C y bytes maxL ret n) (hlink : Cond.methodLink own index y ∈ ALL) (hR : h + 1 ≤ R.frames ∧ 8 + (maxL + 11) + 40 * h ≤ R.locals)
    (hrec : ∃ cellB : Cell, H[b]? = some cellB ∧ cellB.vm.isStatics = false ∧ s.vm.findClass C = some cellB.cls) (hX : X H) (hK : KX D cA s) (hn : As.length = n) (hl : ls.size = nL) (hrest : (rest.map fun v => v.category).sum ≤ 8) (hdg : decode cc pc = .ok (.invokevirtual index, 3)) (hf : cells + 0 ≤ R.cells ∧ slots + 0 ≤ R.slots) (hS : va_S A0 H0 H locs) (hA : ∀ q, A q → A0 q)
    (kk : ∀ (H1 : Heap) (locs1 : List Loc), X' H1 → H.size ≤ H1.size → (∀ q : Nat, q < H.size → ¬ A q → H1[q]? = H[q]?) → va_S A0 H0 H1 locs1 → W p l e R s m args below meth c H1 locs1 (cells + 0) (slots + 0) Q (F0 m (pc + 3) ls (x :: rest))) :
    W p l e R s m args below meth c H locs cells slots Q (F0 m pc ls (As.reverse ++ .ref b :: rest)) :=
  Ct_VR hC hM q.1 (q.2.2.2.2.1.1 ▸ q.2.1) hlink q.2.2.1 q.2.2.2.1 q.2.2.2.2.1.2 hR hrec hX hK hn hl hrest hdg hf hS hA kk
end LVQ
set_option maxRecDepth 100000 in
set_option maxHeartbeats 4000000 in
theorem lc_table {p : Program} {l : Launch} {e : Env} {s : State} {m : MethodId} {below : List Frame} {meth : Method} {c : Code} {b L : Nat} {xs : Nat → Int32} {D : va_G} {cA : Nat → ClassId} {R : RT} {x0 o n1 : Nat} {adm : Nat → Nat} (hfl : l.stackTraces = false) (hL : L ≤ 2560) (C0 : lw_At p s m meth c b L xs) (hKX : KX D cA s) (hTX : TX (fun q => s.heap.size ≤ q) s) (hNX : NX s) (hSXR : ∀ S G nt nv M, R S G nt nv M → SX S nt nv) (hR : Sm_table R) (hn1 : s.heap.size ≤ n1) (hno : n1 ≤ o) {t : Nat} (ht : 5 * t + 5 ≤ L) {S : St} {G : Gt} {nt nv : Nat} {M : St} {f : Nat → Int64} {H : Heap} {locs : List Loc} {ls : Array Slot} (hRR : R S G nt nv M) (hAX : AX D cA (AL s.heap.size n1 o) x0 S G nt nv H) (hMX : MX D cA (AM n1 o) adm M H) (hO : va_P D vwCl [(o, .inl (cA 2, 1, .inr (.inl f)))] H) (hS : va_S (fun q => s.heap.size ≤ q) s.heap H locs) (hl : lv_has ls 7 [(0, .ref b), (1, .ref x0), (2, .ref (adm 0)), (3, .ref o), (4, .int (nI (5 * t)))])
    (KK : ∀ (S : St) (G : Gt) (nt nv : Nat) (M : St) (f : Nat → Int64) (H : Heap) (locs : List Loc) (ls : Array Slot), R S G nt nv M → AX D cA (AL s.heap.size n1 o) x0 S G nt nv H → MX D cA (AM n1 o) adm M H → va_P D vwCl [(o, .inl (cA 2, 1, .inr (.inl f)))] H → va_S (fun q => s.heap.size ≤ q) s.heap H locs → lv_has ls 7 [(0, .ref b), (1, .ref x0), (2, .ref (adm 0)), (3, .ref o), (4, .int (nI (5 * t)))] → W p l e room_1 s m #[Value.ref b] below meth c H locs (36 + 20 * (t + 1)) (1608 + 200 * (t + 1)) (lw_Z below #[Value.ref b] s) (F0 m 1472 ls [])) :
    W p l e room_1 s m #[Value.ref b] below meth c H locs (36 + 20 * t) (1608 + 200 * t) (lw_Z below #[Value.ref b] s) (F0 m 140 ls []) := by
  obtain ⟨hx, hb, hr, hml, hown, hts, hXs, hbl, hlocks, hgv⟩ := id C0
  have hT0 : ∀ w ∈ Cond.initialized "LensbenchLaw" :: ALL, w.before #[Value.ref b] s = true := fun w hw => hts w (by
      rcases List.mem_cons.mp hw with rfl | hw
      · exact (List.mem_filter.mp a_50).1
      · exact (List.mem_filter.mp hw).1)
  have hC : CallFix p m c code 7 s #[Value.ref b] (Cond.initialized "LensbenchLaw" :: ALL) "LensbenchLaw" := ⟨hx, hb, hml, hown, hT0⟩
  have hbA : ¬ (fun q : Nat => s.heap.size ≤ q) b := Nat.not_le.mpr hbl
  have i1 : vp_in (nI (5 * t) + 1) L := by
      rw [show (1 : Int32) = nI 1 from rfl, nI_add]
      exact vp_in_nI (by omega) (by omega)
  obtain ⟨y1, hy1⟩ : ∃ z : Int32, z = xs (nI (5 * t) + 1).toNatClampNeg := ⟨_, rfl⟩
  have i2 : vp_in (nI (5 * t) + 2) L := by
      rw [show (2 : Int32) = nI 2 from rfl, nI_add]
      exact vp_in_nI (by omega) (by omega)
  obtain ⟨y2, hy2⟩ : ∃ z : Int32, z = xs (nI (5 * t) + 2).toNatClampNeg := ⟨_, rfl⟩
  refine lv_aload_n hx hb dL_law_140 rfl (lv_at hl 1 rfl) ?_
  refine lv_aload_n hx hb dL_law_141 rfl (lv_at hl 0 rfl) ?_
  refine lv_iload hx hb dL_law_142 (lv_at hl 4 rfl) ?_
  refine lv_iconst (v := 1) hx hb dL_law_144 (by decide) ?_
  refine lv_iadd hx hb dL_law_145 ?_
  refine va_sld hx hb hXs hbl hbA hS i1 dL_law_146 ?_
  rw [← hy1]
  refine lv_aload_n hx hb dL_law_147 rfl (lv_at hl 0 rfl) ?_
  refine lv_iload hx hb dL_law_148 (lv_at hl 4 rfl) ?_
  refine lv_iconst (v := 2) hx hb dL_law_150 (by decide) ?_
  refine lv_iadd hx hb dL_law_151 ?_
  refine va_sld hx hb hXs hbl hbA hS i2 dL_law_152 ?_
  rw [← hy2]
  refine lv_aload_n hx hb dL_law_153 rfl (lv_at hl 3 rfl) ?_
  obtain ⟨e0, r, k, r2, S1, M1, G1, nt1, nv1, hf, hg, hth, hk, he, hR1⟩ := hR S G nt nv M y1 y2 hRR
  refine Ct_SW (As := [.ref x0, .int y1, .int y2, .ref o]) (rest := []) hC (w_table (A := AL s.heap.size n1 o) (x0 := x0) (o := o) (f := f) hfl (AL_o hno) (hSXR _ _ _ _ _ hRR) hf hk) qw_table a_170 ⟨Nat.le_of_ble_eq_true rfl, Nat.le_of_ble_eq_true rfl⟩ ⟨hAX, fun q hq => Or.inr (Nat.lt_of_lt_of_le (hO 0 _ rfl).lt hq), hO⟩ hKX hTX hNX rfl hl.1 (Nat.le_of_ble_eq_true rfl) dL_law_154 ⟨by show 36 + 20 * t + 20 ≤ 601024; omega, by show 1608 + 200 * t + 200 ≤ 7293034; omega⟩ hS (fun q hq => AL_A0 hn1 hno hq) (fun H1 locs hQ hz1 hk1 hS => ?_)
  obtain ⟨hAX, f1, hf1, hO⟩ := hQ
  replace hMX := MX.keptB hMX (fun q hq => AM_AL hq) hk1
  generalize H1 = H at hAX hMX hO hS ⊢
  refine lv_istore (lv' := [(5, .int k), (0, .ref b), (1, .ref x0), (2, .ref (adm 0)), (3, .ref o), (4, .int (nI (5 * t)))]) hx hb dL_law_157 hl (by decide) rfl (fun ls hl => ?_)
  refine lv_aload_n hx hb dL_law_159 rfl (lv_at hl 3 rfl) ?_
  refine lv_aload_n hx hb dL_law_160 rfl (lv_at hl 1 rfl) ?_
  refine lv_iload hx hb dL_law_161 (lv_at hl 5 rfl) ?_
  refine lv_iconst (v := 1) hx hb dL_law_163 (by decide) ?_
  refine lv_iadd hx hb dL_law_164 ?_
  refine va_sld hx hb hXs hbl hbA hS i1 dL_law_165 ?_
  rw [← hy1]
  refine lv_aload_n hx hb dL_law_166 rfl (lv_at hl 1 rfl) ?_
  refine lv_iload hx hb dL_law_167 (lv_at hl 5 rfl) ?_
  refine lv_iconst (v := 2) hx hb dL_law_169 (by decide) ?_
  refine lv_iadd hx hb dL_law_170 ?_
  refine va_sld hx hb hXs hbl hbA hS i2 dL_law_171 ?_
  rw [← hy2]
  refine Ct_VRq (x := .int r2) (As := [.int y1, .int y2]) (rest := []) hC (c_m_table hg) q_m_table a_1082 ⟨Nat.le_of_ble_eq_true rfl, Nat.le_of_ble_eq_true rfl⟩ (mrec hKX.1 hMX) hMX hKX rfl hl.1 (Nat.le_of_ble_eq_true rfl) dL_law_172 ⟨by show 36 + 20 * t + 20 + 0 ≤ 601024; omega, by show 1608 + 200 * t + 200 + 0 ≤ 7293034; omega⟩ hS (fun q hq => AM_A0 hn1 hq) (fun H1 locs hMX1 hz1 hk1 hS => ?_)
  replace hAX := AX.keptA hAX (fun q hq => AL_AM hq) hk1
  replace hO := ox_kept hO AM_o hk1
  replace hMX := hMX1
  clear hMX1
  generalize H1 = H at hAX hMX hO hS ⊢
  refine lv_istore (lv' := [(6, .int r2), (5, .int k), (0, .ref b), (1, .ref x0), (2, .ref (adm 0)), (3, .ref o), (4, .int (nI (5 * t)))]) hx hb dL_law_175 hl (by decide) rfl (fun ls hl => ?_)
  refine lv_aload_n hx hb dL_law_177 rfl (lv_at hl 4 rfl) ?_
  refine Ct_VRq (x := .int k) (As := []) (rest := []) hC (c_m_thrown hth) q_m_thrown a_1078 ⟨Nat.le_of_ble_eq_true rfl, Nat.le_of_ble_eq_true rfl⟩ (mrec hKX.1 hMX) hMX hKX rfl hl.1 (Nat.le_of_ble_eq_true rfl) dL_law_178 ⟨by show 36 + 20 * t + 20 + 0 + 0 ≤ 601024; omega, by show 1608 + 200 * t + 200 + 0 + 0 ≤ 7293034; omega⟩ hS (fun q hq => AM_A0 hn1 hq) (fun H1 locs hMX1 hz1 hk1 hS => ?_)
  replace hAX := AX.keptA hAX (fun q hq => AL_AM hq) hk1
  replace hO := ox_kept hO AM_o hk1
  replace hMX := hMX1
  clear hMX1
  generalize H1 = H at hAX hMX hO hS ⊢
  refine lv_iload hx hb dL_law_181 (lv_at hl 1 rfl) ?_
  refine lv_icmp_eq (tgt := 188) hx hb dL_law_183 (by decide) (fun _ => ?_) (fun z => absurd rfl z)
  refine lv_iload hx hb dL_law_188 (lv_at hl 1 rfl) ?_
  refine lv_if_ne (tgt := 205) hx hb dL_law_190 (by decide) (fun _ => ?_) (fun hk0 => ?_)
  · refine lv_goto (tgt := 1472) hx hb dL_law_205 (by decide) ?_
    refine W.widen (k := 36 + 20 * (t + 1)) (n := 1608 + 200 * (t + 1)) (by omega) (by omega) ?_
    exact KK _ _ _ _ _ _ H locs ls hR1 hAX hMX hO hS (lv_sub hl [2, 3, 4, 5, 6] rfl)
  · have he0 : e0 = 0 := by
      rcases hk with z | z | z
      · exact z.1
      · exact absurd (hk0.symm.trans z.2) (by decide)
      · exact absurd (hk0.symm.trans z.2) (by decide)
    refine lv_aload_n hx hb dL_law_193 rfl (lv_at hl 5 rfl) ?_
    refine lv_iconst (v := 0) hx hb dL_law_194 (by decide) ?_
    refine va_lald (tys := tysA cA) hx hb hKX.1 hO 0 2 rfl rfl (by unfold vp_in; decide) dL_law_195 ?_
    refine lv_iload hx hb dL_law_196 (lv_at hl 0 rfl) ?_
    refine lv_i2l (v := r2.toInt64) hx hb dL_law_198 rfl ?_
    refine W.lcmp hx hb dL_law_199 ?_
    rw [show f1 (0 : Int32).toNatClampNeg = r2.toInt64 by rw [← he he0]; exact hf1 he0, lg_cmp_self]
    refine lv_if_eq (tgt := 205) hx hb dL_law_200 (by decide) (fun _ => ?_) (fun z => absurd rfl z)
    refine lv_goto (tgt := 1472) hx hb dL_law_205 (by decide) ?_
    refine W.widen (k := 36 + 20 * (t + 1)) (n := 1608 + 200 * (t + 1)) (by omega) (by omega) ?_
    exact KK _ _ _ _ _ _ H locs ls hR1 hAX hMX hO hS (lv_sub hl [2, 3, 4, 5, 6] rfl)

set_option maxRecDepth 100000 in
set_option maxHeartbeats 4000000 in
theorem lc_insert {p : Program} {l : Launch} {e : Env} {s : State} {m : MethodId} {below : List Frame} {meth : Method} {c : Code} {b L : Nat} {xs : Nat → Int32} {D : va_G} {cA : Nat → ClassId} {R : RT} {x0 o n1 : Nat} {adm : Nat → Nat} (hfl : l.stackTraces = false) (hL : L ≤ 2560) (C0 : lw_At p s m meth c b L xs) (hKX : KX D cA s) (hTX : TX (fun q => s.heap.size ≤ q) s) (hNX : NX s) (hSXR : ∀ S G nt nv M, R S G nt nv M → SX S nt nv) (hR : Sm_insert R) (hn1 : s.heap.size ≤ n1) (hno : n1 ≤ o) {t : Nat} (ht : 5 * t + 5 ≤ L) {S : St} {G : Gt} {nt nv : Nat} {M : St} {f : Nat → Int64} {H : Heap} {locs : List Loc} {ls : Array Slot} (hRR : R S G nt nv M) (hAX : AX D cA (AL s.heap.size n1 o) x0 S G nt nv H) (hMX : MX D cA (AM n1 o) adm M H) (hO : va_P D vwCl [(o, .inl (cA 2, 1, .inr (.inl f)))] H) (hS : va_S (fun q => s.heap.size ≤ q) s.heap H locs) (hl : lv_has ls 7 [(0, .ref b), (1, .ref x0), (2, .ref (adm 0)), (3, .ref o), (4, .int (nI (5 * t)))])
    (KK : ∀ (S : St) (G : Gt) (nt nv : Nat) (M : St) (f : Nat → Int64) (H : Heap) (locs : List Loc) (ls : Array Slot), R S G nt nv M → AX D cA (AL s.heap.size n1 o) x0 S G nt nv H → MX D cA (AM n1 o) adm M H → va_P D vwCl [(o, .inl (cA 2, 1, .inr (.inl f)))] H → va_S (fun q => s.heap.size ≤ q) s.heap H locs → lv_has ls 7 [(0, .ref b), (1, .ref x0), (2, .ref (adm 0)), (3, .ref o), (4, .int (nI (5 * t)))] → W p l e room_1 s m #[Value.ref b] below meth c H locs (36 + 20 * (t + 1)) (1608 + 200 * (t + 1)) (lw_Z below #[Value.ref b] s) (F0 m 1472 ls [])) :
    W p l e room_1 s m #[Value.ref b] below meth c H locs (36 + 20 * t) (1608 + 200 * t) (lw_Z below #[Value.ref b] s) (F0 m 208 ls []) := by
  obtain ⟨hx, hb, hr, hml, hown, hts, hXs, hbl, hlocks, hgv⟩ := id C0
  have hT0 : ∀ w ∈ Cond.initialized "LensbenchLaw" :: ALL, w.before #[Value.ref b] s = true := fun w hw => hts w (by
      rcases List.mem_cons.mp hw with rfl | hw
      · exact (List.mem_filter.mp a_50).1
      · exact (List.mem_filter.mp hw).1)
  have hC : CallFix p m c code 7 s #[Value.ref b] (Cond.initialized "LensbenchLaw" :: ALL) "LensbenchLaw" := ⟨hx, hb, hml, hown, hT0⟩
  have hbA : ¬ (fun q : Nat => s.heap.size ≤ q) b := Nat.not_le.mpr hbl
  have i1 : vp_in (nI (5 * t) + 1) L := by
      rw [show (1 : Int32) = nI 1 from rfl, nI_add]
      exact vp_in_nI (by omega) (by omega)
  obtain ⟨y1, hy1⟩ : ∃ z : Int32, z = xs (nI (5 * t) + 1).toNatClampNeg := ⟨_, rfl⟩
  have i2 : vp_in (nI (5 * t) + 2) L := by
      rw [show (2 : Int32) = nI 2 from rfl, nI_add]
      exact vp_in_nI (by omega) (by omega)
  obtain ⟨y2, hy2⟩ : ∃ z : Int32, z = xs (nI (5 * t) + 2).toNatClampNeg := ⟨_, rfl⟩
  refine lv_aload_n hx hb dL_law_208 rfl (lv_at hl 1 rfl) ?_
  refine lv_aload_n hx hb dL_law_209 rfl (lv_at hl 0 rfl) ?_
  refine lv_iload hx hb dL_law_210 (lv_at hl 4 rfl) ?_
  refine lv_iconst (v := 1) hx hb dL_law_212 (by decide) ?_
  refine lv_iadd hx hb dL_law_213 ?_
  refine va_sld hx hb hXs hbl hbA hS i1 dL_law_214 ?_
  rw [← hy1]
  refine lv_aload_n hx hb dL_law_215 rfl (lv_at hl 0 rfl) ?_
  refine lv_iload hx hb dL_law_216 (lv_at hl 4 rfl) ?_
  refine lv_iconst (v := 2) hx hb dL_law_218 (by decide) ?_
  refine lv_iadd hx hb dL_law_219 ?_
  refine va_sld hx hb hXs hbl hbA hS i2 dL_law_220 ?_
  rw [← hy2]
  refine lv_aload_n hx hb dL_law_221 rfl (lv_at hl 3 rfl) ?_
  obtain ⟨e0, r, k, r2, S1, M1, hf, hg, hth, hk, he, hR1⟩ := hR S G nt nv M y1 y2 hRR
  refine Ct_SW (As := [.ref x0, .int y1, .int y2, .ref o]) (rest := []) hC (w_insert (A := AL s.heap.size n1 o) (x0 := x0) (o := o) (f := f) hfl (AL_o hno) (hSXR _ _ _ _ _ hRR) hf hk) qw_insert a_299 ⟨Nat.le_of_ble_eq_true rfl, Nat.le_of_ble_eq_true rfl⟩ ⟨hAX, fun q hq => Or.inr (Nat.lt_of_lt_of_le (hO 0 _ rfl).lt hq), hO⟩ hKX hTX hNX rfl hl.1 (Nat.le_of_ble_eq_true rfl) dL_law_222 ⟨by show 36 + 20 * t + 20 ≤ 601024; omega, by show 1608 + 200 * t + 200 ≤ 7293034; omega⟩ hS (fun q hq => AL_A0 hn1 hno hq) (fun H1 locs hQ hz1 hk1 hS => ?_)
  obtain ⟨hAX, f1, hf1, hO⟩ := hQ
  replace hMX := MX.keptB hMX (fun q hq => AM_AL hq) hk1
  generalize H1 = H at hAX hMX hO hS ⊢
  refine lv_istore (lv' := [(5, .int k), (0, .ref b), (1, .ref x0), (2, .ref (adm 0)), (3, .ref o), (4, .int (nI (5 * t)))]) hx hb dL_law_225 hl (by decide) rfl (fun ls hl => ?_)
  refine lv_aload_n hx hb dL_law_227 rfl (lv_at hl 3 rfl) ?_
  refine lv_aload_n hx hb dL_law_228 rfl (lv_at hl 1 rfl) ?_
  refine lv_iload hx hb dL_law_229 (lv_at hl 5 rfl) ?_
  refine lv_iconst (v := 1) hx hb dL_law_231 (by decide) ?_
  refine lv_iadd hx hb dL_law_232 ?_
  refine va_sld hx hb hXs hbl hbA hS i1 dL_law_233 ?_
  rw [← hy1]
  refine lv_aload_n hx hb dL_law_234 rfl (lv_at hl 1 rfl) ?_
  refine lv_iload hx hb dL_law_235 (lv_at hl 5 rfl) ?_
  refine lv_iconst (v := 2) hx hb dL_law_237 (by decide) ?_
  refine lv_iadd hx hb dL_law_238 ?_
  refine va_sld hx hb hXs hbl hbA hS i2 dL_law_239 ?_
  rw [← hy2]
  refine Ct_VRq (x := .int r2) (As := [.int y1, .int y2]) (rest := []) hC (c_m_insert hg) q_m_insert a_1089 ⟨Nat.le_of_ble_eq_true rfl, Nat.le_of_ble_eq_true rfl⟩ (mrec hKX.1 hMX) hMX hKX rfl hl.1 (Nat.le_of_ble_eq_true rfl) dL_law_240 ⟨by show 36 + 20 * t + 20 + 0 ≤ 601024; omega, by show 1608 + 200 * t + 200 + 0 ≤ 7293034; omega⟩ hS (fun q hq => AM_A0 hn1 hq) (fun H1 locs hMX1 hz1 hk1 hS => ?_)
  replace hAX := AX.keptA hAX (fun q hq => AL_AM hq) hk1
  replace hO := ox_kept hO AM_o hk1
  replace hMX := hMX1
  clear hMX1
  generalize H1 = H at hAX hMX hO hS ⊢
  refine lv_istore (lv' := [(6, .int r2), (5, .int k), (0, .ref b), (1, .ref x0), (2, .ref (adm 0)), (3, .ref o), (4, .int (nI (5 * t)))]) hx hb dL_law_243 hl (by decide) rfl (fun ls hl => ?_)
  refine lv_aload_n hx hb dL_law_245 rfl (lv_at hl 4 rfl) ?_
  refine Ct_VRq (x := .int k) (As := []) (rest := []) hC (c_m_thrown hth) q_m_thrown a_1078 ⟨Nat.le_of_ble_eq_true rfl, Nat.le_of_ble_eq_true rfl⟩ (mrec hKX.1 hMX) hMX hKX rfl hl.1 (Nat.le_of_ble_eq_true rfl) dL_law_246 ⟨by show 36 + 20 * t + 20 + 0 + 0 ≤ 601024; omega, by show 1608 + 200 * t + 200 + 0 + 0 ≤ 7293034; omega⟩ hS (fun q hq => AM_A0 hn1 hq) (fun H1 locs hMX1 hz1 hk1 hS => ?_)
  replace hAX := AX.keptA hAX (fun q hq => AL_AM hq) hk1
  replace hO := ox_kept hO AM_o hk1
  replace hMX := hMX1
  clear hMX1
  generalize H1 = H at hAX hMX hO hS ⊢
  refine lv_iload hx hb dL_law_249 (lv_at hl 1 rfl) ?_
  refine lv_icmp_eq (tgt := 256) hx hb dL_law_251 (by decide) (fun _ => ?_) (fun z => absurd rfl z)
  refine lv_iload hx hb dL_law_256 (lv_at hl 1 rfl) ?_
  refine lv_if_ne (tgt := 273) hx hb dL_law_258 (by decide) (fun _ => ?_) (fun hk0 => ?_)
  · refine lv_goto (tgt := 1472) hx hb dL_law_273 (by decide) ?_
    refine W.widen (k := 36 + 20 * (t + 1)) (n := 1608 + 200 * (t + 1)) (by omega) (by omega) ?_
    exact KK _ _ _ _ _ _ H locs ls hR1 hAX hMX hO hS (lv_sub hl [2, 3, 4, 5, 6] rfl)
  · have he0 : e0 = 0 := by
      rcases hk with z | z | z | z
      · exact z.1
      · exact absurd (hk0.symm.trans z.2) (by decide)
      · exact absurd (hk0.symm.trans z.2) (by decide)
      · exact absurd (hk0.symm.trans z.2) (by decide)
    refine lv_aload_n hx hb dL_law_261 rfl (lv_at hl 5 rfl) ?_
    refine lv_iconst (v := 0) hx hb dL_law_262 (by decide) ?_
    refine va_lald (tys := tysA cA) hx hb hKX.1 hO 0 2 rfl rfl (by unfold vp_in; decide) dL_law_263 ?_
    refine lv_iload hx hb dL_law_264 (lv_at hl 0 rfl) ?_
    refine lv_i2l (v := r2.toInt64) hx hb dL_law_266 rfl ?_
    refine W.lcmp hx hb dL_law_267 ?_
    rw [show f1 (0 : Int32).toNatClampNeg = r2.toInt64 by rw [← he he0]; exact hf1 he0, lg_cmp_self]
    refine lv_if_eq (tgt := 273) hx hb dL_law_268 (by decide) (fun _ => ?_) (fun z => absurd rfl z)
    refine lv_goto (tgt := 1472) hx hb dL_law_273 (by decide) ?_
    refine W.widen (k := 36 + 20 * (t + 1)) (n := 1608 + 200 * (t + 1)) (by omega) (by omega) ?_
    exact KK _ _ _ _ _ _ H locs ls hR1 hAX hMX hO hS (lv_sub hl [2, 3, 4, 5, 6] rfl)

set_option maxRecDepth 100000 in
set_option maxHeartbeats 4000000 in
theorem lc_delete {p : Program} {l : Launch} {e : Env} {s : State} {m : MethodId} {below : List Frame} {meth : Method} {c : Code} {b L : Nat} {xs : Nat → Int32} {D : va_G} {cA : Nat → ClassId} {R : RT} {x0 o n1 : Nat} {adm : Nat → Nat} (hfl : l.stackTraces = false) (hL : L ≤ 2560) (C0 : lw_At p s m meth c b L xs) (hKX : KX D cA s) (hTX : TX (fun q => s.heap.size ≤ q) s) (hNX : NX s) (hSXR : ∀ S G nt nv M, R S G nt nv M → SX S nt nv) (hR : Sm_delete R) (hn1 : s.heap.size ≤ n1) (hno : n1 ≤ o) {t : Nat} (ht : 5 * t + 5 ≤ L) {S : St} {G : Gt} {nt nv : Nat} {M : St} {f : Nat → Int64} {H : Heap} {locs : List Loc} {ls : Array Slot} (hRR : R S G nt nv M) (hAX : AX D cA (AL s.heap.size n1 o) x0 S G nt nv H) (hMX : MX D cA (AM n1 o) adm M H) (hO : va_P D vwCl [(o, .inl (cA 2, 1, .inr (.inl f)))] H) (hS : va_S (fun q => s.heap.size ≤ q) s.heap H locs) (hl : lv_has ls 7 [(0, .ref b), (1, .ref x0), (2, .ref (adm 0)), (3, .ref o), (4, .int (nI (5 * t)))])
    (KK : ∀ (S : St) (G : Gt) (nt nv : Nat) (M : St) (f : Nat → Int64) (H : Heap) (locs : List Loc) (ls : Array Slot), R S G nt nv M → AX D cA (AL s.heap.size n1 o) x0 S G nt nv H → MX D cA (AM n1 o) adm M H → va_P D vwCl [(o, .inl (cA 2, 1, .inr (.inl f)))] H → va_S (fun q => s.heap.size ≤ q) s.heap H locs → lv_has ls 7 [(0, .ref b), (1, .ref x0), (2, .ref (adm 0)), (3, .ref o), (4, .int (nI (5 * t)))] → W p l e room_1 s m #[Value.ref b] below meth c H locs (36 + 20 * (t + 1)) (1608 + 200 * (t + 1)) (lw_Z below #[Value.ref b] s) (F0 m 1472 ls [])) :
    W p l e room_1 s m #[Value.ref b] below meth c H locs (36 + 20 * t) (1608 + 200 * t) (lw_Z below #[Value.ref b] s) (F0 m 276 ls []) := by
  obtain ⟨hx, hb, hr, hml, hown, hts, hXs, hbl, hlocks, hgv⟩ := id C0
  have hT0 : ∀ w ∈ Cond.initialized "LensbenchLaw" :: ALL, w.before #[Value.ref b] s = true := fun w hw => hts w (by
      rcases List.mem_cons.mp hw with rfl | hw
      · exact (List.mem_filter.mp a_50).1
      · exact (List.mem_filter.mp hw).1)
  have hC : CallFix p m c code 7 s #[Value.ref b] (Cond.initialized "LensbenchLaw" :: ALL) "LensbenchLaw" := ⟨hx, hb, hml, hown, hT0⟩
  have hbA : ¬ (fun q : Nat => s.heap.size ≤ q) b := Nat.not_le.mpr hbl
  have i1 : vp_in (nI (5 * t) + 1) L := by
      rw [show (1 : Int32) = nI 1 from rfl, nI_add]
      exact vp_in_nI (by omega) (by omega)
  obtain ⟨y1, hy1⟩ : ∃ z : Int32, z = xs (nI (5 * t) + 1).toNatClampNeg := ⟨_, rfl⟩
  have i2 : vp_in (nI (5 * t) + 2) L := by
      rw [show (2 : Int32) = nI 2 from rfl, nI_add]
      exact vp_in_nI (by omega) (by omega)
  obtain ⟨y2, hy2⟩ : ∃ z : Int32, z = xs (nI (5 * t) + 2).toNatClampNeg := ⟨_, rfl⟩
  refine lv_aload_n hx hb dL_law_276 rfl (lv_at hl 1 rfl) ?_
  refine lv_aload_n hx hb dL_law_277 rfl (lv_at hl 0 rfl) ?_
  refine lv_iload hx hb dL_law_278 (lv_at hl 4 rfl) ?_
  refine lv_iconst (v := 1) hx hb dL_law_280 (by decide) ?_
  refine lv_iadd hx hb dL_law_281 ?_
  refine va_sld hx hb hXs hbl hbA hS i1 dL_law_282 ?_
  rw [← hy1]
  refine lv_aload_n hx hb dL_law_283 rfl (lv_at hl 0 rfl) ?_
  refine lv_iload hx hb dL_law_284 (lv_at hl 4 rfl) ?_
  refine lv_iconst (v := 2) hx hb dL_law_286 (by decide) ?_
  refine lv_iadd hx hb dL_law_287 ?_
  refine va_sld hx hb hXs hbl hbA hS i2 dL_law_288 ?_
  rw [← hy2]
  refine lv_aload_n hx hb dL_law_289 rfl (lv_at hl 3 rfl) ?_
  obtain ⟨e0, r, k, r2, S1, M1, hf, hg, hth, hk, he, hR1⟩ := hR S G nt nv M y1 y2 hRR
  refine Ct_SW (As := [.ref x0, .int y1, .int y2, .ref o]) (rest := []) hC (w_delete (A := AL s.heap.size n1 o) (x0 := x0) (o := o) (f := f) hfl (AL_o hno) (hSXR _ _ _ _ _ hRR) hf hk) qw_delete a_417 ⟨Nat.le_of_ble_eq_true rfl, Nat.le_of_ble_eq_true rfl⟩ ⟨hAX, fun q hq => Or.inr (Nat.lt_of_lt_of_le (hO 0 _ rfl).lt hq), hO⟩ hKX hTX hNX rfl hl.1 (Nat.le_of_ble_eq_true rfl) dL_law_290 ⟨by show 36 + 20 * t + 20 ≤ 601024; omega, by show 1608 + 200 * t + 200 ≤ 7293034; omega⟩ hS (fun q hq => AL_A0 hn1 hno hq) (fun H1 locs hQ hz1 hk1 hS => ?_)
  obtain ⟨hAX, f1, hf1, hO⟩ := hQ
  replace hMX := MX.keptB hMX (fun q hq => AM_AL hq) hk1
  generalize H1 = H at hAX hMX hO hS ⊢
  refine lv_istore (lv' := [(5, .int k), (0, .ref b), (1, .ref x0), (2, .ref (adm 0)), (3, .ref o), (4, .int (nI (5 * t)))]) hx hb dL_law_293 hl (by decide) rfl (fun ls hl => ?_)
  refine lv_aload_n hx hb dL_law_295 rfl (lv_at hl 3 rfl) ?_
  refine lv_aload_n hx hb dL_law_296 rfl (lv_at hl 1 rfl) ?_
  refine lv_iload hx hb dL_law_297 (lv_at hl 5 rfl) ?_
  refine lv_iconst (v := 1) hx hb dL_law_299 (by decide) ?_
  refine lv_iadd hx hb dL_law_300 ?_
  refine va_sld hx hb hXs hbl hbA hS i1 dL_law_301 ?_
  rw [← hy1]
  refine lv_aload_n hx hb dL_law_302 rfl (lv_at hl 1 rfl) ?_
  refine lv_iload hx hb dL_law_303 (lv_at hl 5 rfl) ?_
  refine lv_iconst (v := 2) hx hb dL_law_305 (by decide) ?_
  refine lv_iadd hx hb dL_law_306 ?_
  refine va_sld hx hb hXs hbl hbA hS i2 dL_law_307 ?_
  rw [← hy2]
  refine Ct_VRq (x := .int r2) (As := [.int y1, .int y2]) (rest := []) hC (c_m_delete hg) q_m_delete a_1117 ⟨Nat.le_of_ble_eq_true rfl, Nat.le_of_ble_eq_true rfl⟩ (mrec hKX.1 hMX) hMX hKX rfl hl.1 (Nat.le_of_ble_eq_true rfl) dL_law_308 ⟨by show 36 + 20 * t + 20 + 0 ≤ 601024; omega, by show 1608 + 200 * t + 200 + 0 ≤ 7293034; omega⟩ hS (fun q hq => AM_A0 hn1 hq) (fun H1 locs hMX1 hz1 hk1 hS => ?_)
  replace hAX := AX.keptA hAX (fun q hq => AL_AM hq) hk1
  replace hO := ox_kept hO AM_o hk1
  replace hMX := hMX1
  clear hMX1
  generalize H1 = H at hAX hMX hO hS ⊢
  refine lv_istore (lv' := [(6, .int r2), (5, .int k), (0, .ref b), (1, .ref x0), (2, .ref (adm 0)), (3, .ref o), (4, .int (nI (5 * t)))]) hx hb dL_law_311 hl (by decide) rfl (fun ls hl => ?_)
  refine lv_aload_n hx hb dL_law_313 rfl (lv_at hl 4 rfl) ?_
  refine Ct_VRq (x := .int k) (As := []) (rest := []) hC (c_m_thrown hth) q_m_thrown a_1078 ⟨Nat.le_of_ble_eq_true rfl, Nat.le_of_ble_eq_true rfl⟩ (mrec hKX.1 hMX) hMX hKX rfl hl.1 (Nat.le_of_ble_eq_true rfl) dL_law_314 ⟨by show 36 + 20 * t + 20 + 0 + 0 ≤ 601024; omega, by show 1608 + 200 * t + 200 + 0 + 0 ≤ 7293034; omega⟩ hS (fun q hq => AM_A0 hn1 hq) (fun H1 locs hMX1 hz1 hk1 hS => ?_)
  replace hAX := AX.keptA hAX (fun q hq => AL_AM hq) hk1
  replace hO := ox_kept hO AM_o hk1
  replace hMX := hMX1
  clear hMX1
  generalize H1 = H at hAX hMX hO hS ⊢
  refine lv_iload hx hb dL_law_317 (lv_at hl 1 rfl) ?_
  refine lv_icmp_eq (tgt := 324) hx hb dL_law_319 (by decide) (fun _ => ?_) (fun z => absurd rfl z)
  refine lv_iload hx hb dL_law_324 (lv_at hl 1 rfl) ?_
  refine lv_if_ne (tgt := 341) hx hb dL_law_326 (by decide) (fun _ => ?_) (fun hk0 => ?_)
  · refine lv_goto (tgt := 1472) hx hb dL_law_341 (by decide) ?_
    refine W.widen (k := 36 + 20 * (t + 1)) (n := 1608 + 200 * (t + 1)) (by omega) (by omega) ?_
    exact KK _ _ _ _ _ _ H locs ls hR1 hAX hMX hO hS (lv_sub hl [2, 3, 4, 5, 6] rfl)
  · have he0 : e0 = 0 := by
      rcases hk with z | z | z
      · exact z.1
      · exact absurd (hk0.symm.trans z.2) (by decide)
      · exact absurd (hk0.symm.trans z.2) (by decide)
    refine lv_aload_n hx hb dL_law_329 rfl (lv_at hl 5 rfl) ?_
    refine lv_iconst (v := 0) hx hb dL_law_330 (by decide) ?_
    refine va_lald (tys := tysA cA) hx hb hKX.1 hO 0 2 rfl rfl (by unfold vp_in; decide) dL_law_331 ?_
    refine lv_iload hx hb dL_law_332 (lv_at hl 0 rfl) ?_
    refine lv_i2l (v := r2.toInt64) hx hb dL_law_334 rfl ?_
    refine W.lcmp hx hb dL_law_335 ?_
    rw [show f1 (0 : Int32).toNatClampNeg = r2.toInt64 by rw [← he he0]; exact hf1 he0, lg_cmp_self]
    refine lv_if_eq (tgt := 341) hx hb dL_law_336 (by decide) (fun _ => ?_) (fun z => absurd rfl z)
    refine lv_goto (tgt := 1472) hx hb dL_law_341 (by decide) ?_
    refine W.widen (k := 36 + 20 * (t + 1)) (n := 1608 + 200 * (t + 1)) (by omega) (by omega) ?_
    exact KK _ _ _ _ _ _ H locs ls hR1 hAX hMX hO hS (lv_sub hl [2, 3, 4, 5, 6] rfl)

set_option maxRecDepth 100000 in
set_option maxHeartbeats 4000000 in
theorem lc_of {p : Program} {l : Launch} {e : Env} {s : State} {m : MethodId} {below : List Frame} {meth : Method} {c : Code} {b L : Nat} {xs : Nat → Int32} {D : va_G} {cA : Nat → ClassId} {R : RT} {x0 o n1 : Nat} {adm : Nat → Nat} (hfl : l.stackTraces = false) (hL : L ≤ 2560) (C0 : lw_At p s m meth c b L xs) (hKX : KX D cA s) (hTX : TX (fun q => s.heap.size ≤ q) s) (hNX : NX s) (hSXR : ∀ S G nt nv M, R S G nt nv M → SX S nt nv) (hR : Sm_of R) (hn1 : s.heap.size ≤ n1) (hno : n1 ≤ o) {t : Nat} (ht : 5 * t + 5 ≤ L) {S : St} {G : Gt} {nt nv : Nat} {M : St} {f : Nat → Int64} {H : Heap} {locs : List Loc} {ls : Array Slot} (hRR : R S G nt nv M) (hAX : AX D cA (AL s.heap.size n1 o) x0 S G nt nv H) (hMX : MX D cA (AM n1 o) adm M H) (hO : va_P D vwCl [(o, .inl (cA 2, 1, .inr (.inl f)))] H) (hS : va_S (fun q => s.heap.size ≤ q) s.heap H locs) (hl : lv_has ls 7 [(0, .ref b), (1, .ref x0), (2, .ref (adm 0)), (3, .ref o), (4, .int (nI (5 * t)))])
    (KK : ∀ (S : St) (G : Gt) (nt nv : Nat) (M : St) (f : Nat → Int64) (H : Heap) (locs : List Loc) (ls : Array Slot), R S G nt nv M → AX D cA (AL s.heap.size n1 o) x0 S G nt nv H → MX D cA (AM n1 o) adm M H → va_P D vwCl [(o, .inl (cA 2, 1, .inr (.inl f)))] H → va_S (fun q => s.heap.size ≤ q) s.heap H locs → lv_has ls 7 [(0, .ref b), (1, .ref x0), (2, .ref (adm 0)), (3, .ref o), (4, .int (nI (5 * t)))] → W p l e room_1 s m #[Value.ref b] below meth c H locs (36 + 20 * (t + 1)) (1608 + 200 * (t + 1)) (lw_Z below #[Value.ref b] s) (F0 m 1472 ls [])) :
    W p l e room_1 s m #[Value.ref b] below meth c H locs (36 + 20 * t) (1608 + 200 * t) (lw_Z below #[Value.ref b] s) (F0 m 344 ls []) := by
  obtain ⟨hx, hb, hr, hml, hown, hts, hXs, hbl, hlocks, hgv⟩ := id C0
  have hT0 : ∀ w ∈ Cond.initialized "LensbenchLaw" :: ALL, w.before #[Value.ref b] s = true := fun w hw => hts w (by
      rcases List.mem_cons.mp hw with rfl | hw
      · exact (List.mem_filter.mp a_50).1
      · exact (List.mem_filter.mp hw).1)
  have hC : CallFix p m c code 7 s #[Value.ref b] (Cond.initialized "LensbenchLaw" :: ALL) "LensbenchLaw" := ⟨hx, hb, hml, hown, hT0⟩
  have hbA : ¬ (fun q : Nat => s.heap.size ≤ q) b := Nat.not_le.mpr hbl
  have i1 : vp_in (nI (5 * t) + 1) L := by
      rw [show (1 : Int32) = nI 1 from rfl, nI_add]
      exact vp_in_nI (by omega) (by omega)
  obtain ⟨y1, hy1⟩ : ∃ z : Int32, z = xs (nI (5 * t) + 1).toNatClampNeg := ⟨_, rfl⟩
  refine lv_aload_n hx hb dL_law_344 rfl (lv_at hl 1 rfl) ?_
  refine lv_aload_n hx hb dL_law_345 rfl (lv_at hl 0 rfl) ?_
  refine lv_iload hx hb dL_law_346 (lv_at hl 4 rfl) ?_
  refine lv_iconst (v := 1) hx hb dL_law_348 (by decide) ?_
  refine lv_iadd hx hb dL_law_349 ?_
  refine va_sld hx hb hXs hbl hbA hS i1 dL_law_350 ?_
  rw [← hy1]
  refine lv_aload_n hx hb dL_law_351 rfl (lv_at hl 3 rfl) ?_
  obtain ⟨e0, r, k, r2, S1, M1, G1, nt1, nv1, hf, hg, hth, hk, he, hR1⟩ := hR S G nt nv M y1 hRR
  refine Ct_SW (As := [.ref x0, .int y1, .ref o]) (rest := []) hC (w_of (A := AL s.heap.size n1 o) (x0 := x0) (o := o) (f := f) hfl (AL_o hno) (hSXR _ _ _ _ _ hRR) hf hk) qw_of a_446 ⟨Nat.le_of_ble_eq_true rfl, Nat.le_of_ble_eq_true rfl⟩ ⟨hAX, fun q hq => Or.inr (Nat.lt_of_lt_of_le (hO 0 _ rfl).lt hq), hO⟩ hKX hTX hNX rfl hl.1 (Nat.le_of_ble_eq_true rfl) dL_law_352 ⟨by show 36 + 20 * t + 20 ≤ 601024; omega, by show 1608 + 200 * t + 200 ≤ 7293034; omega⟩ hS (fun q hq => AL_A0 hn1 hno hq) (fun H1 locs hQ hz1 hk1 hS => ?_)
  obtain ⟨hAX, f1, hf1, hO⟩ := hQ
  replace hMX := MX.keptB hMX (fun q hq => AM_AL hq) hk1
  generalize H1 = H at hAX hMX hO hS ⊢
  refine lv_istore (lv' := [(5, .int k), (0, .ref b), (1, .ref x0), (2, .ref (adm 0)), (3, .ref o), (4, .int (nI (5 * t)))]) hx hb dL_law_355 hl (by decide) rfl (fun ls hl => ?_)
  refine lv_aload_n hx hb dL_law_357 rfl (lv_at hl 3 rfl) ?_
  refine lv_aload_n hx hb dL_law_358 rfl (lv_at hl 1 rfl) ?_
  refine lv_iload hx hb dL_law_359 (lv_at hl 5 rfl) ?_
  refine lv_iconst (v := 1) hx hb dL_law_361 (by decide) ?_
  refine lv_iadd hx hb dL_law_362 ?_
  refine va_sld hx hb hXs hbl hbA hS i1 dL_law_363 ?_
  rw [← hy1]
  refine Ct_VRq (x := .int r2) (As := [.int y1]) (rest := []) hC (c_m_of hg) q_m_of a_1127 ⟨Nat.le_of_ble_eq_true rfl, Nat.le_of_ble_eq_true rfl⟩ (mrec hKX.1 hMX) hMX hKX rfl hl.1 (Nat.le_of_ble_eq_true rfl) dL_law_364 ⟨by show 36 + 20 * t + 20 + 0 ≤ 601024; omega, by show 1608 + 200 * t + 200 + 0 ≤ 7293034; omega⟩ hS (fun q hq => AM_A0 hn1 hq) (fun H1 locs hMX1 hz1 hk1 hS => ?_)
  replace hAX := AX.keptA hAX (fun q hq => AL_AM hq) hk1
  replace hO := ox_kept hO AM_o hk1
  replace hMX := hMX1
  clear hMX1
  generalize H1 = H at hAX hMX hO hS ⊢
  refine lv_istore (lv' := [(6, .int r2), (5, .int k), (0, .ref b), (1, .ref x0), (2, .ref (adm 0)), (3, .ref o), (4, .int (nI (5 * t)))]) hx hb dL_law_367 hl (by decide) rfl (fun ls hl => ?_)
  refine lv_aload_n hx hb dL_law_369 rfl (lv_at hl 4 rfl) ?_
  refine Ct_VRq (x := .int k) (As := []) (rest := []) hC (c_m_thrown hth) q_m_thrown a_1078 ⟨Nat.le_of_ble_eq_true rfl, Nat.le_of_ble_eq_true rfl⟩ (mrec hKX.1 hMX) hMX hKX rfl hl.1 (Nat.le_of_ble_eq_true rfl) dL_law_370 ⟨by show 36 + 20 * t + 20 + 0 + 0 ≤ 601024; omega, by show 1608 + 200 * t + 200 + 0 + 0 ≤ 7293034; omega⟩ hS (fun q hq => AM_A0 hn1 hq) (fun H1 locs hMX1 hz1 hk1 hS => ?_)
  replace hAX := AX.keptA hAX (fun q hq => AL_AM hq) hk1
  replace hO := ox_kept hO AM_o hk1
  replace hMX := hMX1
  clear hMX1
  generalize H1 = H at hAX hMX hO hS ⊢
  refine lv_iload hx hb dL_law_373 (lv_at hl 1 rfl) ?_
  refine lv_icmp_eq (tgt := 380) hx hb dL_law_375 (by decide) (fun _ => ?_) (fun z => absurd rfl z)
  refine lv_iload hx hb dL_law_380 (lv_at hl 1 rfl) ?_
  refine lv_if_ne (tgt := 397) hx hb dL_law_382 (by decide) (fun _ => ?_) (fun hk0 => ?_)
  · refine lv_goto (tgt := 1472) hx hb dL_law_397 (by decide) ?_
    refine W.widen (k := 36 + 20 * (t + 1)) (n := 1608 + 200 * (t + 1)) (by omega) (by omega) ?_
    exact KK _ _ _ _ _ _ H locs ls hR1 hAX hMX hO hS (lv_sub hl [2, 3, 4, 5, 6] rfl)
  · have he0 : e0 = 0 := by
      rcases hk with z | z | z
      · exact z.1
      · exact absurd (hk0.symm.trans z.2) (by decide)
      · exact absurd (hk0.symm.trans z.2) (by decide)
    refine lv_aload_n hx hb dL_law_385 rfl (lv_at hl 5 rfl) ?_
    refine lv_iconst (v := 0) hx hb dL_law_386 (by decide) ?_
    refine va_lald (tys := tysA cA) hx hb hKX.1 hO 0 2 rfl rfl (by unfold vp_in; decide) dL_law_387 ?_
    refine lv_iload hx hb dL_law_388 (lv_at hl 0 rfl) ?_
    refine lv_i2l (v := r2.toInt64) hx hb dL_law_390 rfl ?_
    refine W.lcmp hx hb dL_law_391 ?_
    rw [show f1 (0 : Int32).toNatClampNeg = r2.toInt64 by rw [← he he0]; exact hf1 he0, lg_cmp_self]
    refine lv_if_eq (tgt := 397) hx hb dL_law_392 (by decide) (fun _ => ?_) (fun z => absurd rfl z)
    refine lv_goto (tgt := 1472) hx hb dL_law_397 (by decide) ?_
    refine W.widen (k := 36 + 20 * (t + 1)) (n := 1608 + 200 * (t + 1)) (by omega) (by omega) ?_
    exact KK _ _ _ _ _ _ H locs ls hR1 hAX hMX hO hS (lv_sub hl [2, 3, 4, 5, 6] rfl)

set_option maxRecDepth 100000 in
set_option maxHeartbeats 4000000 in
theorem lc_select {p : Program} {l : Launch} {e : Env} {s : State} {m : MethodId} {below : List Frame} {meth : Method} {c : Code} {b L : Nat} {xs : Nat → Int32} {D : va_G} {cA : Nat → ClassId} {R : RT} {x0 o n1 : Nat} {adm : Nat → Nat} (hfl : l.stackTraces = false) (hL : L ≤ 2560) (C0 : lw_At p s m meth c b L xs) (hKX : KX D cA s) (hTX : TX (fun q => s.heap.size ≤ q) s) (hNX : NX s) (hSXR : ∀ S G nt nv M, R S G nt nv M → SX S nt nv) (hR : Sm_select R) (hn1 : s.heap.size ≤ n1) (hno : n1 ≤ o) {t : Nat} (ht : 5 * t + 5 ≤ L) {S : St} {G : Gt} {nt nv : Nat} {M : St} {f : Nat → Int64} {H : Heap} {locs : List Loc} {ls : Array Slot} (hRR : R S G nt nv M) (hAX : AX D cA (AL s.heap.size n1 o) x0 S G nt nv H) (hMX : MX D cA (AM n1 o) adm M H) (hO : va_P D vwCl [(o, .inl (cA 2, 1, .inr (.inl f)))] H) (hS : va_S (fun q => s.heap.size ≤ q) s.heap H locs) (hl : lv_has ls 7 [(0, .ref b), (1, .ref x0), (2, .ref (adm 0)), (3, .ref o), (4, .int (nI (5 * t)))])
    (KK : ∀ (S : St) (G : Gt) (nt nv : Nat) (M : St) (f : Nat → Int64) (H : Heap) (locs : List Loc) (ls : Array Slot), R S G nt nv M → AX D cA (AL s.heap.size n1 o) x0 S G nt nv H → MX D cA (AM n1 o) adm M H → va_P D vwCl [(o, .inl (cA 2, 1, .inr (.inl f)))] H → va_S (fun q => s.heap.size ≤ q) s.heap H locs → lv_has ls 7 [(0, .ref b), (1, .ref x0), (2, .ref (adm 0)), (3, .ref o), (4, .int (nI (5 * t)))] → W p l e room_1 s m #[Value.ref b] below meth c H locs (36 + 20 * (t + 1)) (1608 + 200 * (t + 1)) (lw_Z below #[Value.ref b] s) (F0 m 1472 ls [])) :
    W p l e room_1 s m #[Value.ref b] below meth c H locs (36 + 20 * t) (1608 + 200 * t) (lw_Z below #[Value.ref b] s) (F0 m 400 ls []) := by
  obtain ⟨hx, hb, hr, hml, hown, hts, hXs, hbl, hlocks, hgv⟩ := id C0
  have hT0 : ∀ w ∈ Cond.initialized "LensbenchLaw" :: ALL, w.before #[Value.ref b] s = true := fun w hw => hts w (by
      rcases List.mem_cons.mp hw with rfl | hw
      · exact (List.mem_filter.mp a_50).1
      · exact (List.mem_filter.mp hw).1)
  have hC : CallFix p m c code 7 s #[Value.ref b] (Cond.initialized "LensbenchLaw" :: ALL) "LensbenchLaw" := ⟨hx, hb, hml, hown, hT0⟩
  have hbA : ¬ (fun q : Nat => s.heap.size ≤ q) b := Nat.not_le.mpr hbl
  have i1 : vp_in (nI (5 * t) + 1) L := by
      rw [show (1 : Int32) = nI 1 from rfl, nI_add]
      exact vp_in_nI (by omega) (by omega)
  obtain ⟨y1, hy1⟩ : ∃ z : Int32, z = xs (nI (5 * t) + 1).toNatClampNeg := ⟨_, rfl⟩
  have i2 : vp_in (nI (5 * t) + 2) L := by
      rw [show (2 : Int32) = nI 2 from rfl, nI_add]
      exact vp_in_nI (by omega) (by omega)
  obtain ⟨y2, hy2⟩ : ∃ z : Int32, z = xs (nI (5 * t) + 2).toNatClampNeg := ⟨_, rfl⟩
  have i3 : vp_in (nI (5 * t) + 3) L := by
      rw [show (3 : Int32) = nI 3 from rfl, nI_add]
      exact vp_in_nI (by omega) (by omega)
  obtain ⟨y3, hy3⟩ : ∃ z : Int32, z = xs (nI (5 * t) + 3).toNatClampNeg := ⟨_, rfl⟩
  have i4 : vp_in (nI (5 * t) + 4) L := by
      rw [show (4 : Int32) = nI 4 from rfl, nI_add]
      exact vp_in_nI (by omega) (by omega)
  obtain ⟨y4, hy4⟩ : ∃ z : Int32, z = xs (nI (5 * t) + 4).toNatClampNeg := ⟨_, rfl⟩
  refine lv_aload_n hx hb dL_law_400 rfl (lv_at hl 1 rfl) ?_
  refine lv_aload_n hx hb dL_law_401 rfl (lv_at hl 0 rfl) ?_
  refine lv_iload hx hb dL_law_402 (lv_at hl 4 rfl) ?_
  refine lv_iconst (v := 1) hx hb dL_law_404 (by decide) ?_
  refine lv_iadd hx hb dL_law_405 ?_
  refine va_sld hx hb hXs hbl hbA hS i1 dL_law_406 ?_
  rw [← hy1]
  refine lv_aload_n hx hb dL_law_407 rfl (lv_at hl 0 rfl) ?_
  refine lv_iload hx hb dL_law_408 (lv_at hl 4 rfl) ?_
  refine lv_iconst (v := 2) hx hb dL_law_410 (by decide) ?_
  refine lv_iadd hx hb dL_law_411 ?_
  refine va_sld hx hb hXs hbl hbA hS i2 dL_law_412 ?_
  rw [← hy2]
  refine lv_aload_n hx hb dL_law_413 rfl (lv_at hl 0 rfl) ?_
  refine lv_iload hx hb dL_law_414 (lv_at hl 4 rfl) ?_
  refine lv_iconst (v := 3) hx hb dL_law_416 (by decide) ?_
  refine lv_iadd hx hb dL_law_417 ?_
  refine va_sld hx hb hXs hbl hbA hS i3 dL_law_418 ?_
  rw [← hy3]
  refine lv_aload_n hx hb dL_law_419 rfl (lv_at hl 0 rfl) ?_
  refine lv_iload hx hb dL_law_420 (lv_at hl 4 rfl) ?_
  refine lv_iconst (v := 4) hx hb dL_law_422 (by decide) ?_
  refine lv_iadd hx hb dL_law_423 ?_
  refine va_sld hx hb hXs hbl hbA hS i4 dL_law_424 ?_
  rw [← hy4]
  refine lv_if_eq (tgt := 432) hx hb dL_law_425 (by decide) (fun c4 => ?_) (fun c4 => ?_)
  · refine lv_iconst (v := 0) hx hb dL_law_432 (by decide) ?_
    refine lv_aload_n hx hb dL_law_433 rfl (lv_at hl 3 rfl) ?_
    obtain ⟨e0, r, k, r2, S1, M1, G1, nt1, nv1, hf, hg, hth, hk, he, hR1⟩ := hR S G nt nv M y1 y2 y3 0 hRR (Or.inl rfl)
    refine Ct_SW (As := [.ref x0, .int y1, .int y2, .int y3, .int 0, .ref o]) (rest := []) hC (w_select (A := AL s.heap.size n1 o) (x0 := x0) (o := o) (f := f) hfl (AL_o hno) (Or.inl rfl) (hSXR _ _ _ _ _ hRR) hf hk) qw_select a_548 ⟨Nat.le_of_ble_eq_true rfl, Nat.le_of_ble_eq_true rfl⟩ ⟨hAX, fun q hq => Or.inr (Nat.lt_of_lt_of_le (hO 0 _ rfl).lt hq), hO⟩ hKX hTX hNX rfl hl.1 (Nat.le_of_ble_eq_true rfl) dL_law_434 ⟨by show 36 + 20 * t + 20 ≤ 601024; omega, by show 1608 + 200 * t + 200 ≤ 7293034; omega⟩ hS (fun q hq => AL_A0 hn1 hno hq) (fun H1 locs hQ hz1 hk1 hS => ?_)
    obtain ⟨hAX, f1, hf1, hO⟩ := hQ
    replace hMX := MX.keptB hMX (fun q hq => AM_AL hq) hk1
    generalize H1 = H at hAX hMX hO hS ⊢
    refine lv_istore (lv' := [(5, .int k), (0, .ref b), (1, .ref x0), (2, .ref (adm 0)), (3, .ref o), (4, .int (nI (5 * t)))]) hx hb dL_law_437 hl (by decide) rfl (fun ls hl => ?_)
    refine lv_aload_n hx hb dL_law_439 rfl (lv_at hl 3 rfl) ?_
    refine lv_aload_n hx hb dL_law_440 rfl (lv_at hl 1 rfl) ?_
    refine lv_iload hx hb dL_law_441 (lv_at hl 5 rfl) ?_
    refine lv_iconst (v := 1) hx hb dL_law_443 (by decide) ?_
    refine lv_iadd hx hb dL_law_444 ?_
    refine va_sld hx hb hXs hbl hbA hS i1 dL_law_445 ?_
    rw [← hy1]
    refine lv_aload_n hx hb dL_law_446 rfl (lv_at hl 1 rfl) ?_
    refine lv_iload hx hb dL_law_447 (lv_at hl 5 rfl) ?_
    refine lv_iconst (v := 2) hx hb dL_law_449 (by decide) ?_
    refine lv_iadd hx hb dL_law_450 ?_
    refine va_sld hx hb hXs hbl hbA hS i2 dL_law_451 ?_
    rw [← hy2]
    refine lv_aload_n hx hb dL_law_452 rfl (lv_at hl 1 rfl) ?_
    refine lv_iload hx hb dL_law_453 (lv_at hl 5 rfl) ?_
    refine lv_iconst (v := 3) hx hb dL_law_455 (by decide) ?_
    refine lv_iadd hx hb dL_law_456 ?_
    refine va_sld hx hb hXs hbl hbA hS i3 dL_law_457 ?_
    rw [← hy3]
    refine lv_aload_n hx hb dL_law_458 rfl (lv_at hl 1 rfl) ?_
    refine lv_iload hx hb dL_law_459 (lv_at hl 5 rfl) ?_
    refine lv_iconst (v := 4) hx hb dL_law_461 (by decide) ?_
    refine lv_iadd hx hb dL_law_462 ?_
    refine va_sld hx hb hXs hbl hbA hS i4 dL_law_463 ?_
    rw [← hy4]
    refine lv_if_eq (tgt := 471) hx hb dL_law_464 (by decide) (fun _ => ?_) (fun z => absurd c4 z)
    refine lv_iconst (v := 0) hx hb dL_law_471 (by decide) ?_
    refine Ct_VRq (x := .int r2) (As := [.int y1, .int y2, .int y3, .int 0]) (rest := []) hC (c_m_select hg) q_m_select a_1135 ⟨Nat.le_of_ble_eq_true rfl, Nat.le_of_ble_eq_true rfl⟩ (mrec hKX.1 hMX) hMX hKX rfl hl.1 (Nat.le_of_ble_eq_true rfl) dL_law_472 ⟨by show 36 + 20 * t + 20 + 0 ≤ 601024; omega, by show 1608 + 200 * t + 200 + 0 ≤ 7293034; omega⟩ hS (fun q hq => AM_A0 hn1 hq) (fun H1 locs hMX1 hz1 hk1 hS => ?_)
    replace hAX := AX.keptA hAX (fun q hq => AL_AM hq) hk1
    replace hO := ox_kept hO AM_o hk1
    replace hMX := hMX1
    clear hMX1
    generalize H1 = H at hAX hMX hO hS ⊢
    refine lv_istore (lv' := [(6, .int r2), (5, .int k), (0, .ref b), (1, .ref x0), (2, .ref (adm 0)), (3, .ref o), (4, .int (nI (5 * t)))]) hx hb dL_law_475 hl (by decide) rfl (fun ls hl => ?_)
    refine lv_aload_n hx hb dL_law_477 rfl (lv_at hl 4 rfl) ?_
    refine Ct_VRq (x := .int k) (As := []) (rest := []) hC (c_m_thrown hth) q_m_thrown a_1078 ⟨Nat.le_of_ble_eq_true rfl, Nat.le_of_ble_eq_true rfl⟩ (mrec hKX.1 hMX) hMX hKX rfl hl.1 (Nat.le_of_ble_eq_true rfl) dL_law_478 ⟨by show 36 + 20 * t + 20 + 0 + 0 ≤ 601024; omega, by show 1608 + 200 * t + 200 + 0 + 0 ≤ 7293034; omega⟩ hS (fun q hq => AM_A0 hn1 hq) (fun H1 locs hMX1 hz1 hk1 hS => ?_)
    replace hAX := AX.keptA hAX (fun q hq => AL_AM hq) hk1
    replace hO := ox_kept hO AM_o hk1
    replace hMX := hMX1
    clear hMX1
    generalize H1 = H at hAX hMX hO hS ⊢
    refine lv_iload hx hb dL_law_481 (lv_at hl 1 rfl) ?_
    refine lv_icmp_eq (tgt := 488) hx hb dL_law_483 (by decide) (fun _ => ?_) (fun z => absurd rfl z)
    refine lv_iload hx hb dL_law_488 (lv_at hl 1 rfl) ?_
    refine lv_if_ne (tgt := 505) hx hb dL_law_490 (by decide) (fun _ => ?_) (fun hk0 => ?_)
    · refine lv_goto (tgt := 1472) hx hb dL_law_505 (by decide) ?_
      refine W.widen (k := 36 + 20 * (t + 1)) (n := 1608 + 200 * (t + 1)) (by omega) (by omega) ?_
      exact KK _ _ _ _ _ _ H locs ls hR1 hAX hMX hO hS (lv_sub hl [2, 3, 4, 5, 6] rfl)
    · have he0 : e0 = 0 := by
        rcases hk with z | z | z | z
        · exact z.1
        · exact absurd (hk0.symm.trans z.2) (by decide)
        · exact absurd (hk0.symm.trans z.2) (by decide)
        · exact absurd (hk0.symm.trans z.2) (by decide)
      refine lv_aload_n hx hb dL_law_493 rfl (lv_at hl 5 rfl) ?_
      refine lv_iconst (v := 0) hx hb dL_law_494 (by decide) ?_
      refine va_lald (tys := tysA cA) hx hb hKX.1 hO 0 2 rfl rfl (by unfold vp_in; decide) dL_law_495 ?_
      refine lv_iload hx hb dL_law_496 (lv_at hl 0 rfl) ?_
      refine lv_i2l (v := r2.toInt64) hx hb dL_law_498 rfl ?_
      refine W.lcmp hx hb dL_law_499 ?_
      rw [show f1 (0 : Int32).toNatClampNeg = r2.toInt64 by rw [← he he0]; exact hf1 he0, lg_cmp_self]
      refine lv_if_eq (tgt := 505) hx hb dL_law_500 (by decide) (fun _ => ?_) (fun z => absurd rfl z)
      refine lv_goto (tgt := 1472) hx hb dL_law_505 (by decide) ?_
      refine W.widen (k := 36 + 20 * (t + 1)) (n := 1608 + 200 * (t + 1)) (by omega) (by omega) ?_
      exact KK _ _ _ _ _ _ H locs ls hR1 hAX hMX hO hS (lv_sub hl [2, 3, 4, 5, 6] rfl)
  · refine lv_iconst (v := 1) hx hb dL_law_428 (by decide) ?_
    refine lv_goto (tgt := 433) hx hb dL_law_429 (by decide) ?_
    refine lv_aload_n hx hb dL_law_433 rfl (lv_at hl 3 rfl) ?_
    obtain ⟨e0, r, k, r2, S1, M1, G1, nt1, nv1, hf, hg, hth, hk, he, hR1⟩ := hR S G nt nv M y1 y2 y3 1 hRR (Or.inr rfl)
    refine Ct_SW (As := [.ref x0, .int y1, .int y2, .int y3, .int 1, .ref o]) (rest := []) hC (w_select (A := AL s.heap.size n1 o) (x0 := x0) (o := o) (f := f) hfl (AL_o hno) (Or.inr rfl) (hSXR _ _ _ _ _ hRR) hf hk) qw_select a_548 ⟨Nat.le_of_ble_eq_true rfl, Nat.le_of_ble_eq_true rfl⟩ ⟨hAX, fun q hq => Or.inr (Nat.lt_of_lt_of_le (hO 0 _ rfl).lt hq), hO⟩ hKX hTX hNX rfl hl.1 (Nat.le_of_ble_eq_true rfl) dL_law_434 ⟨by show 36 + 20 * t + 20 ≤ 601024; omega, by show 1608 + 200 * t + 200 ≤ 7293034; omega⟩ hS (fun q hq => AL_A0 hn1 hno hq) (fun H1 locs hQ hz1 hk1 hS => ?_)
    obtain ⟨hAX, f1, hf1, hO⟩ := hQ
    replace hMX := MX.keptB hMX (fun q hq => AM_AL hq) hk1
    generalize H1 = H at hAX hMX hO hS ⊢
    refine lv_istore (lv' := [(5, .int k), (0, .ref b), (1, .ref x0), (2, .ref (adm 0)), (3, .ref o), (4, .int (nI (5 * t)))]) hx hb dL_law_437 hl (by decide) rfl (fun ls hl => ?_)
    refine lv_aload_n hx hb dL_law_439 rfl (lv_at hl 3 rfl) ?_
    refine lv_aload_n hx hb dL_law_440 rfl (lv_at hl 1 rfl) ?_
    refine lv_iload hx hb dL_law_441 (lv_at hl 5 rfl) ?_
    refine lv_iconst (v := 1) hx hb dL_law_443 (by decide) ?_
    refine lv_iadd hx hb dL_law_444 ?_
    refine va_sld hx hb hXs hbl hbA hS i1 dL_law_445 ?_
    rw [← hy1]
    refine lv_aload_n hx hb dL_law_446 rfl (lv_at hl 1 rfl) ?_
    refine lv_iload hx hb dL_law_447 (lv_at hl 5 rfl) ?_
    refine lv_iconst (v := 2) hx hb dL_law_449 (by decide) ?_
    refine lv_iadd hx hb dL_law_450 ?_
    refine va_sld hx hb hXs hbl hbA hS i2 dL_law_451 ?_
    rw [← hy2]
    refine lv_aload_n hx hb dL_law_452 rfl (lv_at hl 1 rfl) ?_
    refine lv_iload hx hb dL_law_453 (lv_at hl 5 rfl) ?_
    refine lv_iconst (v := 3) hx hb dL_law_455 (by decide) ?_
    refine lv_iadd hx hb dL_law_456 ?_
    refine va_sld hx hb hXs hbl hbA hS i3 dL_law_457 ?_
    rw [← hy3]
    refine lv_aload_n hx hb dL_law_458 rfl (lv_at hl 1 rfl) ?_
    refine lv_iload hx hb dL_law_459 (lv_at hl 5 rfl) ?_
    refine lv_iconst (v := 4) hx hb dL_law_461 (by decide) ?_
    refine lv_iadd hx hb dL_law_462 ?_
    refine va_sld hx hb hXs hbl hbA hS i4 dL_law_463 ?_
    rw [← hy4]
    refine lv_if_eq (tgt := 471) hx hb dL_law_464 (by decide) (fun z => absurd z c4) (fun _ => ?_)
    refine lv_iconst (v := 1) hx hb dL_law_467 (by decide) ?_
    refine lv_goto (tgt := 472) hx hb dL_law_468 (by decide) ?_
    refine Ct_VRq (x := .int r2) (As := [.int y1, .int y2, .int y3, .int 1]) (rest := []) hC (c_m_select hg) q_m_select a_1135 ⟨Nat.le_of_ble_eq_true rfl, Nat.le_of_ble_eq_true rfl⟩ (mrec hKX.1 hMX) hMX hKX rfl hl.1 (Nat.le_of_ble_eq_true rfl) dL_law_472 ⟨by show 36 + 20 * t + 20 + 0 ≤ 601024; omega, by show 1608 + 200 * t + 200 + 0 ≤ 7293034; omega⟩ hS (fun q hq => AM_A0 hn1 hq) (fun H1 locs hMX1 hz1 hk1 hS => ?_)
    replace hAX := AX.keptA hAX (fun q hq => AL_AM hq) hk1
    replace hO := ox_kept hO AM_o hk1
    replace hMX := hMX1
    clear hMX1
    generalize H1 = H at hAX hMX hO hS ⊢
    refine lv_istore (lv' := [(6, .int r2), (5, .int k), (0, .ref b), (1, .ref x0), (2, .ref (adm 0)), (3, .ref o), (4, .int (nI (5 * t)))]) hx hb dL_law_475 hl (by decide) rfl (fun ls hl => ?_)
    refine lv_aload_n hx hb dL_law_477 rfl (lv_at hl 4 rfl) ?_
    refine Ct_VRq (x := .int k) (As := []) (rest := []) hC (c_m_thrown hth) q_m_thrown a_1078 ⟨Nat.le_of_ble_eq_true rfl, Nat.le_of_ble_eq_true rfl⟩ (mrec hKX.1 hMX) hMX hKX rfl hl.1 (Nat.le_of_ble_eq_true rfl) dL_law_478 ⟨by show 36 + 20 * t + 20 + 0 + 0 ≤ 601024; omega, by show 1608 + 200 * t + 200 + 0 + 0 ≤ 7293034; omega⟩ hS (fun q hq => AM_A0 hn1 hq) (fun H1 locs hMX1 hz1 hk1 hS => ?_)
    replace hAX := AX.keptA hAX (fun q hq => AL_AM hq) hk1
    replace hO := ox_kept hO AM_o hk1
    replace hMX := hMX1
    clear hMX1
    generalize H1 = H at hAX hMX hO hS ⊢
    refine lv_iload hx hb dL_law_481 (lv_at hl 1 rfl) ?_
    refine lv_icmp_eq (tgt := 488) hx hb dL_law_483 (by decide) (fun _ => ?_) (fun z => absurd rfl z)
    refine lv_iload hx hb dL_law_488 (lv_at hl 1 rfl) ?_
    refine lv_if_ne (tgt := 505) hx hb dL_law_490 (by decide) (fun _ => ?_) (fun hk0 => ?_)
    · refine lv_goto (tgt := 1472) hx hb dL_law_505 (by decide) ?_
      refine W.widen (k := 36 + 20 * (t + 1)) (n := 1608 + 200 * (t + 1)) (by omega) (by omega) ?_
      exact KK _ _ _ _ _ _ H locs ls hR1 hAX hMX hO hS (lv_sub hl [2, 3, 4, 5, 6] rfl)
    · have he0 : e0 = 0 := by
        rcases hk with z | z | z | z
        · exact z.1
        · exact absurd (hk0.symm.trans z.2) (by decide)
        · exact absurd (hk0.symm.trans z.2) (by decide)
        · exact absurd (hk0.symm.trans z.2) (by decide)
      refine lv_aload_n hx hb dL_law_493 rfl (lv_at hl 5 rfl) ?_
      refine lv_iconst (v := 0) hx hb dL_law_494 (by decide) ?_
      refine va_lald (tys := tysA cA) hx hb hKX.1 hO 0 2 rfl rfl (by unfold vp_in; decide) dL_law_495 ?_
      refine lv_iload hx hb dL_law_496 (lv_at hl 0 rfl) ?_
      refine lv_i2l (v := r2.toInt64) hx hb dL_law_498 rfl ?_
      refine W.lcmp hx hb dL_law_499 ?_
      rw [show f1 (0 : Int32).toNatClampNeg = r2.toInt64 by rw [← he he0]; exact hf1 he0, lg_cmp_self]
      refine lv_if_eq (tgt := 505) hx hb dL_law_500 (by decide) (fun _ => ?_) (fun z => absurd rfl z)
      refine lv_goto (tgt := 1472) hx hb dL_law_505 (by decide) ?_
      refine W.widen (k := 36 + 20 * (t + 1)) (n := 1608 + 200 * (t + 1)) (by omega) (by omega) ?_
      exact KK _ _ _ _ _ _ H locs ls hR1 hAX hMX hO hS (lv_sub hl [2, 3, 4, 5, 6] rfl)

set_option maxRecDepth 100000 in
set_option maxHeartbeats 4000000 in
theorem lc_drop {p : Program} {l : Launch} {e : Env} {s : State} {m : MethodId} {below : List Frame} {meth : Method} {c : Code} {b L : Nat} {xs : Nat → Int32} {D : va_G} {cA : Nat → ClassId} {R : RT} {x0 o n1 : Nat} {adm : Nat → Nat} (hfl : l.stackTraces = false) (hL : L ≤ 2560) (C0 : lw_At p s m meth c b L xs) (hKX : KX D cA s) (hTX : TX (fun q => s.heap.size ≤ q) s) (hNX : NX s) (hSXR : ∀ S G nt nv M, R S G nt nv M → SX S nt nv) (hR : Sm_drop R) (hn1 : s.heap.size ≤ n1) (hno : n1 ≤ o) {t : Nat} (ht : 5 * t + 5 ≤ L) {S : St} {G : Gt} {nt nv : Nat} {M : St} {f : Nat → Int64} {H : Heap} {locs : List Loc} {ls : Array Slot} (hRR : R S G nt nv M) (hAX : AX D cA (AL s.heap.size n1 o) x0 S G nt nv H) (hMX : MX D cA (AM n1 o) adm M H) (hO : va_P D vwCl [(o, .inl (cA 2, 1, .inr (.inl f)))] H) (hS : va_S (fun q => s.heap.size ≤ q) s.heap H locs) (hl : lv_has ls 7 [(0, .ref b), (1, .ref x0), (2, .ref (adm 0)), (3, .ref o), (4, .int (nI (5 * t)))])
    (KK : ∀ (S : St) (G : Gt) (nt nv : Nat) (M : St) (f : Nat → Int64) (H : Heap) (locs : List Loc) (ls : Array Slot), R S G nt nv M → AX D cA (AL s.heap.size n1 o) x0 S G nt nv H → MX D cA (AM n1 o) adm M H → va_P D vwCl [(o, .inl (cA 2, 1, .inr (.inl f)))] H → va_S (fun q => s.heap.size ≤ q) s.heap H locs → lv_has ls 7 [(0, .ref b), (1, .ref x0), (2, .ref (adm 0)), (3, .ref o), (4, .int (nI (5 * t)))] → W p l e room_1 s m #[Value.ref b] below meth c H locs (36 + 20 * (t + 1)) (1608 + 200 * (t + 1)) (lw_Z below #[Value.ref b] s) (F0 m 1472 ls [])) :
    W p l e room_1 s m #[Value.ref b] below meth c H locs (36 + 20 * t) (1608 + 200 * t) (lw_Z below #[Value.ref b] s) (F0 m 508 ls []) := by
  obtain ⟨hx, hb, hr, hml, hown, hts, hXs, hbl, hlocks, hgv⟩ := id C0
  have hT0 : ∀ w ∈ Cond.initialized "LensbenchLaw" :: ALL, w.before #[Value.ref b] s = true := fun w hw => hts w (by
      rcases List.mem_cons.mp hw with rfl | hw
      · exact (List.mem_filter.mp a_50).1
      · exact (List.mem_filter.mp hw).1)
  have hC : CallFix p m c code 7 s #[Value.ref b] (Cond.initialized "LensbenchLaw" :: ALL) "LensbenchLaw" := ⟨hx, hb, hml, hown, hT0⟩
  have hbA : ¬ (fun q : Nat => s.heap.size ≤ q) b := Nat.not_le.mpr hbl
  have i1 : vp_in (nI (5 * t) + 1) L := by
      rw [show (1 : Int32) = nI 1 from rfl, nI_add]
      exact vp_in_nI (by omega) (by omega)
  obtain ⟨y1, hy1⟩ : ∃ z : Int32, z = xs (nI (5 * t) + 1).toNatClampNeg := ⟨_, rfl⟩
  have i2 : vp_in (nI (5 * t) + 2) L := by
      rw [show (2 : Int32) = nI 2 from rfl, nI_add]
      exact vp_in_nI (by omega) (by omega)
  obtain ⟨y2, hy2⟩ : ∃ z : Int32, z = xs (nI (5 * t) + 2).toNatClampNeg := ⟨_, rfl⟩
  have i3 : vp_in (nI (5 * t) + 3) L := by
      rw [show (3 : Int32) = nI 3 from rfl, nI_add]
      exact vp_in_nI (by omega) (by omega)
  obtain ⟨y3, hy3⟩ : ∃ z : Int32, z = xs (nI (5 * t) + 3).toNatClampNeg := ⟨_, rfl⟩
  refine lv_aload_n hx hb dL_law_508 rfl (lv_at hl 1 rfl) ?_
  refine lv_aload_n hx hb dL_law_509 rfl (lv_at hl 0 rfl) ?_
  refine lv_iload hx hb dL_law_510 (lv_at hl 4 rfl) ?_
  refine lv_iconst (v := 1) hx hb dL_law_512 (by decide) ?_
  refine lv_iadd hx hb dL_law_513 ?_
  refine va_sld hx hb hXs hbl hbA hS i1 dL_law_514 ?_
  rw [← hy1]
  refine lv_aload_n hx hb dL_law_515 rfl (lv_at hl 0 rfl) ?_
  refine lv_iload hx hb dL_law_516 (lv_at hl 4 rfl) ?_
  refine lv_iconst (v := 2) hx hb dL_law_518 (by decide) ?_
  refine lv_iadd hx hb dL_law_519 ?_
  refine va_sld hx hb hXs hbl hbA hS i2 dL_law_520 ?_
  rw [← hy2]
  refine lv_aload_n hx hb dL_law_521 rfl (lv_at hl 0 rfl) ?_
  refine lv_iload hx hb dL_law_522 (lv_at hl 4 rfl) ?_
  refine lv_iconst (v := 3) hx hb dL_law_524 (by decide) ?_
  refine lv_iadd hx hb dL_law_525 ?_
  refine va_sld hx hb hXs hbl hbA hS i3 dL_law_526 ?_
  rw [← hy3]
  refine lv_aload_n hx hb dL_law_527 rfl (lv_at hl 3 rfl) ?_
  obtain ⟨e0, r, k, r2, S1, M1, G1, nt1, nv1, hf, hg, hth, hk, he, hR1⟩ := hR S G nt nv M y1 y2 y3 hRR
  refine Ct_SW (As := [.ref x0, .int y1, .int y2, .int y3, .ref o]) (rest := []) hC (w_drop (A := AL s.heap.size n1 o) (x0 := x0) (o := o) (f := f) hfl (AL_o hno) (hSXR _ _ _ _ _ hRR) hf hk) qw_drop a_590 ⟨Nat.le_of_ble_eq_true rfl, Nat.le_of_ble_eq_true rfl⟩ ⟨hAX, fun q hq => Or.inr (Nat.lt_of_lt_of_le (hO 0 _ rfl).lt hq), hO⟩ hKX hTX hNX rfl hl.1 (Nat.le_of_ble_eq_true rfl) dL_law_528 ⟨by show 36 + 20 * t + 20 ≤ 601024; omega, by show 1608 + 200 * t + 200 ≤ 7293034; omega⟩ hS (fun q hq => AL_A0 hn1 hno hq) (fun H1 locs hQ hz1 hk1 hS => ?_)
  obtain ⟨hAX, f1, hf1, hO⟩ := hQ
  replace hMX := MX.keptB hMX (fun q hq => AM_AL hq) hk1
  generalize H1 = H at hAX hMX hO hS ⊢
  refine lv_istore (lv' := [(5, .int k), (0, .ref b), (1, .ref x0), (2, .ref (adm 0)), (3, .ref o), (4, .int (nI (5 * t)))]) hx hb dL_law_531 hl (by decide) rfl (fun ls hl => ?_)
  refine lv_aload_n hx hb dL_law_533 rfl (lv_at hl 3 rfl) ?_
  refine lv_aload_n hx hb dL_law_534 rfl (lv_at hl 1 rfl) ?_
  refine lv_iload hx hb dL_law_535 (lv_at hl 5 rfl) ?_
  refine lv_iconst (v := 1) hx hb dL_law_537 (by decide) ?_
  refine lv_iadd hx hb dL_law_538 ?_
  refine va_sld hx hb hXs hbl hbA hS i1 dL_law_539 ?_
  rw [← hy1]
  refine lv_aload_n hx hb dL_law_540 rfl (lv_at hl 1 rfl) ?_
  refine lv_iload hx hb dL_law_541 (lv_at hl 5 rfl) ?_
  refine lv_iconst (v := 2) hx hb dL_law_543 (by decide) ?_
  refine lv_iadd hx hb dL_law_544 ?_
  refine va_sld hx hb hXs hbl hbA hS i2 dL_law_545 ?_
  rw [← hy2]
  refine lv_aload_n hx hb dL_law_546 rfl (lv_at hl 1 rfl) ?_
  refine lv_iload hx hb dL_law_547 (lv_at hl 5 rfl) ?_
  refine lv_iconst (v := 3) hx hb dL_law_549 (by decide) ?_
  refine lv_iadd hx hb dL_law_550 ?_
  refine va_sld hx hb hXs hbl hbA hS i3 dL_law_551 ?_
  rw [← hy3]
  refine Ct_VRq (x := .int r2) (As := [.int y1, .int y2, .int y3]) (rest := []) hC (c_m_drop hg) q_m_drop a_1146 ⟨Nat.le_of_ble_eq_true rfl, Nat.le_of_ble_eq_true rfl⟩ (mrec hKX.1 hMX) hMX hKX rfl hl.1 (Nat.le_of_ble_eq_true rfl) dL_law_552 ⟨by show 36 + 20 * t + 20 + 0 ≤ 601024; omega, by show 1608 + 200 * t + 200 + 0 ≤ 7293034; omega⟩ hS (fun q hq => AM_A0 hn1 hq) (fun H1 locs hMX1 hz1 hk1 hS => ?_)
  replace hAX := AX.keptA hAX (fun q hq => AL_AM hq) hk1
  replace hO := ox_kept hO AM_o hk1
  replace hMX := hMX1
  clear hMX1
  generalize H1 = H at hAX hMX hO hS ⊢
  refine lv_istore (lv' := [(6, .int r2), (5, .int k), (0, .ref b), (1, .ref x0), (2, .ref (adm 0)), (3, .ref o), (4, .int (nI (5 * t)))]) hx hb dL_law_555 hl (by decide) rfl (fun ls hl => ?_)
  refine lv_aload_n hx hb dL_law_557 rfl (lv_at hl 4 rfl) ?_
  refine Ct_VRq (x := .int k) (As := []) (rest := []) hC (c_m_thrown hth) q_m_thrown a_1078 ⟨Nat.le_of_ble_eq_true rfl, Nat.le_of_ble_eq_true rfl⟩ (mrec hKX.1 hMX) hMX hKX rfl hl.1 (Nat.le_of_ble_eq_true rfl) dL_law_558 ⟨by show 36 + 20 * t + 20 + 0 + 0 ≤ 601024; omega, by show 1608 + 200 * t + 200 + 0 + 0 ≤ 7293034; omega⟩ hS (fun q hq => AM_A0 hn1 hq) (fun H1 locs hMX1 hz1 hk1 hS => ?_)
  replace hAX := AX.keptA hAX (fun q hq => AL_AM hq) hk1
  replace hO := ox_kept hO AM_o hk1
  replace hMX := hMX1
  clear hMX1
  generalize H1 = H at hAX hMX hO hS ⊢
  refine lv_iload hx hb dL_law_561 (lv_at hl 1 rfl) ?_
  refine lv_icmp_eq (tgt := 568) hx hb dL_law_563 (by decide) (fun _ => ?_) (fun z => absurd rfl z)
  refine lv_iload hx hb dL_law_568 (lv_at hl 1 rfl) ?_
  refine lv_if_ne (tgt := 585) hx hb dL_law_570 (by decide) (fun _ => ?_) (fun hk0 => ?_)
  · refine lv_goto (tgt := 1472) hx hb dL_law_585 (by decide) ?_
    refine W.widen (k := 36 + 20 * (t + 1)) (n := 1608 + 200 * (t + 1)) (by omega) (by omega) ?_
    exact KK _ _ _ _ _ _ H locs ls hR1 hAX hMX hO hS (lv_sub hl [2, 3, 4, 5, 6] rfl)
  · have he0 : e0 = 0 := by
      rcases hk with z | z | z | z
      · exact z.1
      · exact absurd (hk0.symm.trans z.2) (by decide)
      · exact absurd (hk0.symm.trans z.2) (by decide)
      · exact absurd (hk0.symm.trans z.2) (by decide)
    refine lv_aload_n hx hb dL_law_573 rfl (lv_at hl 5 rfl) ?_
    refine lv_iconst (v := 0) hx hb dL_law_574 (by decide) ?_
    refine va_lald (tys := tysA cA) hx hb hKX.1 hO 0 2 rfl rfl (by unfold vp_in; decide) dL_law_575 ?_
    refine lv_iload hx hb dL_law_576 (lv_at hl 0 rfl) ?_
    refine lv_i2l (v := r2.toInt64) hx hb dL_law_578 rfl ?_
    refine W.lcmp hx hb dL_law_579 ?_
    rw [show f1 (0 : Int32).toNatClampNeg = r2.toInt64 by rw [← he he0]; exact hf1 he0, lg_cmp_self]
    refine lv_if_eq (tgt := 585) hx hb dL_law_580 (by decide) (fun _ => ?_) (fun z => absurd rfl z)
    refine lv_goto (tgt := 1472) hx hb dL_law_585 (by decide) ?_
    refine W.widen (k := 36 + 20 * (t + 1)) (n := 1608 + 200 * (t + 1)) (by omega) (by omega) ?_
    exact KK _ _ _ _ _ _ H locs ls hR1 hAX hMX hO hS (lv_sub hl [2, 3, 4, 5, 6] rfl)

set_option maxRecDepth 100000 in
set_option maxHeartbeats 4000000 in
theorem lc_join {p : Program} {l : Launch} {e : Env} {s : State} {m : MethodId} {below : List Frame} {meth : Method} {c : Code} {b L : Nat} {xs : Nat → Int32} {D : va_G} {cA : Nat → ClassId} {R : RT} {x0 o n1 : Nat} {adm : Nat → Nat} (hfl : l.stackTraces = false) (hL : L ≤ 2560) (C0 : lw_At p s m meth c b L xs) (hKX : KX D cA s) (hTX : TX (fun q => s.heap.size ≤ q) s) (hNX : NX s) (hSXR : ∀ S G nt nv M, R S G nt nv M → SX S nt nv) (hR : Sm_join R) (hn1 : s.heap.size ≤ n1) (hno : n1 ≤ o) {t : Nat} (ht : 5 * t + 5 ≤ L) {S : St} {G : Gt} {nt nv : Nat} {M : St} {f : Nat → Int64} {H : Heap} {locs : List Loc} {ls : Array Slot} (hRR : R S G nt nv M) (hAX : AX D cA (AL s.heap.size n1 o) x0 S G nt nv H) (hMX : MX D cA (AM n1 o) adm M H) (hO : va_P D vwCl [(o, .inl (cA 2, 1, .inr (.inl f)))] H) (hS : va_S (fun q => s.heap.size ≤ q) s.heap H locs) (hl : lv_has ls 7 [(0, .ref b), (1, .ref x0), (2, .ref (adm 0)), (3, .ref o), (4, .int (nI (5 * t)))])
    (KK : ∀ (S : St) (G : Gt) (nt nv : Nat) (M : St) (f : Nat → Int64) (H : Heap) (locs : List Loc) (ls : Array Slot), R S G nt nv M → AX D cA (AL s.heap.size n1 o) x0 S G nt nv H → MX D cA (AM n1 o) adm M H → va_P D vwCl [(o, .inl (cA 2, 1, .inr (.inl f)))] H → va_S (fun q => s.heap.size ≤ q) s.heap H locs → lv_has ls 7 [(0, .ref b), (1, .ref x0), (2, .ref (adm 0)), (3, .ref o), (4, .int (nI (5 * t)))] → W p l e room_1 s m #[Value.ref b] below meth c H locs (36 + 20 * (t + 1)) (1608 + 200 * (t + 1)) (lw_Z below #[Value.ref b] s) (F0 m 1472 ls [])) :
    W p l e room_1 s m #[Value.ref b] below meth c H locs (36 + 20 * t) (1608 + 200 * t) (lw_Z below #[Value.ref b] s) (F0 m 588 ls []) := by
  obtain ⟨hx, hb, hr, hml, hown, hts, hXs, hbl, hlocks, hgv⟩ := id C0
  have hT0 : ∀ w ∈ Cond.initialized "LensbenchLaw" :: ALL, w.before #[Value.ref b] s = true := fun w hw => hts w (by
      rcases List.mem_cons.mp hw with rfl | hw
      · exact (List.mem_filter.mp a_50).1
      · exact (List.mem_filter.mp hw).1)
  have hC : CallFix p m c code 7 s #[Value.ref b] (Cond.initialized "LensbenchLaw" :: ALL) "LensbenchLaw" := ⟨hx, hb, hml, hown, hT0⟩
  have hbA : ¬ (fun q : Nat => s.heap.size ≤ q) b := Nat.not_le.mpr hbl
  have i1 : vp_in (nI (5 * t) + 1) L := by
      rw [show (1 : Int32) = nI 1 from rfl, nI_add]
      exact vp_in_nI (by omega) (by omega)
  obtain ⟨y1, hy1⟩ : ∃ z : Int32, z = xs (nI (5 * t) + 1).toNatClampNeg := ⟨_, rfl⟩
  have i2 : vp_in (nI (5 * t) + 2) L := by
      rw [show (2 : Int32) = nI 2 from rfl, nI_add]
      exact vp_in_nI (by omega) (by omega)
  obtain ⟨y2, hy2⟩ : ∃ z : Int32, z = xs (nI (5 * t) + 2).toNatClampNeg := ⟨_, rfl⟩
  refine lv_aload_n hx hb dL_law_588 rfl (lv_at hl 1 rfl) ?_
  refine lv_aload_n hx hb dL_law_589 rfl (lv_at hl 0 rfl) ?_
  refine lv_iload hx hb dL_law_590 (lv_at hl 4 rfl) ?_
  refine lv_iconst (v := 1) hx hb dL_law_592 (by decide) ?_
  refine lv_iadd hx hb dL_law_593 ?_
  refine va_sld hx hb hXs hbl hbA hS i1 dL_law_594 ?_
  rw [← hy1]
  refine lv_aload_n hx hb dL_law_595 rfl (lv_at hl 0 rfl) ?_
  refine lv_iload hx hb dL_law_596 (lv_at hl 4 rfl) ?_
  refine lv_iconst (v := 2) hx hb dL_law_598 (by decide) ?_
  refine lv_iadd hx hb dL_law_599 ?_
  refine va_sld hx hb hXs hbl hbA hS i2 dL_law_600 ?_
  rw [← hy2]
  refine lv_aload_n hx hb dL_law_601 rfl (lv_at hl 3 rfl) ?_
  obtain ⟨e0, r, k, r2, S1, M1, G1, nt1, nv1, hf, hg, hth, hk, he, hR1⟩ := hR S G nt nv M y1 y2 hRR
  refine Ct_SW (As := [.ref x0, .int y1, .int y2, .ref o]) (rest := []) hC (w_join (A := AL s.heap.size n1 o) (x0 := x0) (o := o) (f := f) hfl (AL_o hno) (hSXR _ _ _ _ _ hRR) hf hk) qw_join a_621 ⟨Nat.le_of_ble_eq_true rfl, Nat.le_of_ble_eq_true rfl⟩ ⟨hAX, fun q hq => Or.inr (Nat.lt_of_lt_of_le (hO 0 _ rfl).lt hq), hO⟩ hKX hTX hNX rfl hl.1 (Nat.le_of_ble_eq_true rfl) dL_law_602 ⟨by show 36 + 20 * t + 20 ≤ 601024; omega, by show 1608 + 200 * t + 200 ≤ 7293034; omega⟩ hS (fun q hq => AL_A0 hn1 hno hq) (fun H1 locs hQ hz1 hk1 hS => ?_)
  obtain ⟨hAX, f1, hf1, hO⟩ := hQ
  replace hMX := MX.keptB hMX (fun q hq => AM_AL hq) hk1
  generalize H1 = H at hAX hMX hO hS ⊢
  refine lv_istore (lv' := [(5, .int k), (0, .ref b), (1, .ref x0), (2, .ref (adm 0)), (3, .ref o), (4, .int (nI (5 * t)))]) hx hb dL_law_605 hl (by decide) rfl (fun ls hl => ?_)
  refine lv_aload_n hx hb dL_law_607 rfl (lv_at hl 3 rfl) ?_
  refine lv_aload_n hx hb dL_law_608 rfl (lv_at hl 1 rfl) ?_
  refine lv_iload hx hb dL_law_609 (lv_at hl 5 rfl) ?_
  refine lv_iconst (v := 1) hx hb dL_law_611 (by decide) ?_
  refine lv_iadd hx hb dL_law_612 ?_
  refine va_sld hx hb hXs hbl hbA hS i1 dL_law_613 ?_
  rw [← hy1]
  refine lv_aload_n hx hb dL_law_614 rfl (lv_at hl 1 rfl) ?_
  refine lv_iload hx hb dL_law_615 (lv_at hl 5 rfl) ?_
  refine lv_iconst (v := 2) hx hb dL_law_617 (by decide) ?_
  refine lv_iadd hx hb dL_law_618 ?_
  refine va_sld hx hb hXs hbl hbA hS i2 dL_law_619 ?_
  rw [← hy2]
  refine Ct_VRq (x := .int r2) (As := [.int y1, .int y2]) (rest := []) hC (c_m_join hg) q_m_join a_1150 ⟨Nat.le_of_ble_eq_true rfl, Nat.le_of_ble_eq_true rfl⟩ (mrec hKX.1 hMX) hMX hKX rfl hl.1 (Nat.le_of_ble_eq_true rfl) dL_law_620 ⟨by show 36 + 20 * t + 20 + 0 ≤ 601024; omega, by show 1608 + 200 * t + 200 + 0 ≤ 7293034; omega⟩ hS (fun q hq => AM_A0 hn1 hq) (fun H1 locs hMX1 hz1 hk1 hS => ?_)
  replace hAX := AX.keptA hAX (fun q hq => AL_AM hq) hk1
  replace hO := ox_kept hO AM_o hk1
  replace hMX := hMX1
  clear hMX1
  generalize H1 = H at hAX hMX hO hS ⊢
  refine lv_istore (lv' := [(6, .int r2), (5, .int k), (0, .ref b), (1, .ref x0), (2, .ref (adm 0)), (3, .ref o), (4, .int (nI (5 * t)))]) hx hb dL_law_623 hl (by decide) rfl (fun ls hl => ?_)
  refine lv_aload_n hx hb dL_law_625 rfl (lv_at hl 4 rfl) ?_
  refine Ct_VRq (x := .int k) (As := []) (rest := []) hC (c_m_thrown hth) q_m_thrown a_1078 ⟨Nat.le_of_ble_eq_true rfl, Nat.le_of_ble_eq_true rfl⟩ (mrec hKX.1 hMX) hMX hKX rfl hl.1 (Nat.le_of_ble_eq_true rfl) dL_law_626 ⟨by show 36 + 20 * t + 20 + 0 + 0 ≤ 601024; omega, by show 1608 + 200 * t + 200 + 0 + 0 ≤ 7293034; omega⟩ hS (fun q hq => AM_A0 hn1 hq) (fun H1 locs hMX1 hz1 hk1 hS => ?_)
  replace hAX := AX.keptA hAX (fun q hq => AL_AM hq) hk1
  replace hO := ox_kept hO AM_o hk1
  replace hMX := hMX1
  clear hMX1
  generalize H1 = H at hAX hMX hO hS ⊢
  refine lv_iload hx hb dL_law_629 (lv_at hl 1 rfl) ?_
  refine lv_icmp_eq (tgt := 636) hx hb dL_law_631 (by decide) (fun _ => ?_) (fun z => absurd rfl z)
  refine lv_iload hx hb dL_law_636 (lv_at hl 1 rfl) ?_
  refine lv_if_ne (tgt := 653) hx hb dL_law_638 (by decide) (fun _ => ?_) (fun hk0 => ?_)
  · refine lv_goto (tgt := 1472) hx hb dL_law_653 (by decide) ?_
    refine W.widen (k := 36 + 20 * (t + 1)) (n := 1608 + 200 * (t + 1)) (by omega) (by omega) ?_
    exact KK _ _ _ _ _ _ H locs ls hR1 hAX hMX hO hS (lv_sub hl [2, 3, 4, 5, 6] rfl)
  · have he0 : e0 = 0 := by
      rcases hk with z | z | z | z
      · exact z.1
      · exact absurd (hk0.symm.trans z.2) (by decide)
      · exact absurd (hk0.symm.trans z.2) (by decide)
      · exact absurd (hk0.symm.trans z.2) (by decide)
    refine lv_aload_n hx hb dL_law_641 rfl (lv_at hl 5 rfl) ?_
    refine lv_iconst (v := 0) hx hb dL_law_642 (by decide) ?_
    refine va_lald (tys := tysA cA) hx hb hKX.1 hO 0 2 rfl rfl (by unfold vp_in; decide) dL_law_643 ?_
    refine lv_iload hx hb dL_law_644 (lv_at hl 0 rfl) ?_
    refine lv_i2l (v := r2.toInt64) hx hb dL_law_646 rfl ?_
    refine W.lcmp hx hb dL_law_647 ?_
    rw [show f1 (0 : Int32).toNatClampNeg = r2.toInt64 by rw [← he he0]; exact hf1 he0, lg_cmp_self]
    refine lv_if_eq (tgt := 653) hx hb dL_law_648 (by decide) (fun _ => ?_) (fun z => absurd rfl z)
    refine lv_goto (tgt := 1472) hx hb dL_law_653 (by decide) ?_
    refine W.widen (k := 36 + 20 * (t + 1)) (n := 1608 + 200 * (t + 1)) (by omega) (by omega) ?_
    exact KK _ _ _ _ _ _ H locs ls hR1 hAX hMX hO hS (lv_sub hl [2, 3, 4, 5, 6] rfl)

set_option maxRecDepth 100000 in
set_option maxHeartbeats 4000000 in
theorem lc_columns {p : Program} {l : Launch} {e : Env} {s : State} {m : MethodId} {below : List Frame} {meth : Method} {c : Code} {b L : Nat} {xs : Nat → Int32} {D : va_G} {cA : Nat → ClassId} {R : RT} {x0 o n1 : Nat} {adm : Nat → Nat} (hfl : l.stackTraces = false) (hL : L ≤ 2560) (C0 : lw_At p s m meth c b L xs) (hKX : KX D cA s) (hTX : TX (fun q => s.heap.size ≤ q) s) (hNX : NX s) (hSXR : ∀ S G nt nv M, R S G nt nv M → SX S nt nv) (hR : Sm_columns R) (hn1 : s.heap.size ≤ n1) (hno : n1 ≤ o) {t : Nat} (ht : 5 * t + 5 ≤ L) {S : St} {G : Gt} {nt nv : Nat} {M : St} {f : Nat → Int64} {H : Heap} {locs : List Loc} {ls : Array Slot} (hRR : R S G nt nv M) (hAX : AX D cA (AL s.heap.size n1 o) x0 S G nt nv H) (hMX : MX D cA (AM n1 o) adm M H) (hO : va_P D vwCl [(o, .inl (cA 2, 1, .inr (.inl f)))] H) (hS : va_S (fun q => s.heap.size ≤ q) s.heap H locs) (hl : lv_has ls 7 [(0, .ref b), (1, .ref x0), (2, .ref (adm 0)), (3, .ref o), (4, .int (nI (5 * t)))])
    (KK : ∀ (S : St) (G : Gt) (nt nv : Nat) (M : St) (f : Nat → Int64) (H : Heap) (locs : List Loc) (ls : Array Slot), R S G nt nv M → AX D cA (AL s.heap.size n1 o) x0 S G nt nv H → MX D cA (AM n1 o) adm M H → va_P D vwCl [(o, .inl (cA 2, 1, .inr (.inl f)))] H → va_S (fun q => s.heap.size ≤ q) s.heap H locs → lv_has ls 7 [(0, .ref b), (1, .ref x0), (2, .ref (adm 0)), (3, .ref o), (4, .int (nI (5 * t)))] → W p l e room_1 s m #[Value.ref b] below meth c H locs (36 + 20 * (t + 1)) (1608 + 200 * (t + 1)) (lw_Z below #[Value.ref b] s) (F0 m 1472 ls [])) :
    W p l e room_1 s m #[Value.ref b] below meth c H locs (36 + 20 * t) (1608 + 200 * t) (lw_Z below #[Value.ref b] s) (F0 m 656 ls []) := by
  obtain ⟨hx, hb, hr, hml, hown, hts, hXs, hbl, hlocks, hgv⟩ := id C0
  have hT0 : ∀ w ∈ Cond.initialized "LensbenchLaw" :: ALL, w.before #[Value.ref b] s = true := fun w hw => hts w (by
      rcases List.mem_cons.mp hw with rfl | hw
      · exact (List.mem_filter.mp a_50).1
      · exact (List.mem_filter.mp hw).1)
  have hC : CallFix p m c code 7 s #[Value.ref b] (Cond.initialized "LensbenchLaw" :: ALL) "LensbenchLaw" := ⟨hx, hb, hml, hown, hT0⟩
  have hbA : ¬ (fun q : Nat => s.heap.size ≤ q) b := Nat.not_le.mpr hbl
  have i1 : vp_in (nI (5 * t) + 1) L := by
      rw [show (1 : Int32) = nI 1 from rfl, nI_add]
      exact vp_in_nI (by omega) (by omega)
  obtain ⟨y1, hy1⟩ : ∃ z : Int32, z = xs (nI (5 * t) + 1).toNatClampNeg := ⟨_, rfl⟩
  refine lv_aload_n hx hb dL_law_656 rfl (lv_at hl 1 rfl) ?_
  refine lv_aload_n hx hb dL_law_657 rfl (lv_at hl 0 rfl) ?_
  refine lv_iload hx hb dL_law_658 (lv_at hl 4 rfl) ?_
  refine lv_iconst (v := 1) hx hb dL_law_660 (by decide) ?_
  refine lv_iadd hx hb dL_law_661 ?_
  refine va_sld hx hb hXs hbl hbA hS i1 dL_law_662 ?_
  rw [← hy1]
  refine lv_aload_n hx hb dL_law_663 rfl (lv_at hl 3 rfl) ?_
  obtain ⟨e0, r, k, r2, S1, M1, hf, hg, hth, hk, he, hR1⟩ := hR S G nt nv M y1 hRR
  refine Ct_SW (As := [.ref x0, .int y1, .ref o]) (rest := []) hC (w_columns (A := AL s.heap.size n1 o) (x0 := x0) (o := o) (f := f) hfl (AL_o hno) (hSXR _ _ _ _ _ hRR) hf hk) qw_columns a_653 ⟨Nat.le_of_ble_eq_true rfl, Nat.le_of_ble_eq_true rfl⟩ ⟨hAX, fun q hq => Or.inr (Nat.lt_of_lt_of_le (hO 0 _ rfl).lt hq), hO⟩ hKX hTX hNX rfl hl.1 (Nat.le_of_ble_eq_true rfl) dL_law_664 ⟨by show 36 + 20 * t + 20 ≤ 601024; omega, by show 1608 + 200 * t + 200 ≤ 7293034; omega⟩ hS (fun q hq => AL_A0 hn1 hno hq) (fun H1 locs hQ hz1 hk1 hS => ?_)
  obtain ⟨hAX, f1, hf1, hO⟩ := hQ
  replace hMX := MX.keptB hMX (fun q hq => AM_AL hq) hk1
  generalize H1 = H at hAX hMX hO hS ⊢
  refine lv_istore (lv' := [(5, .int k), (0, .ref b), (1, .ref x0), (2, .ref (adm 0)), (3, .ref o), (4, .int (nI (5 * t)))]) hx hb dL_law_667 hl (by decide) rfl (fun ls hl => ?_)
  refine lv_aload_n hx hb dL_law_669 rfl (lv_at hl 3 rfl) ?_
  refine lv_aload_n hx hb dL_law_670 rfl (lv_at hl 1 rfl) ?_
  refine lv_iload hx hb dL_law_671 (lv_at hl 5 rfl) ?_
  refine lv_iconst (v := 1) hx hb dL_law_673 (by decide) ?_
  refine lv_iadd hx hb dL_law_674 ?_
  refine va_sld hx hb hXs hbl hbA hS i1 dL_law_675 ?_
  rw [← hy1]
  refine Ct_VRq (x := .int r2) (As := [.int y1]) (rest := []) hC (c_m_columns hg) q_m_columns a_1154 ⟨Nat.le_of_ble_eq_true rfl, Nat.le_of_ble_eq_true rfl⟩ (mrec hKX.1 hMX) hMX hKX rfl hl.1 (Nat.le_of_ble_eq_true rfl) dL_law_676 ⟨by show 36 + 20 * t + 20 + 0 ≤ 601024; omega, by show 1608 + 200 * t + 200 + 0 ≤ 7293034; omega⟩ hS (fun q hq => AM_A0 hn1 hq) (fun H1 locs hMX1 hz1 hk1 hS => ?_)
  replace hAX := AX.keptA hAX (fun q hq => AL_AM hq) hk1
  replace hO := ox_kept hO AM_o hk1
  replace hMX := hMX1
  clear hMX1
  generalize H1 = H at hAX hMX hO hS ⊢
  refine lv_istore (lv' := [(6, .int r2), (5, .int k), (0, .ref b), (1, .ref x0), (2, .ref (adm 0)), (3, .ref o), (4, .int (nI (5 * t)))]) hx hb dL_law_679 hl (by decide) rfl (fun ls hl => ?_)
  refine lv_aload_n hx hb dL_law_681 rfl (lv_at hl 4 rfl) ?_
  refine Ct_VRq (x := .int k) (As := []) (rest := []) hC (c_m_thrown hth) q_m_thrown a_1078 ⟨Nat.le_of_ble_eq_true rfl, Nat.le_of_ble_eq_true rfl⟩ (mrec hKX.1 hMX) hMX hKX rfl hl.1 (Nat.le_of_ble_eq_true rfl) dL_law_682 ⟨by show 36 + 20 * t + 20 + 0 + 0 ≤ 601024; omega, by show 1608 + 200 * t + 200 + 0 + 0 ≤ 7293034; omega⟩ hS (fun q hq => AM_A0 hn1 hq) (fun H1 locs hMX1 hz1 hk1 hS => ?_)
  replace hAX := AX.keptA hAX (fun q hq => AL_AM hq) hk1
  replace hO := ox_kept hO AM_o hk1
  replace hMX := hMX1
  clear hMX1
  generalize H1 = H at hAX hMX hO hS ⊢
  refine lv_iload hx hb dL_law_685 (lv_at hl 1 rfl) ?_
  refine lv_icmp_eq (tgt := 692) hx hb dL_law_687 (by decide) (fun _ => ?_) (fun z => absurd rfl z)
  refine lv_iload hx hb dL_law_692 (lv_at hl 1 rfl) ?_
  refine lv_if_ne (tgt := 709) hx hb dL_law_694 (by decide) (fun _ => ?_) (fun hk0 => ?_)
  · refine lv_goto (tgt := 1472) hx hb dL_law_709 (by decide) ?_
    refine W.widen (k := 36 + 20 * (t + 1)) (n := 1608 + 200 * (t + 1)) (by omega) (by omega) ?_
    exact KK _ _ _ _ _ _ H locs ls hR1 hAX hMX hO hS (lv_sub hl [2, 3, 4, 5, 6] rfl)
  · have he0 : e0 = 0 := by
      rcases hk with z | z
      · exact z.1
      · exact absurd (hk0.symm.trans z.2) (by decide)
    refine lv_aload_n hx hb dL_law_697 rfl (lv_at hl 5 rfl) ?_
    refine lv_iconst (v := 0) hx hb dL_law_698 (by decide) ?_
    refine va_lald (tys := tysA cA) hx hb hKX.1 hO 0 2 rfl rfl (by unfold vp_in; decide) dL_law_699 ?_
    refine lv_iload hx hb dL_law_700 (lv_at hl 0 rfl) ?_
    refine lv_i2l (v := r2.toInt64) hx hb dL_law_702 rfl ?_
    refine W.lcmp hx hb dL_law_703 ?_
    rw [show f1 (0 : Int32).toNatClampNeg = r2.toInt64 by rw [← he he0]; exact hf1 he0, lg_cmp_self]
    refine lv_if_eq (tgt := 709) hx hb dL_law_704 (by decide) (fun _ => ?_) (fun z => absurd rfl z)
    refine lv_goto (tgt := 1472) hx hb dL_law_709 (by decide) ?_
    refine W.widen (k := 36 + 20 * (t + 1)) (n := 1608 + 200 * (t + 1)) (by omega) (by omega) ?_
    exact KK _ _ _ _ _ _ H locs ls hR1 hAX hMX hO hS (lv_sub hl [2, 3, 4, 5, 6] rfl)

set_option maxRecDepth 100000 in
set_option maxHeartbeats 4000000 in
theorem lc_key {p : Program} {l : Launch} {e : Env} {s : State} {m : MethodId} {below : List Frame} {meth : Method} {c : Code} {b L : Nat} {xs : Nat → Int32} {D : va_G} {cA : Nat → ClassId} {R : RT} {x0 o n1 : Nat} {adm : Nat → Nat} (hfl : l.stackTraces = false) (hL : L ≤ 2560) (C0 : lw_At p s m meth c b L xs) (hKX : KX D cA s) (hTX : TX (fun q => s.heap.size ≤ q) s) (hNX : NX s) (hSXR : ∀ S G nt nv M, R S G nt nv M → SX S nt nv) (hR : Sm_key R) (hn1 : s.heap.size ≤ n1) (hno : n1 ≤ o) {t : Nat} (ht : 5 * t + 5 ≤ L) {S : St} {G : Gt} {nt nv : Nat} {M : St} {f : Nat → Int64} {H : Heap} {locs : List Loc} {ls : Array Slot} (hRR : R S G nt nv M) (hAX : AX D cA (AL s.heap.size n1 o) x0 S G nt nv H) (hMX : MX D cA (AM n1 o) adm M H) (hO : va_P D vwCl [(o, .inl (cA 2, 1, .inr (.inl f)))] H) (hS : va_S (fun q => s.heap.size ≤ q) s.heap H locs) (hl : lv_has ls 7 [(0, .ref b), (1, .ref x0), (2, .ref (adm 0)), (3, .ref o), (4, .int (nI (5 * t)))])
    (KK : ∀ (S : St) (G : Gt) (nt nv : Nat) (M : St) (f : Nat → Int64) (H : Heap) (locs : List Loc) (ls : Array Slot), R S G nt nv M → AX D cA (AL s.heap.size n1 o) x0 S G nt nv H → MX D cA (AM n1 o) adm M H → va_P D vwCl [(o, .inl (cA 2, 1, .inr (.inl f)))] H → va_S (fun q => s.heap.size ≤ q) s.heap H locs → lv_has ls 7 [(0, .ref b), (1, .ref x0), (2, .ref (adm 0)), (3, .ref o), (4, .int (nI (5 * t)))] → W p l e room_1 s m #[Value.ref b] below meth c H locs (36 + 20 * (t + 1)) (1608 + 200 * (t + 1)) (lw_Z below #[Value.ref b] s) (F0 m 1472 ls [])) :
    W p l e room_1 s m #[Value.ref b] below meth c H locs (36 + 20 * t) (1608 + 200 * t) (lw_Z below #[Value.ref b] s) (F0 m 712 ls []) := by
  obtain ⟨hx, hb, hr, hml, hown, hts, hXs, hbl, hlocks, hgv⟩ := id C0
  have hT0 : ∀ w ∈ Cond.initialized "LensbenchLaw" :: ALL, w.before #[Value.ref b] s = true := fun w hw => hts w (by
      rcases List.mem_cons.mp hw with rfl | hw
      · exact (List.mem_filter.mp a_50).1
      · exact (List.mem_filter.mp hw).1)
  have hC : CallFix p m c code 7 s #[Value.ref b] (Cond.initialized "LensbenchLaw" :: ALL) "LensbenchLaw" := ⟨hx, hb, hml, hown, hT0⟩
  have hbA : ¬ (fun q : Nat => s.heap.size ≤ q) b := Nat.not_le.mpr hbl
  have i1 : vp_in (nI (5 * t) + 1) L := by
      rw [show (1 : Int32) = nI 1 from rfl, nI_add]
      exact vp_in_nI (by omega) (by omega)
  obtain ⟨y1, hy1⟩ : ∃ z : Int32, z = xs (nI (5 * t) + 1).toNatClampNeg := ⟨_, rfl⟩
  refine lv_aload_n hx hb dL_law_712 rfl (lv_at hl 1 rfl) ?_
  refine lv_aload_n hx hb dL_law_713 rfl (lv_at hl 0 rfl) ?_
  refine lv_iload hx hb dL_law_714 (lv_at hl 4 rfl) ?_
  refine lv_iconst (v := 1) hx hb dL_law_716 (by decide) ?_
  refine lv_iadd hx hb dL_law_717 ?_
  refine va_sld hx hb hXs hbl hbA hS i1 dL_law_718 ?_
  rw [← hy1]
  refine lv_aload_n hx hb dL_law_719 rfl (lv_at hl 3 rfl) ?_
  obtain ⟨e0, r, k, r2, S1, M1, hf, hg, hth, hk, he, hR1⟩ := hR S G nt nv M y1 hRR
  refine Ct_SW (As := [.ref x0, .int y1, .ref o]) (rest := []) hC (w_key (A := AL s.heap.size n1 o) (x0 := x0) (o := o) (f := f) hfl (AL_o hno) (hSXR _ _ _ _ _ hRR) hf hk) qw_key a_660 ⟨Nat.le_of_ble_eq_true rfl, Nat.le_of_ble_eq_true rfl⟩ ⟨hAX, fun q hq => Or.inr (Nat.lt_of_lt_of_le (hO 0 _ rfl).lt hq), hO⟩ hKX hTX hNX rfl hl.1 (Nat.le_of_ble_eq_true rfl) dL_law_720 ⟨by show 36 + 20 * t + 20 ≤ 601024; omega, by show 1608 + 200 * t + 200 ≤ 7293034; omega⟩ hS (fun q hq => AL_A0 hn1 hno hq) (fun H1 locs hQ hz1 hk1 hS => ?_)
  obtain ⟨hAX, f1, hf1, hO⟩ := hQ
  replace hMX := MX.keptB hMX (fun q hq => AM_AL hq) hk1
  generalize H1 = H at hAX hMX hO hS ⊢
  refine lv_istore (lv' := [(5, .int k), (0, .ref b), (1, .ref x0), (2, .ref (adm 0)), (3, .ref o), (4, .int (nI (5 * t)))]) hx hb dL_law_723 hl (by decide) rfl (fun ls hl => ?_)
  refine lv_aload_n hx hb dL_law_725 rfl (lv_at hl 3 rfl) ?_
  refine lv_aload_n hx hb dL_law_726 rfl (lv_at hl 1 rfl) ?_
  refine lv_iload hx hb dL_law_727 (lv_at hl 5 rfl) ?_
  refine lv_iconst (v := 1) hx hb dL_law_729 (by decide) ?_
  refine lv_iadd hx hb dL_law_730 ?_
  refine va_sld hx hb hXs hbl hbA hS i1 dL_law_731 ?_
  rw [← hy1]
  refine Ct_VRq (x := .int r2) (As := [.int y1]) (rest := []) hC (c_m_key hg) q_m_key a_1162 ⟨Nat.le_of_ble_eq_true rfl, Nat.le_of_ble_eq_true rfl⟩ (mrec hKX.1 hMX) hMX hKX rfl hl.1 (Nat.le_of_ble_eq_true rfl) dL_law_732 ⟨by show 36 + 20 * t + 20 + 0 ≤ 601024; omega, by show 1608 + 200 * t + 200 + 0 ≤ 7293034; omega⟩ hS (fun q hq => AM_A0 hn1 hq) (fun H1 locs hMX1 hz1 hk1 hS => ?_)
  replace hAX := AX.keptA hAX (fun q hq => AL_AM hq) hk1
  replace hO := ox_kept hO AM_o hk1
  replace hMX := hMX1
  clear hMX1
  generalize H1 = H at hAX hMX hO hS ⊢
  refine lv_istore (lv' := [(6, .int r2), (5, .int k), (0, .ref b), (1, .ref x0), (2, .ref (adm 0)), (3, .ref o), (4, .int (nI (5 * t)))]) hx hb dL_law_735 hl (by decide) rfl (fun ls hl => ?_)
  refine lv_aload_n hx hb dL_law_737 rfl (lv_at hl 4 rfl) ?_
  refine Ct_VRq (x := .int k) (As := []) (rest := []) hC (c_m_thrown hth) q_m_thrown a_1078 ⟨Nat.le_of_ble_eq_true rfl, Nat.le_of_ble_eq_true rfl⟩ (mrec hKX.1 hMX) hMX hKX rfl hl.1 (Nat.le_of_ble_eq_true rfl) dL_law_738 ⟨by show 36 + 20 * t + 20 + 0 + 0 ≤ 601024; omega, by show 1608 + 200 * t + 200 + 0 + 0 ≤ 7293034; omega⟩ hS (fun q hq => AM_A0 hn1 hq) (fun H1 locs hMX1 hz1 hk1 hS => ?_)
  replace hAX := AX.keptA hAX (fun q hq => AL_AM hq) hk1
  replace hO := ox_kept hO AM_o hk1
  replace hMX := hMX1
  clear hMX1
  generalize H1 = H at hAX hMX hO hS ⊢
  refine lv_iload hx hb dL_law_741 (lv_at hl 1 rfl) ?_
  refine lv_icmp_eq (tgt := 748) hx hb dL_law_743 (by decide) (fun _ => ?_) (fun z => absurd rfl z)
  refine lv_iload hx hb dL_law_748 (lv_at hl 1 rfl) ?_
  refine lv_if_ne (tgt := 765) hx hb dL_law_750 (by decide) (fun _ => ?_) (fun hk0 => ?_)
  · refine lv_goto (tgt := 1472) hx hb dL_law_765 (by decide) ?_
    refine W.widen (k := 36 + 20 * (t + 1)) (n := 1608 + 200 * (t + 1)) (by omega) (by omega) ?_
    exact KK _ _ _ _ _ _ H locs ls hR1 hAX hMX hO hS (lv_sub hl [2, 3, 4, 5, 6] rfl)
  · have he0 : e0 = 0 := by
      rcases hk with z | z
      · exact z.1
      · exact absurd (hk0.symm.trans z.2) (by decide)
    refine lv_aload_n hx hb dL_law_753 rfl (lv_at hl 5 rfl) ?_
    refine lv_iconst (v := 0) hx hb dL_law_754 (by decide) ?_
    refine va_lald (tys := tysA cA) hx hb hKX.1 hO 0 2 rfl rfl (by unfold vp_in; decide) dL_law_755 ?_
    refine lv_iload hx hb dL_law_756 (lv_at hl 0 rfl) ?_
    refine lv_i2l (v := r2.toInt64) hx hb dL_law_758 rfl ?_
    refine W.lcmp hx hb dL_law_759 ?_
    rw [show f1 (0 : Int32).toNatClampNeg = r2.toInt64 by rw [← he he0]; exact hf1 he0, lg_cmp_self]
    refine lv_if_eq (tgt := 765) hx hb dL_law_760 (by decide) (fun _ => ?_) (fun z => absurd rfl z)
    refine lv_goto (tgt := 1472) hx hb dL_law_765 (by decide) ?_
    refine W.widen (k := 36 + 20 * (t + 1)) (n := 1608 + 200 * (t + 1)) (by omega) (by omega) ?_
    exact KK _ _ _ _ _ _ H locs ls hR1 hAX hMX hO hS (lv_sub hl [2, 3, 4, 5, 6] rfl)

set_option maxRecDepth 100000 in
set_option maxHeartbeats 4000000 in
theorem lc_rows {p : Program} {l : Launch} {e : Env} {s : State} {m : MethodId} {below : List Frame} {meth : Method} {c : Code} {b L : Nat} {xs : Nat → Int32} {D : va_G} {cA : Nat → ClassId} {R : RT} {x0 o n1 : Nat} {adm : Nat → Nat} (hfl : l.stackTraces = false) (hL : L ≤ 2560) (C0 : lw_At p s m meth c b L xs) (hKX : KX D cA s) (hTX : TX (fun q => s.heap.size ≤ q) s) (hNX : NX s) (hSXR : ∀ S G nt nv M, R S G nt nv M → SX S nt nv) (hR : Sm_rows R) (hn1 : s.heap.size ≤ n1) (hno : n1 ≤ o) {t : Nat} (ht : 5 * t + 5 ≤ L) {S : St} {G : Gt} {nt nv : Nat} {M : St} {f : Nat → Int64} {H : Heap} {locs : List Loc} {ls : Array Slot} (hRR : R S G nt nv M) (hAX : AX D cA (AL s.heap.size n1 o) x0 S G nt nv H) (hMX : MX D cA (AM n1 o) adm M H) (hO : va_P D vwCl [(o, .inl (cA 2, 1, .inr (.inl f)))] H) (hS : va_S (fun q => s.heap.size ≤ q) s.heap H locs) (hl : lv_has ls 7 [(0, .ref b), (1, .ref x0), (2, .ref (adm 0)), (3, .ref o), (4, .int (nI (5 * t)))])
    (KK : ∀ (S : St) (G : Gt) (nt nv : Nat) (M : St) (f : Nat → Int64) (H : Heap) (locs : List Loc) (ls : Array Slot), R S G nt nv M → AX D cA (AL s.heap.size n1 o) x0 S G nt nv H → MX D cA (AM n1 o) adm M H → va_P D vwCl [(o, .inl (cA 2, 1, .inr (.inl f)))] H → va_S (fun q => s.heap.size ≤ q) s.heap H locs → lv_has ls 7 [(0, .ref b), (1, .ref x0), (2, .ref (adm 0)), (3, .ref o), (4, .int (nI (5 * t)))] → W p l e room_1 s m #[Value.ref b] below meth c H locs (36 + 20 * (t + 1)) (1608 + 200 * (t + 1)) (lw_Z below #[Value.ref b] s) (F0 m 1472 ls [])) :
    W p l e room_1 s m #[Value.ref b] below meth c H locs (36 + 20 * t) (1608 + 200 * t) (lw_Z below #[Value.ref b] s) (F0 m 768 ls []) := by
  obtain ⟨hx, hb, hr, hml, hown, hts, hXs, hbl, hlocks, hgv⟩ := id C0
  have hT0 : ∀ w ∈ Cond.initialized "LensbenchLaw" :: ALL, w.before #[Value.ref b] s = true := fun w hw => hts w (by
      rcases List.mem_cons.mp hw with rfl | hw
      · exact (List.mem_filter.mp a_50).1
      · exact (List.mem_filter.mp hw).1)
  have hC : CallFix p m c code 7 s #[Value.ref b] (Cond.initialized "LensbenchLaw" :: ALL) "LensbenchLaw" := ⟨hx, hb, hml, hown, hT0⟩
  have hbA : ¬ (fun q : Nat => s.heap.size ≤ q) b := Nat.not_le.mpr hbl
  have i1 : vp_in (nI (5 * t) + 1) L := by
      rw [show (1 : Int32) = nI 1 from rfl, nI_add]
      exact vp_in_nI (by omega) (by omega)
  obtain ⟨y1, hy1⟩ : ∃ z : Int32, z = xs (nI (5 * t) + 1).toNatClampNeg := ⟨_, rfl⟩
  refine lv_aload_n hx hb dL_law_768 rfl (lv_at hl 1 rfl) ?_
  refine lv_aload_n hx hb dL_law_769 rfl (lv_at hl 0 rfl) ?_
  refine lv_iload hx hb dL_law_770 (lv_at hl 4 rfl) ?_
  refine lv_iconst (v := 1) hx hb dL_law_772 (by decide) ?_
  refine lv_iadd hx hb dL_law_773 ?_
  refine va_sld hx hb hXs hbl hbA hS i1 dL_law_774 ?_
  rw [← hy1]
  refine lv_aload_n hx hb dL_law_775 rfl (lv_at hl 3 rfl) ?_
  obtain ⟨e0, r, k, r2, S1, M1, hf, hg, hth, hk, he, hR1⟩ := hR S G nt nv M y1 hRR
  refine Ct_SW (As := [.ref x0, .int y1, .ref o]) (rest := []) hC (w_rows (A := AL s.heap.size n1 o) (x0 := x0) (o := o) (f := f) hfl (AL_o hno) (hSXR _ _ _ _ _ hRR) hf hk) qw_rows a_667 ⟨Nat.le_of_ble_eq_true rfl, Nat.le_of_ble_eq_true rfl⟩ ⟨hAX, fun q hq => Or.inr (Nat.lt_of_lt_of_le (hO 0 _ rfl).lt hq), hO⟩ hKX hTX hNX rfl hl.1 (Nat.le_of_ble_eq_true rfl) dL_law_776 ⟨by show 36 + 20 * t + 20 ≤ 601024; omega, by show 1608 + 200 * t + 200 ≤ 7293034; omega⟩ hS (fun q hq => AL_A0 hn1 hno hq) (fun H1 locs hQ hz1 hk1 hS => ?_)
  obtain ⟨hAX, f1, hf1, hO⟩ := hQ
  replace hMX := MX.keptB hMX (fun q hq => AM_AL hq) hk1
  generalize H1 = H at hAX hMX hO hS ⊢
  refine lv_istore (lv' := [(5, .int k), (0, .ref b), (1, .ref x0), (2, .ref (adm 0)), (3, .ref o), (4, .int (nI (5 * t)))]) hx hb dL_law_779 hl (by decide) rfl (fun ls hl => ?_)
  refine lv_aload_n hx hb dL_law_781 rfl (lv_at hl 3 rfl) ?_
  refine lv_aload_n hx hb dL_law_782 rfl (lv_at hl 1 rfl) ?_
  refine lv_iload hx hb dL_law_783 (lv_at hl 5 rfl) ?_
  refine lv_iconst (v := 1) hx hb dL_law_785 (by decide) ?_
  refine lv_iadd hx hb dL_law_786 ?_
  refine va_sld hx hb hXs hbl hbA hS i1 dL_law_787 ?_
  rw [← hy1]
  refine Ct_VRq (x := .int r2) (As := [.int y1]) (rest := []) hC (c_m_rows hg) q_m_rows a_1166 ⟨Nat.le_of_ble_eq_true rfl, Nat.le_of_ble_eq_true rfl⟩ (mrec hKX.1 hMX) hMX hKX rfl hl.1 (Nat.le_of_ble_eq_true rfl) dL_law_788 ⟨by show 36 + 20 * t + 20 + 0 ≤ 601024; omega, by show 1608 + 200 * t + 200 + 0 ≤ 7293034; omega⟩ hS (fun q hq => AM_A0 hn1 hq) (fun H1 locs hMX1 hz1 hk1 hS => ?_)
  replace hAX := AX.keptA hAX (fun q hq => AL_AM hq) hk1
  replace hO := ox_kept hO AM_o hk1
  replace hMX := hMX1
  clear hMX1
  generalize H1 = H at hAX hMX hO hS ⊢
  refine lv_istore (lv' := [(6, .int r2), (5, .int k), (0, .ref b), (1, .ref x0), (2, .ref (adm 0)), (3, .ref o), (4, .int (nI (5 * t)))]) hx hb dL_law_791 hl (by decide) rfl (fun ls hl => ?_)
  refine lv_aload_n hx hb dL_law_793 rfl (lv_at hl 4 rfl) ?_
  refine Ct_VRq (x := .int k) (As := []) (rest := []) hC (c_m_thrown hth) q_m_thrown a_1078 ⟨Nat.le_of_ble_eq_true rfl, Nat.le_of_ble_eq_true rfl⟩ (mrec hKX.1 hMX) hMX hKX rfl hl.1 (Nat.le_of_ble_eq_true rfl) dL_law_794 ⟨by show 36 + 20 * t + 20 + 0 + 0 ≤ 601024; omega, by show 1608 + 200 * t + 200 + 0 + 0 ≤ 7293034; omega⟩ hS (fun q hq => AM_A0 hn1 hq) (fun H1 locs hMX1 hz1 hk1 hS => ?_)
  replace hAX := AX.keptA hAX (fun q hq => AL_AM hq) hk1
  replace hO := ox_kept hO AM_o hk1
  replace hMX := hMX1
  clear hMX1
  generalize H1 = H at hAX hMX hO hS ⊢
  refine lv_iload hx hb dL_law_797 (lv_at hl 1 rfl) ?_
  refine lv_icmp_eq (tgt := 804) hx hb dL_law_799 (by decide) (fun _ => ?_) (fun z => absurd rfl z)
  refine lv_iload hx hb dL_law_804 (lv_at hl 1 rfl) ?_
  refine lv_if_ne (tgt := 821) hx hb dL_law_806 (by decide) (fun _ => ?_) (fun hk0 => ?_)
  · refine lv_goto (tgt := 1472) hx hb dL_law_821 (by decide) ?_
    refine W.widen (k := 36 + 20 * (t + 1)) (n := 1608 + 200 * (t + 1)) (by omega) (by omega) ?_
    exact KK _ _ _ _ _ _ H locs ls hR1 hAX hMX hO hS (lv_sub hl [2, 3, 4, 5, 6] rfl)
  · have he0 : e0 = 0 := by
      rcases hk with z | z
      · exact z.1
      · exact absurd (hk0.symm.trans z.2) (by decide)
    refine lv_aload_n hx hb dL_law_809 rfl (lv_at hl 5 rfl) ?_
    refine lv_iconst (v := 0) hx hb dL_law_810 (by decide) ?_
    refine va_lald (tys := tysA cA) hx hb hKX.1 hO 0 2 rfl rfl (by unfold vp_in; decide) dL_law_811 ?_
    refine lv_iload hx hb dL_law_812 (lv_at hl 0 rfl) ?_
    refine lv_i2l (v := r2.toInt64) hx hb dL_law_814 rfl ?_
    refine W.lcmp hx hb dL_law_815 ?_
    rw [show f1 (0 : Int32).toNatClampNeg = r2.toInt64 by rw [← he he0]; exact hf1 he0, lg_cmp_self]
    refine lv_if_eq (tgt := 821) hx hb dL_law_816 (by decide) (fun _ => ?_) (fun z => absurd rfl z)
    refine lv_goto (tgt := 1472) hx hb dL_law_821 (by decide) ?_
    refine W.widen (k := 36 + 20 * (t + 1)) (n := 1608 + 200 * (t + 1)) (by omega) (by omega) ?_
    exact KK _ _ _ _ _ _ H locs ls hR1 hAX hMX hO hS (lv_sub hl [2, 3, 4, 5, 6] rfl)

set_option maxRecDepth 100000 in
set_option maxHeartbeats 4000000 in
theorem lc_row {p : Program} {l : Launch} {e : Env} {s : State} {m : MethodId} {below : List Frame} {meth : Method} {c : Code} {b L : Nat} {xs : Nat → Int32} {D : va_G} {cA : Nat → ClassId} {R : RT} {x0 o n1 : Nat} {adm : Nat → Nat} (hfl : l.stackTraces = false) (hL : L ≤ 2560) (C0 : lw_At p s m meth c b L xs) (hKX : KX D cA s) (hTX : TX (fun q => s.heap.size ≤ q) s) (hNX : NX s) (hSXR : ∀ S G nt nv M, R S G nt nv M → SX S nt nv) (hR : Sm_row R) (hn1 : s.heap.size ≤ n1) (hno : n1 ≤ o) {t : Nat} (ht : 5 * t + 5 ≤ L) {S : St} {G : Gt} {nt nv : Nat} {M : St} {f : Nat → Int64} {H : Heap} {locs : List Loc} {ls : Array Slot} (hRR : R S G nt nv M) (hAX : AX D cA (AL s.heap.size n1 o) x0 S G nt nv H) (hMX : MX D cA (AM n1 o) adm M H) (hO : va_P D vwCl [(o, .inl (cA 2, 1, .inr (.inl f)))] H) (hS : va_S (fun q => s.heap.size ≤ q) s.heap H locs) (hl : lv_has ls 7 [(0, .ref b), (1, .ref x0), (2, .ref (adm 0)), (3, .ref o), (4, .int (nI (5 * t)))])
    (KK : ∀ (S : St) (G : Gt) (nt nv : Nat) (M : St) (f : Nat → Int64) (H : Heap) (locs : List Loc) (ls : Array Slot), R S G nt nv M → AX D cA (AL s.heap.size n1 o) x0 S G nt nv H → MX D cA (AM n1 o) adm M H → va_P D vwCl [(o, .inl (cA 2, 1, .inr (.inl f)))] H → va_S (fun q => s.heap.size ≤ q) s.heap H locs → lv_has ls 7 [(0, .ref b), (1, .ref x0), (2, .ref (adm 0)), (3, .ref o), (4, .int (nI (5 * t)))] → W p l e room_1 s m #[Value.ref b] below meth c H locs (36 + 20 * (t + 1)) (1608 + 200 * (t + 1)) (lw_Z below #[Value.ref b] s) (F0 m 1472 ls [])) :
    W p l e room_1 s m #[Value.ref b] below meth c H locs (36 + 20 * t) (1608 + 200 * t) (lw_Z below #[Value.ref b] s) (F0 m 824 ls []) := by
  obtain ⟨hx, hb, hr, hml, hown, hts, hXs, hbl, hlocks, hgv⟩ := id C0
  have hT0 : ∀ w ∈ Cond.initialized "LensbenchLaw" :: ALL, w.before #[Value.ref b] s = true := fun w hw => hts w (by
      rcases List.mem_cons.mp hw with rfl | hw
      · exact (List.mem_filter.mp a_50).1
      · exact (List.mem_filter.mp hw).1)
  have hC : CallFix p m c code 7 s #[Value.ref b] (Cond.initialized "LensbenchLaw" :: ALL) "LensbenchLaw" := ⟨hx, hb, hml, hown, hT0⟩
  have hbA : ¬ (fun q : Nat => s.heap.size ≤ q) b := Nat.not_le.mpr hbl
  have i1 : vp_in (nI (5 * t) + 1) L := by
      rw [show (1 : Int32) = nI 1 from rfl, nI_add]
      exact vp_in_nI (by omega) (by omega)
  obtain ⟨y1, hy1⟩ : ∃ z : Int32, z = xs (nI (5 * t) + 1).toNatClampNeg := ⟨_, rfl⟩
  have i2 : vp_in (nI (5 * t) + 2) L := by
      rw [show (2 : Int32) = nI 2 from rfl, nI_add]
      exact vp_in_nI (by omega) (by omega)
  obtain ⟨y2, hy2⟩ : ∃ z : Int32, z = xs (nI (5 * t) + 2).toNatClampNeg := ⟨_, rfl⟩
  refine lv_aload_n hx hb dL_law_824 rfl (lv_at hl 1 rfl) ?_
  refine lv_aload_n hx hb dL_law_825 rfl (lv_at hl 0 rfl) ?_
  refine lv_iload hx hb dL_law_826 (lv_at hl 4 rfl) ?_
  refine lv_iconst (v := 1) hx hb dL_law_828 (by decide) ?_
  refine lv_iadd hx hb dL_law_829 ?_
  refine va_sld hx hb hXs hbl hbA hS i1 dL_law_830 ?_
  rw [← hy1]
  refine lv_aload_n hx hb dL_law_831 rfl (lv_at hl 0 rfl) ?_
  refine lv_iload hx hb dL_law_832 (lv_at hl 4 rfl) ?_
  refine lv_iconst (v := 2) hx hb dL_law_834 (by decide) ?_
  refine lv_iadd hx hb dL_law_835 ?_
  refine va_sld hx hb hXs hbl hbA hS i2 dL_law_836 ?_
  rw [← hy2]
  refine lv_aload_n hx hb dL_law_837 rfl (lv_at hl 3 rfl) ?_
  obtain ⟨e0, r, k, r2, S1, M1, hf, hg, hth, hk, he, hR1⟩ := hR S G nt nv M y1 y2 hRR
  refine Ct_SW (As := [.ref x0, .int y1, .int y2, .ref o]) (rest := []) hC (w_row (A := AL s.heap.size n1 o) (x0 := x0) (o := o) (f := f) hfl (AL_o hno) (hSXR _ _ _ _ _ hRR) hf hk) qw_row a_674 ⟨Nat.le_of_ble_eq_true rfl, Nat.le_of_ble_eq_true rfl⟩ ⟨hAX, fun q hq => Or.inr (Nat.lt_of_lt_of_le (hO 0 _ rfl).lt hq), hO⟩ hKX hTX hNX rfl hl.1 (Nat.le_of_ble_eq_true rfl) dL_law_838 ⟨by show 36 + 20 * t + 20 ≤ 601024; omega, by show 1608 + 200 * t + 200 ≤ 7293034; omega⟩ hS (fun q hq => AL_A0 hn1 hno hq) (fun H1 locs hQ hz1 hk1 hS => ?_)
  obtain ⟨hAX, f1, hf1, hO⟩ := hQ
  replace hMX := MX.keptB hMX (fun q hq => AM_AL hq) hk1
  generalize H1 = H at hAX hMX hO hS ⊢
  refine lv_istore (lv' := [(5, .int k), (0, .ref b), (1, .ref x0), (2, .ref (adm 0)), (3, .ref o), (4, .int (nI (5 * t)))]) hx hb dL_law_841 hl (by decide) rfl (fun ls hl => ?_)
  refine lv_aload_n hx hb dL_law_843 rfl (lv_at hl 3 rfl) ?_
  refine lv_aload_n hx hb dL_law_844 rfl (lv_at hl 1 rfl) ?_
  refine lv_iload hx hb dL_law_845 (lv_at hl 5 rfl) ?_
  refine lv_iconst (v := 1) hx hb dL_law_847 (by decide) ?_
  refine lv_iadd hx hb dL_law_848 ?_
  refine va_sld hx hb hXs hbl hbA hS i1 dL_law_849 ?_
  rw [← hy1]
  refine lv_aload_n hx hb dL_law_850 rfl (lv_at hl 1 rfl) ?_
  refine lv_iload hx hb dL_law_851 (lv_at hl 5 rfl) ?_
  refine lv_iconst (v := 2) hx hb dL_law_853 (by decide) ?_
  refine lv_iadd hx hb dL_law_854 ?_
  refine va_sld hx hb hXs hbl hbA hS i2 dL_law_855 ?_
  rw [← hy2]
  refine Ct_VRq (x := .int r2) (As := [.int y1, .int y2]) (rest := []) hC (c_m_row hg) q_m_row a_1190 ⟨Nat.le_of_ble_eq_true rfl, Nat.le_of_ble_eq_true rfl⟩ (mrec hKX.1 hMX) hMX hKX rfl hl.1 (Nat.le_of_ble_eq_true rfl) dL_law_856 ⟨by show 36 + 20 * t + 20 + 0 ≤ 601024; omega, by show 1608 + 200 * t + 200 + 0 ≤ 7293034; omega⟩ hS (fun q hq => AM_A0 hn1 hq) (fun H1 locs hMX1 hz1 hk1 hS => ?_)
  replace hAX := AX.keptA hAX (fun q hq => AL_AM hq) hk1
  replace hO := ox_kept hO AM_o hk1
  replace hMX := hMX1
  clear hMX1
  generalize H1 = H at hAX hMX hO hS ⊢
  refine lv_istore (lv' := [(6, .int r2), (5, .int k), (0, .ref b), (1, .ref x0), (2, .ref (adm 0)), (3, .ref o), (4, .int (nI (5 * t)))]) hx hb dL_law_859 hl (by decide) rfl (fun ls hl => ?_)
  refine lv_aload_n hx hb dL_law_861 rfl (lv_at hl 4 rfl) ?_
  refine Ct_VRq (x := .int k) (As := []) (rest := []) hC (c_m_thrown hth) q_m_thrown a_1078 ⟨Nat.le_of_ble_eq_true rfl, Nat.le_of_ble_eq_true rfl⟩ (mrec hKX.1 hMX) hMX hKX rfl hl.1 (Nat.le_of_ble_eq_true rfl) dL_law_862 ⟨by show 36 + 20 * t + 20 + 0 + 0 ≤ 601024; omega, by show 1608 + 200 * t + 200 + 0 + 0 ≤ 7293034; omega⟩ hS (fun q hq => AM_A0 hn1 hq) (fun H1 locs hMX1 hz1 hk1 hS => ?_)
  replace hAX := AX.keptA hAX (fun q hq => AL_AM hq) hk1
  replace hO := ox_kept hO AM_o hk1
  replace hMX := hMX1
  clear hMX1
  generalize H1 = H at hAX hMX hO hS ⊢
  refine lv_iload hx hb dL_law_865 (lv_at hl 1 rfl) ?_
  refine lv_icmp_eq (tgt := 872) hx hb dL_law_867 (by decide) (fun _ => ?_) (fun z => absurd rfl z)
  refine lv_iload hx hb dL_law_872 (lv_at hl 1 rfl) ?_
  refine lv_if_ne (tgt := 889) hx hb dL_law_874 (by decide) (fun _ => ?_) (fun hk0 => ?_)
  · refine lv_goto (tgt := 1472) hx hb dL_law_889 (by decide) ?_
    refine W.widen (k := 36 + 20 * (t + 1)) (n := 1608 + 200 * (t + 1)) (by omega) (by omega) ?_
    exact KK _ _ _ _ _ _ H locs ls hR1 hAX hMX hO hS (lv_sub hl [2, 3, 4, 5, 6] rfl)
  · have he0 : e0 = 0 := by
      rcases hk with z | z
      · exact z.1
      · exact absurd (hk0.symm.trans z.2) (by decide)
    refine lv_aload_n hx hb dL_law_877 rfl (lv_at hl 5 rfl) ?_
    refine lv_iconst (v := 0) hx hb dL_law_878 (by decide) ?_
    refine va_lald (tys := tysA cA) hx hb hKX.1 hO 0 2 rfl rfl (by unfold vp_in; decide) dL_law_879 ?_
    refine lv_iload hx hb dL_law_880 (lv_at hl 0 rfl) ?_
    refine lv_i2l (v := r2.toInt64) hx hb dL_law_882 rfl ?_
    refine W.lcmp hx hb dL_law_883 ?_
    rw [show f1 (0 : Int32).toNatClampNeg = r2.toInt64 by rw [← he he0]; exact hf1 he0, lg_cmp_self]
    refine lv_if_eq (tgt := 889) hx hb dL_law_884 (by decide) (fun _ => ?_) (fun z => absurd rfl z)
    refine lv_goto (tgt := 1472) hx hb dL_law_889 (by decide) ?_
    refine W.widen (k := 36 + 20 * (t + 1)) (n := 1608 + 200 * (t + 1)) (by omega) (by omega) ?_
    exact KK _ _ _ _ _ _ H locs ls hR1 hAX hMX hO hS (lv_sub hl [2, 3, 4, 5, 6] rfl)

set_option maxRecDepth 100000 in
set_option maxHeartbeats 4000000 in
theorem lc_open {p : Program} {l : Launch} {e : Env} {s : State} {m : MethodId} {below : List Frame} {meth : Method} {c : Code} {b L : Nat} {xs : Nat → Int32} {D : va_G} {cA : Nat → ClassId} {R : RT} {x0 o n1 : Nat} {adm : Nat → Nat} (hfl : l.stackTraces = false) (hL : L ≤ 2560) (C0 : lw_At p s m meth c b L xs) (hKX : KX D cA s) (hTX : TX (fun q => s.heap.size ≤ q) s) (hNX : NX s) (hSXR : ∀ S G nt nv M, R S G nt nv M → SX S nt nv) (hR : Sm_open R) (hn1 : s.heap.size ≤ n1) (hno : n1 ≤ o) {t : Nat} (ht : 5 * t + 5 ≤ L) {S : St} {G : Gt} {nt nv : Nat} {M : St} {f : Nat → Int64} {H : Heap} {locs : List Loc} {ls : Array Slot} (hRR : R S G nt nv M) (hAX : AX D cA (AL s.heap.size n1 o) x0 S G nt nv H) (hMX : MX D cA (AM n1 o) adm M H) (hO : va_P D vwCl [(o, .inl (cA 2, 1, .inr (.inl f)))] H) (hS : va_S (fun q => s.heap.size ≤ q) s.heap H locs) (hl : lv_has ls 7 [(0, .ref b), (1, .ref x0), (2, .ref (adm 0)), (3, .ref o), (4, .int (nI (5 * t)))])
    (KK : ∀ (S : St) (G : Gt) (nt nv : Nat) (M : St) (f : Nat → Int64) (H : Heap) (locs : List Loc) (ls : Array Slot), R S G nt nv M → AX D cA (AL s.heap.size n1 o) x0 S G nt nv H → MX D cA (AM n1 o) adm M H → va_P D vwCl [(o, .inl (cA 2, 1, .inr (.inl f)))] H → va_S (fun q => s.heap.size ≤ q) s.heap H locs → lv_has ls 7 [(0, .ref b), (1, .ref x0), (2, .ref (adm 0)), (3, .ref o), (4, .int (nI (5 * t)))] → W p l e room_1 s m #[Value.ref b] below meth c H locs (36 + 20 * (t + 1)) (1608 + 200 * (t + 1)) (lw_Z below #[Value.ref b] s) (F0 m 1472 ls [])) :
    W p l e room_1 s m #[Value.ref b] below meth c H locs (36 + 20 * t) (1608 + 200 * t) (lw_Z below #[Value.ref b] s) (F0 m 892 ls []) := by
  obtain ⟨hx, hb, hr, hml, hown, hts, hXs, hbl, hlocks, hgv⟩ := id C0
  have hT0 : ∀ w ∈ Cond.initialized "LensbenchLaw" :: ALL, w.before #[Value.ref b] s = true := fun w hw => hts w (by
      rcases List.mem_cons.mp hw with rfl | hw
      · exact (List.mem_filter.mp a_50).1
      · exact (List.mem_filter.mp hw).1)
  have hC : CallFix p m c code 7 s #[Value.ref b] (Cond.initialized "LensbenchLaw" :: ALL) "LensbenchLaw" := ⟨hx, hb, hml, hown, hT0⟩
  have hbA : ¬ (fun q : Nat => s.heap.size ≤ q) b := Nat.not_le.mpr hbl
  have i1 : vp_in (nI (5 * t) + 1) L := by
      rw [show (1 : Int32) = nI 1 from rfl, nI_add]
      exact vp_in_nI (by omega) (by omega)
  obtain ⟨y1, hy1⟩ : ∃ z : Int32, z = xs (nI (5 * t) + 1).toNatClampNeg := ⟨_, rfl⟩
  refine lv_aload_n hx hb dL_law_892 rfl (lv_at hl 1 rfl) ?_
  refine lv_aload_n hx hb dL_law_893 rfl (lv_at hl 0 rfl) ?_
  refine lv_iload hx hb dL_law_894 (lv_at hl 4 rfl) ?_
  refine lv_iconst (v := 1) hx hb dL_law_896 (by decide) ?_
  refine lv_iadd hx hb dL_law_897 ?_
  refine va_sld hx hb hXs hbl hbA hS i1 dL_law_898 ?_
  rw [← hy1]
  refine lv_aload_n hx hb dL_law_899 rfl (lv_at hl 3 rfl) ?_
  obtain ⟨e0, r, k, r2, S1, M1, hf, hg, hth, hk, he, hR1⟩ := hR S G nt nv M y1 hRR
  refine Ct_SW (As := [.ref x0, .int y1, .ref o]) (rest := []) hC (w_open (A := AL s.heap.size n1 o) (x0 := x0) (o := o) (f := f) hfl (AL_o hno) (hSXR _ _ _ _ _ hRR) hf hk) qw_open a_683 ⟨Nat.le_of_ble_eq_true rfl, Nat.le_of_ble_eq_true rfl⟩ ⟨hAX, fun q hq => Or.inr (Nat.lt_of_lt_of_le (hO 0 _ rfl).lt hq), hO⟩ hKX hTX hNX rfl hl.1 (Nat.le_of_ble_eq_true rfl) dL_law_900 ⟨by show 36 + 20 * t + 20 ≤ 601024; omega, by show 1608 + 200 * t + 200 ≤ 7293034; omega⟩ hS (fun q hq => AL_A0 hn1 hno hq) (fun H1 locs hQ hz1 hk1 hS => ?_)
  obtain ⟨hAX, f1, hf1, hO⟩ := hQ
  replace hMX := MX.keptB hMX (fun q hq => AM_AL hq) hk1
  generalize H1 = H at hAX hMX hO hS ⊢
  refine lv_istore (lv' := [(5, .int k), (0, .ref b), (1, .ref x0), (2, .ref (adm 0)), (3, .ref o), (4, .int (nI (5 * t)))]) hx hb dL_law_903 hl (by decide) rfl (fun ls hl => ?_)
  refine lv_aload_n hx hb dL_law_905 rfl (lv_at hl 3 rfl) ?_
  refine lv_aload_n hx hb dL_law_906 rfl (lv_at hl 1 rfl) ?_
  refine lv_iload hx hb dL_law_907 (lv_at hl 5 rfl) ?_
  refine lv_iconst (v := 1) hx hb dL_law_909 (by decide) ?_
  refine lv_iadd hx hb dL_law_910 ?_
  refine va_sld hx hb hXs hbl hbA hS i1 dL_law_911 ?_
  rw [← hy1]
  refine Ct_VRq (x := .int r2) (As := [.int y1]) (rest := []) hC (c_m_open hg) q_m_open a_1194 ⟨Nat.le_of_ble_eq_true rfl, Nat.le_of_ble_eq_true rfl⟩ (mrec hKX.1 hMX) hMX hKX rfl hl.1 (Nat.le_of_ble_eq_true rfl) dL_law_912 ⟨by show 36 + 20 * t + 20 + 0 ≤ 601024; omega, by show 1608 + 200 * t + 200 + 0 ≤ 7293034; omega⟩ hS (fun q hq => AM_A0 hn1 hq) (fun H1 locs hMX1 hz1 hk1 hS => ?_)
  replace hAX := AX.keptA hAX (fun q hq => AL_AM hq) hk1
  replace hO := ox_kept hO AM_o hk1
  replace hMX := hMX1
  clear hMX1
  generalize H1 = H at hAX hMX hO hS ⊢
  refine lv_istore (lv' := [(6, .int r2), (5, .int k), (0, .ref b), (1, .ref x0), (2, .ref (adm 0)), (3, .ref o), (4, .int (nI (5 * t)))]) hx hb dL_law_915 hl (by decide) rfl (fun ls hl => ?_)
  refine lv_aload_n hx hb dL_law_917 rfl (lv_at hl 4 rfl) ?_
  refine Ct_VRq (x := .int k) (As := []) (rest := []) hC (c_m_thrown hth) q_m_thrown a_1078 ⟨Nat.le_of_ble_eq_true rfl, Nat.le_of_ble_eq_true rfl⟩ (mrec hKX.1 hMX) hMX hKX rfl hl.1 (Nat.le_of_ble_eq_true rfl) dL_law_918 ⟨by show 36 + 20 * t + 20 + 0 + 0 ≤ 601024; omega, by show 1608 + 200 * t + 200 + 0 + 0 ≤ 7293034; omega⟩ hS (fun q hq => AM_A0 hn1 hq) (fun H1 locs hMX1 hz1 hk1 hS => ?_)
  replace hAX := AX.keptA hAX (fun q hq => AL_AM hq) hk1
  replace hO := ox_kept hO AM_o hk1
  replace hMX := hMX1
  clear hMX1
  generalize H1 = H at hAX hMX hO hS ⊢
  refine lv_iload hx hb dL_law_921 (lv_at hl 1 rfl) ?_
  refine lv_icmp_eq (tgt := 928) hx hb dL_law_923 (by decide) (fun _ => ?_) (fun z => absurd rfl z)
  refine lv_iload hx hb dL_law_928 (lv_at hl 1 rfl) ?_
  refine lv_if_ne (tgt := 945) hx hb dL_law_930 (by decide) (fun _ => ?_) (fun hk0 => ?_)
  · refine lv_goto (tgt := 1472) hx hb dL_law_945 (by decide) ?_
    refine W.widen (k := 36 + 20 * (t + 1)) (n := 1608 + 200 * (t + 1)) (by omega) (by omega) ?_
    exact KK _ _ _ _ _ _ H locs ls hR1 hAX hMX hO hS (lv_sub hl [2, 3, 4, 5, 6] rfl)
  · have he0 : e0 = 0 := by
      rcases hk with z | z
      · exact z.1
      · exact absurd (hk0.symm.trans z.2) (by decide)
    refine lv_aload_n hx hb dL_law_933 rfl (lv_at hl 5 rfl) ?_
    refine lv_iconst (v := 0) hx hb dL_law_934 (by decide) ?_
    refine va_lald (tys := tysA cA) hx hb hKX.1 hO 0 2 rfl rfl (by unfold vp_in; decide) dL_law_935 ?_
    refine lv_iload hx hb dL_law_936 (lv_at hl 0 rfl) ?_
    refine lv_i2l (v := r2.toInt64) hx hb dL_law_938 rfl ?_
    refine W.lcmp hx hb dL_law_939 ?_
    rw [show f1 (0 : Int32).toNatClampNeg = r2.toInt64 by rw [← he he0]; exact hf1 he0, lg_cmp_self]
    refine lv_if_eq (tgt := 945) hx hb dL_law_940 (by decide) (fun _ => ?_) (fun z => absurd rfl z)
    refine lv_goto (tgt := 1472) hx hb dL_law_945 (by decide) ?_
    refine W.widen (k := 36 + 20 * (t + 1)) (n := 1608 + 200 * (t + 1)) (by omega) (by omega) ?_
    exact KK _ _ _ _ _ _ H locs ls hR1 hAX hMX hO hS (lv_sub hl [2, 3, 4, 5, 6] rfl)

set_option maxRecDepth 100000 in
set_option maxHeartbeats 4000000 in
theorem lc_add {p : Program} {l : Launch} {e : Env} {s : State} {m : MethodId} {below : List Frame} {meth : Method} {c : Code} {b L : Nat} {xs : Nat → Int32} {D : va_G} {cA : Nat → ClassId} {R : RT} {x0 o n1 : Nat} {adm : Nat → Nat} (hfl : l.stackTraces = false) (hL : L ≤ 2560) (C0 : lw_At p s m meth c b L xs) (hKX : KX D cA s) (hTX : TX (fun q => s.heap.size ≤ q) s) (hNX : NX s) (hSXR : ∀ S G nt nv M, R S G nt nv M → SX S nt nv) (hR : Sm_add R) (hn1 : s.heap.size ≤ n1) (hno : n1 ≤ o) {t : Nat} (ht : 5 * t + 5 ≤ L) {S : St} {G : Gt} {nt nv : Nat} {M : St} {f : Nat → Int64} {H : Heap} {locs : List Loc} {ls : Array Slot} (hRR : R S G nt nv M) (hAX : AX D cA (AL s.heap.size n1 o) x0 S G nt nv H) (hMX : MX D cA (AM n1 o) adm M H) (hO : va_P D vwCl [(o, .inl (cA 2, 1, .inr (.inl f)))] H) (hS : va_S (fun q => s.heap.size ≤ q) s.heap H locs) (hl : lv_has ls 7 [(0, .ref b), (1, .ref x0), (2, .ref (adm 0)), (3, .ref o), (4, .int (nI (5 * t)))])
    (KK : ∀ (S : St) (G : Gt) (nt nv : Nat) (M : St) (f : Nat → Int64) (H : Heap) (locs : List Loc) (ls : Array Slot), R S G nt nv M → AX D cA (AL s.heap.size n1 o) x0 S G nt nv H → MX D cA (AM n1 o) adm M H → va_P D vwCl [(o, .inl (cA 2, 1, .inr (.inl f)))] H → va_S (fun q => s.heap.size ≤ q) s.heap H locs → lv_has ls 7 [(0, .ref b), (1, .ref x0), (2, .ref (adm 0)), (3, .ref o), (4, .int (nI (5 * t)))] → W p l e room_1 s m #[Value.ref b] below meth c H locs (36 + 20 * (t + 1)) (1608 + 200 * (t + 1)) (lw_Z below #[Value.ref b] s) (F0 m 1472 ls [])) :
    W p l e room_1 s m #[Value.ref b] below meth c H locs (36 + 20 * t) (1608 + 200 * t) (lw_Z below #[Value.ref b] s) (F0 m 948 ls []) := by
  obtain ⟨hx, hb, hr, hml, hown, hts, hXs, hbl, hlocks, hgv⟩ := id C0
  have hT0 : ∀ w ∈ Cond.initialized "LensbenchLaw" :: ALL, w.before #[Value.ref b] s = true := fun w hw => hts w (by
      rcases List.mem_cons.mp hw with rfl | hw
      · exact (List.mem_filter.mp a_50).1
      · exact (List.mem_filter.mp hw).1)
  have hC : CallFix p m c code 7 s #[Value.ref b] (Cond.initialized "LensbenchLaw" :: ALL) "LensbenchLaw" := ⟨hx, hb, hml, hown, hT0⟩
  have hbA : ¬ (fun q : Nat => s.heap.size ≤ q) b := Nat.not_le.mpr hbl
  have i1 : vp_in (nI (5 * t) + 1) L := by
      rw [show (1 : Int32) = nI 1 from rfl, nI_add]
      exact vp_in_nI (by omega) (by omega)
  obtain ⟨y1, hy1⟩ : ∃ z : Int32, z = xs (nI (5 * t) + 1).toNatClampNeg := ⟨_, rfl⟩
  refine lv_aload_n hx hb dL_law_948 rfl (lv_at hl 1 rfl) ?_
  refine lv_aload_n hx hb dL_law_949 rfl (lv_at hl 0 rfl) ?_
  refine lv_iload hx hb dL_law_950 (lv_at hl 4 rfl) ?_
  refine lv_iconst (v := 1) hx hb dL_law_952 (by decide) ?_
  refine lv_iadd hx hb dL_law_953 ?_
  refine va_sld hx hb hXs hbl hbA hS i1 dL_law_954 ?_
  rw [← hy1]
  refine lv_aload_n hx hb dL_law_955 rfl (lv_at hl 3 rfl) ?_
  obtain ⟨e0, r, k, r2, S1, M1, hf, hg, hth, hk, he, hR1⟩ := hR S G nt nv M y1 hRR
  refine Ct_SW (As := [.ref x0, .int y1, .ref o]) (rest := []) hC (w_add (A := AL s.heap.size n1 o) (x0 := x0) (o := o) (f := f) hfl (AL_o hno) (hSXR _ _ _ _ _ hRR) hf hk) qw_add a_691 ⟨Nat.le_of_ble_eq_true rfl, Nat.le_of_ble_eq_true rfl⟩ ⟨hAX, fun q hq => Or.inr (Nat.lt_of_lt_of_le (hO 0 _ rfl).lt hq), hO⟩ hKX hTX hNX rfl hl.1 (Nat.le_of_ble_eq_true rfl) dL_law_956 ⟨by show 36 + 20 * t + 20 ≤ 601024; omega, by show 1608 + 200 * t + 200 ≤ 7293034; omega⟩ hS (fun q hq => AL_A0 hn1 hno hq) (fun H1 locs hQ hz1 hk1 hS => ?_)
  obtain ⟨hAX, f1, hf1, hO⟩ := hQ
  replace hMX := MX.keptB hMX (fun q hq => AM_AL hq) hk1
  generalize H1 = H at hAX hMX hO hS ⊢
  refine lv_istore (lv' := [(5, .int k), (0, .ref b), (1, .ref x0), (2, .ref (adm 0)), (3, .ref o), (4, .int (nI (5 * t)))]) hx hb dL_law_959 hl (by decide) rfl (fun ls hl => ?_)
  refine lv_aload_n hx hb dL_law_961 rfl (lv_at hl 3 rfl) ?_
  refine lv_aload_n hx hb dL_law_962 rfl (lv_at hl 1 rfl) ?_
  refine lv_iload hx hb dL_law_963 (lv_at hl 5 rfl) ?_
  refine lv_iconst (v := 1) hx hb dL_law_965 (by decide) ?_
  refine lv_iadd hx hb dL_law_966 ?_
  refine va_sld hx hb hXs hbl hbA hS i1 dL_law_967 ?_
  rw [← hy1]
  refine Ct_VRq (x := .int r2) (As := [.int y1]) (rest := []) hC (c_m_add hg) q_m_add a_1198 ⟨Nat.le_of_ble_eq_true rfl, Nat.le_of_ble_eq_true rfl⟩ (mrec hKX.1 hMX) hMX hKX rfl hl.1 (Nat.le_of_ble_eq_true rfl) dL_law_968 ⟨by show 36 + 20 * t + 20 + 0 ≤ 601024; omega, by show 1608 + 200 * t + 200 + 0 ≤ 7293034; omega⟩ hS (fun q hq => AM_A0 hn1 hq) (fun H1 locs hMX1 hz1 hk1 hS => ?_)
  replace hAX := AX.keptA hAX (fun q hq => AL_AM hq) hk1
  replace hO := ox_kept hO AM_o hk1
  replace hMX := hMX1
  clear hMX1
  generalize H1 = H at hAX hMX hO hS ⊢
  refine lv_istore (lv' := [(6, .int r2), (5, .int k), (0, .ref b), (1, .ref x0), (2, .ref (adm 0)), (3, .ref o), (4, .int (nI (5 * t)))]) hx hb dL_law_971 hl (by decide) rfl (fun ls hl => ?_)
  refine lv_aload_n hx hb dL_law_973 rfl (lv_at hl 4 rfl) ?_
  refine Ct_VRq (x := .int k) (As := []) (rest := []) hC (c_m_thrown hth) q_m_thrown a_1078 ⟨Nat.le_of_ble_eq_true rfl, Nat.le_of_ble_eq_true rfl⟩ (mrec hKX.1 hMX) hMX hKX rfl hl.1 (Nat.le_of_ble_eq_true rfl) dL_law_974 ⟨by show 36 + 20 * t + 20 + 0 + 0 ≤ 601024; omega, by show 1608 + 200 * t + 200 + 0 + 0 ≤ 7293034; omega⟩ hS (fun q hq => AM_A0 hn1 hq) (fun H1 locs hMX1 hz1 hk1 hS => ?_)
  replace hAX := AX.keptA hAX (fun q hq => AL_AM hq) hk1
  replace hO := ox_kept hO AM_o hk1
  replace hMX := hMX1
  clear hMX1
  generalize H1 = H at hAX hMX hO hS ⊢
  refine lv_iload hx hb dL_law_977 (lv_at hl 1 rfl) ?_
  refine lv_icmp_eq (tgt := 984) hx hb dL_law_979 (by decide) (fun _ => ?_) (fun z => absurd rfl z)
  refine lv_iload hx hb dL_law_984 (lv_at hl 1 rfl) ?_
  refine lv_if_ne (tgt := 1001) hx hb dL_law_986 (by decide) (fun _ => ?_) (fun hk0 => ?_)
  · refine lv_goto (tgt := 1472) hx hb dL_law_1001 (by decide) ?_
    refine W.widen (k := 36 + 20 * (t + 1)) (n := 1608 + 200 * (t + 1)) (by omega) (by omega) ?_
    exact KK _ _ _ _ _ _ H locs ls hR1 hAX hMX hO hS (lv_sub hl [2, 3, 4, 5, 6] rfl)
  · have he0 : e0 = 0 := by
      rcases hk with z | z | z
      · exact z.1
      · exact absurd (hk0.symm.trans z.2) (by decide)
      · exact absurd (hk0.symm.trans z.2) (by decide)
    refine lv_aload_n hx hb dL_law_989 rfl (lv_at hl 5 rfl) ?_
    refine lv_iconst (v := 0) hx hb dL_law_990 (by decide) ?_
    refine va_lald (tys := tysA cA) hx hb hKX.1 hO 0 2 rfl rfl (by unfold vp_in; decide) dL_law_991 ?_
    refine lv_iload hx hb dL_law_992 (lv_at hl 0 rfl) ?_
    refine lv_i2l (v := r2.toInt64) hx hb dL_law_994 rfl ?_
    refine W.lcmp hx hb dL_law_995 ?_
    rw [show f1 (0 : Int32).toNatClampNeg = r2.toInt64 by rw [← he he0]; exact hf1 he0, lg_cmp_self]
    refine lv_if_eq (tgt := 1001) hx hb dL_law_996 (by decide) (fun _ => ?_) (fun z => absurd rfl z)
    refine lv_goto (tgt := 1472) hx hb dL_law_1001 (by decide) ?_
    refine W.widen (k := 36 + 20 * (t + 1)) (n := 1608 + 200 * (t + 1)) (by omega) (by omega) ?_
    exact KK _ _ _ _ _ _ H locs ls hR1 hAX hMX hO hS (lv_sub hl [2, 3, 4, 5, 6] rfl)

set_option maxRecDepth 100000 in
set_option maxHeartbeats 4000000 in
theorem lc_takeOut {p : Program} {l : Launch} {e : Env} {s : State} {m : MethodId} {below : List Frame} {meth : Method} {c : Code} {b L : Nat} {xs : Nat → Int32} {D : va_G} {cA : Nat → ClassId} {R : RT} {x0 o n1 : Nat} {adm : Nat → Nat} (hfl : l.stackTraces = false) (hL : L ≤ 2560) (C0 : lw_At p s m meth c b L xs) (hKX : KX D cA s) (hTX : TX (fun q => s.heap.size ≤ q) s) (hNX : NX s) (hSXR : ∀ S G nt nv M, R S G nt nv M → SX S nt nv) (hR : Sm_takeOut R) (hn1 : s.heap.size ≤ n1) (hno : n1 ≤ o) {t : Nat} (ht : 5 * t + 5 ≤ L) {S : St} {G : Gt} {nt nv : Nat} {M : St} {f : Nat → Int64} {H : Heap} {locs : List Loc} {ls : Array Slot} (hRR : R S G nt nv M) (hAX : AX D cA (AL s.heap.size n1 o) x0 S G nt nv H) (hMX : MX D cA (AM n1 o) adm M H) (hO : va_P D vwCl [(o, .inl (cA 2, 1, .inr (.inl f)))] H) (hS : va_S (fun q => s.heap.size ≤ q) s.heap H locs) (hl : lv_has ls 7 [(0, .ref b), (1, .ref x0), (2, .ref (adm 0)), (3, .ref o), (4, .int (nI (5 * t)))])
    (KK : ∀ (S : St) (G : Gt) (nt nv : Nat) (M : St) (f : Nat → Int64) (H : Heap) (locs : List Loc) (ls : Array Slot), R S G nt nv M → AX D cA (AL s.heap.size n1 o) x0 S G nt nv H → MX D cA (AM n1 o) adm M H → va_P D vwCl [(o, .inl (cA 2, 1, .inr (.inl f)))] H → va_S (fun q => s.heap.size ≤ q) s.heap H locs → lv_has ls 7 [(0, .ref b), (1, .ref x0), (2, .ref (adm 0)), (3, .ref o), (4, .int (nI (5 * t)))] → W p l e room_1 s m #[Value.ref b] below meth c H locs (36 + 20 * (t + 1)) (1608 + 200 * (t + 1)) (lw_Z below #[Value.ref b] s) (F0 m 1472 ls [])) :
    W p l e room_1 s m #[Value.ref b] below meth c H locs (36 + 20 * t) (1608 + 200 * t) (lw_Z below #[Value.ref b] s) (F0 m 1004 ls []) := by
  obtain ⟨hx, hb, hr, hml, hown, hts, hXs, hbl, hlocks, hgv⟩ := id C0
  have hT0 : ∀ w ∈ Cond.initialized "LensbenchLaw" :: ALL, w.before #[Value.ref b] s = true := fun w hw => hts w (by
      rcases List.mem_cons.mp hw with rfl | hw
      · exact (List.mem_filter.mp a_50).1
      · exact (List.mem_filter.mp hw).1)
  have hC : CallFix p m c code 7 s #[Value.ref b] (Cond.initialized "LensbenchLaw" :: ALL) "LensbenchLaw" := ⟨hx, hb, hml, hown, hT0⟩
  have hbA : ¬ (fun q : Nat => s.heap.size ≤ q) b := Nat.not_le.mpr hbl
  have i1 : vp_in (nI (5 * t) + 1) L := by
      rw [show (1 : Int32) = nI 1 from rfl, nI_add]
      exact vp_in_nI (by omega) (by omega)
  obtain ⟨y1, hy1⟩ : ∃ z : Int32, z = xs (nI (5 * t) + 1).toNatClampNeg := ⟨_, rfl⟩
  refine lv_aload_n hx hb dL_law_1004 rfl (lv_at hl 1 rfl) ?_
  refine lv_aload_n hx hb dL_law_1005 rfl (lv_at hl 0 rfl) ?_
  refine lv_iload hx hb dL_law_1006 (lv_at hl 4 rfl) ?_
  refine lv_iconst (v := 1) hx hb dL_law_1008 (by decide) ?_
  refine lv_iadd hx hb dL_law_1009 ?_
  refine va_sld hx hb hXs hbl hbA hS i1 dL_law_1010 ?_
  rw [← hy1]
  refine lv_aload_n hx hb dL_law_1011 rfl (lv_at hl 3 rfl) ?_
  obtain ⟨e0, r, k, r2, S1, M1, hf, hg, hth, hk, he, hR1⟩ := hR S G nt nv M y1 hRR
  refine Ct_SW (As := [.ref x0, .int y1, .ref o]) (rest := []) hC (w_takeOut (A := AL s.heap.size n1 o) (x0 := x0) (o := o) (f := f) hfl (AL_o hno) (hSXR _ _ _ _ _ hRR) hf hk) qw_takeOut a_699 ⟨Nat.le_of_ble_eq_true rfl, Nat.le_of_ble_eq_true rfl⟩ ⟨hAX, fun q hq => Or.inr (Nat.lt_of_lt_of_le (hO 0 _ rfl).lt hq), hO⟩ hKX hTX hNX rfl hl.1 (Nat.le_of_ble_eq_true rfl) dL_law_1012 ⟨by show 36 + 20 * t + 20 ≤ 601024; omega, by show 1608 + 200 * t + 200 ≤ 7293034; omega⟩ hS (fun q hq => AL_A0 hn1 hno hq) (fun H1 locs hQ hz1 hk1 hS => ?_)
  obtain ⟨hAX, f1, hf1, hO⟩ := hQ
  replace hMX := MX.keptB hMX (fun q hq => AM_AL hq) hk1
  generalize H1 = H at hAX hMX hO hS ⊢
  refine lv_istore (lv' := [(5, .int k), (0, .ref b), (1, .ref x0), (2, .ref (adm 0)), (3, .ref o), (4, .int (nI (5 * t)))]) hx hb dL_law_1015 hl (by decide) rfl (fun ls hl => ?_)
  refine lv_aload_n hx hb dL_law_1017 rfl (lv_at hl 3 rfl) ?_
  refine lv_aload_n hx hb dL_law_1018 rfl (lv_at hl 1 rfl) ?_
  refine lv_iload hx hb dL_law_1019 (lv_at hl 5 rfl) ?_
  refine lv_iconst (v := 1) hx hb dL_law_1021 (by decide) ?_
  refine lv_iadd hx hb dL_law_1022 ?_
  refine va_sld hx hb hXs hbl hbA hS i1 dL_law_1023 ?_
  rw [← hy1]
  refine Ct_VRq (x := .int r2) (As := [.int y1]) (rest := []) hC (c_m_takeOut hg) q_m_takeOut a_1202 ⟨Nat.le_of_ble_eq_true rfl, Nat.le_of_ble_eq_true rfl⟩ (mrec hKX.1 hMX) hMX hKX rfl hl.1 (Nat.le_of_ble_eq_true rfl) dL_law_1024 ⟨by show 36 + 20 * t + 20 + 0 ≤ 601024; omega, by show 1608 + 200 * t + 200 + 0 ≤ 7293034; omega⟩ hS (fun q hq => AM_A0 hn1 hq) (fun H1 locs hMX1 hz1 hk1 hS => ?_)
  replace hAX := AX.keptA hAX (fun q hq => AL_AM hq) hk1
  replace hO := ox_kept hO AM_o hk1
  replace hMX := hMX1
  clear hMX1
  generalize H1 = H at hAX hMX hO hS ⊢
  refine lv_istore (lv' := [(6, .int r2), (5, .int k), (0, .ref b), (1, .ref x0), (2, .ref (adm 0)), (3, .ref o), (4, .int (nI (5 * t)))]) hx hb dL_law_1027 hl (by decide) rfl (fun ls hl => ?_)
  refine lv_aload_n hx hb dL_law_1029 rfl (lv_at hl 4 rfl) ?_
  refine Ct_VRq (x := .int k) (As := []) (rest := []) hC (c_m_thrown hth) q_m_thrown a_1078 ⟨Nat.le_of_ble_eq_true rfl, Nat.le_of_ble_eq_true rfl⟩ (mrec hKX.1 hMX) hMX hKX rfl hl.1 (Nat.le_of_ble_eq_true rfl) dL_law_1030 ⟨by show 36 + 20 * t + 20 + 0 + 0 ≤ 601024; omega, by show 1608 + 200 * t + 200 + 0 + 0 ≤ 7293034; omega⟩ hS (fun q hq => AM_A0 hn1 hq) (fun H1 locs hMX1 hz1 hk1 hS => ?_)
  replace hAX := AX.keptA hAX (fun q hq => AL_AM hq) hk1
  replace hO := ox_kept hO AM_o hk1
  replace hMX := hMX1
  clear hMX1
  generalize H1 = H at hAX hMX hO hS ⊢
  refine lv_iload hx hb dL_law_1033 (lv_at hl 1 rfl) ?_
  refine lv_icmp_eq (tgt := 1040) hx hb dL_law_1035 (by decide) (fun _ => ?_) (fun z => absurd rfl z)
  refine lv_iload hx hb dL_law_1040 (lv_at hl 1 rfl) ?_
  refine lv_if_ne (tgt := 1057) hx hb dL_law_1042 (by decide) (fun _ => ?_) (fun hk0 => ?_)
  · refine lv_goto (tgt := 1472) hx hb dL_law_1057 (by decide) ?_
    refine W.widen (k := 36 + 20 * (t + 1)) (n := 1608 + 200 * (t + 1)) (by omega) (by omega) ?_
    exact KK _ _ _ _ _ _ H locs ls hR1 hAX hMX hO hS (lv_sub hl [2, 3, 4, 5, 6] rfl)
  · have he0 : e0 = 0 := by
      rcases hk with z | z | z
      · exact z.1
      · exact absurd (hk0.symm.trans z.2) (by decide)
      · exact absurd (hk0.symm.trans z.2) (by decide)
    refine lv_aload_n hx hb dL_law_1045 rfl (lv_at hl 5 rfl) ?_
    refine lv_iconst (v := 0) hx hb dL_law_1046 (by decide) ?_
    refine va_lald (tys := tysA cA) hx hb hKX.1 hO 0 2 rfl rfl (by unfold vp_in; decide) dL_law_1047 ?_
    refine lv_iload hx hb dL_law_1048 (lv_at hl 0 rfl) ?_
    refine lv_i2l (v := r2.toInt64) hx hb dL_law_1050 rfl ?_
    refine W.lcmp hx hb dL_law_1051 ?_
    rw [show f1 (0 : Int32).toNatClampNeg = r2.toInt64 by rw [← he he0]; exact hf1 he0, lg_cmp_self]
    refine lv_if_eq (tgt := 1057) hx hb dL_law_1052 (by decide) (fun _ => ?_) (fun z => absurd rfl z)
    refine lv_goto (tgt := 1472) hx hb dL_law_1057 (by decide) ?_
    refine W.widen (k := 36 + 20 * (t + 1)) (n := 1608 + 200 * (t + 1)) (by omega) (by omega) ?_
    exact KK _ _ _ _ _ _ H locs ls hR1 hAX hMX hO hS (lv_sub hl [2, 3, 4, 5, 6] rfl)

set_option maxRecDepth 100000 in
set_option maxHeartbeats 4000000 in
theorem lc_change {p : Program} {l : Launch} {e : Env} {s : State} {m : MethodId} {below : List Frame} {meth : Method} {c : Code} {b L : Nat} {xs : Nat → Int32} {D : va_G} {cA : Nat → ClassId} {R : RT} {x0 o n1 : Nat} {adm : Nat → Nat} (hfl : l.stackTraces = false) (hL : L ≤ 2560) (C0 : lw_At p s m meth c b L xs) (hKX : KX D cA s) (hTX : TX (fun q => s.heap.size ≤ q) s) (hNX : NX s) (hSXR : ∀ S G nt nv M, R S G nt nv M → SX S nt nv) (hR : Sm_change R) (hn1 : s.heap.size ≤ n1) (hno : n1 ≤ o) {t : Nat} (ht : 5 * t + 5 ≤ L) {S : St} {G : Gt} {nt nv : Nat} {M : St} {f : Nat → Int64} {H : Heap} {locs : List Loc} {ls : Array Slot} (hRR : R S G nt nv M) (hAX : AX D cA (AL s.heap.size n1 o) x0 S G nt nv H) (hMX : MX D cA (AM n1 o) adm M H) (hO : va_P D vwCl [(o, .inl (cA 2, 1, .inr (.inl f)))] H) (hS : va_S (fun q => s.heap.size ≤ q) s.heap H locs) (hl : lv_has ls 7 [(0, .ref b), (1, .ref x0), (2, .ref (adm 0)), (3, .ref o), (4, .int (nI (5 * t)))])
    (KK : ∀ (S : St) (G : Gt) (nt nv : Nat) (M : St) (f : Nat → Int64) (H : Heap) (locs : List Loc) (ls : Array Slot), R S G nt nv M → AX D cA (AL s.heap.size n1 o) x0 S G nt nv H → MX D cA (AM n1 o) adm M H → va_P D vwCl [(o, .inl (cA 2, 1, .inr (.inl f)))] H → va_S (fun q => s.heap.size ≤ q) s.heap H locs → lv_has ls 7 [(0, .ref b), (1, .ref x0), (2, .ref (adm 0)), (3, .ref o), (4, .int (nI (5 * t)))] → W p l e room_1 s m #[Value.ref b] below meth c H locs (36 + 20 * (t + 1)) (1608 + 200 * (t + 1)) (lw_Z below #[Value.ref b] s) (F0 m 1472 ls [])) :
    W p l e room_1 s m #[Value.ref b] below meth c H locs (36 + 20 * t) (1608 + 200 * t) (lw_Z below #[Value.ref b] s) (F0 m 1060 ls []) := by
  obtain ⟨hx, hb, hr, hml, hown, hts, hXs, hbl, hlocks, hgv⟩ := id C0
  have hT0 : ∀ w ∈ Cond.initialized "LensbenchLaw" :: ALL, w.before #[Value.ref b] s = true := fun w hw => hts w (by
      rcases List.mem_cons.mp hw with rfl | hw
      · exact (List.mem_filter.mp a_50).1
      · exact (List.mem_filter.mp hw).1)
  have hC : CallFix p m c code 7 s #[Value.ref b] (Cond.initialized "LensbenchLaw" :: ALL) "LensbenchLaw" := ⟨hx, hb, hml, hown, hT0⟩
  have hbA : ¬ (fun q : Nat => s.heap.size ≤ q) b := Nat.not_le.mpr hbl
  have i1 : vp_in (nI (5 * t) + 1) L := by
      rw [show (1 : Int32) = nI 1 from rfl, nI_add]
      exact vp_in_nI (by omega) (by omega)
  obtain ⟨y1, hy1⟩ : ∃ z : Int32, z = xs (nI (5 * t) + 1).toNatClampNeg := ⟨_, rfl⟩
  have i2 : vp_in (nI (5 * t) + 2) L := by
      rw [show (2 : Int32) = nI 2 from rfl, nI_add]
      exact vp_in_nI (by omega) (by omega)
  obtain ⟨y2, hy2⟩ : ∃ z : Int32, z = xs (nI (5 * t) + 2).toNatClampNeg := ⟨_, rfl⟩
  have i3 : vp_in (nI (5 * t) + 3) L := by
      rw [show (3 : Int32) = nI 3 from rfl, nI_add]
      exact vp_in_nI (by omega) (by omega)
  obtain ⟨y3, hy3⟩ : ∃ z : Int32, z = xs (nI (5 * t) + 3).toNatClampNeg := ⟨_, rfl⟩
  refine lv_aload_n hx hb dL_law_1060 rfl (lv_at hl 1 rfl) ?_
  refine lv_aload_n hx hb dL_law_1061 rfl (lv_at hl 0 rfl) ?_
  refine lv_iload hx hb dL_law_1062 (lv_at hl 4 rfl) ?_
  refine lv_iconst (v := 1) hx hb dL_law_1064 (by decide) ?_
  refine lv_iadd hx hb dL_law_1065 ?_
  refine va_sld hx hb hXs hbl hbA hS i1 dL_law_1066 ?_
  rw [← hy1]
  refine lv_aload_n hx hb dL_law_1067 rfl (lv_at hl 0 rfl) ?_
  refine lv_iload hx hb dL_law_1068 (lv_at hl 4 rfl) ?_
  refine lv_iconst (v := 2) hx hb dL_law_1070 (by decide) ?_
  refine lv_iadd hx hb dL_law_1071 ?_
  refine va_sld hx hb hXs hbl hbA hS i2 dL_law_1072 ?_
  rw [← hy2]
  refine lv_aload_n hx hb dL_law_1073 rfl (lv_at hl 0 rfl) ?_
  refine lv_iload hx hb dL_law_1074 (lv_at hl 4 rfl) ?_
  refine lv_iconst (v := 3) hx hb dL_law_1076 (by decide) ?_
  refine lv_iadd hx hb dL_law_1077 ?_
  refine va_sld hx hb hXs hbl hbA hS i3 dL_law_1078 ?_
  rw [← hy3]
  refine lv_aload_n hx hb dL_law_1079 rfl (lv_at hl 3 rfl) ?_
  obtain ⟨e0, r, k, r2, S1, M1, hf, hg, hth, hk, he, hR1⟩ := hR S G nt nv M y1 y2 y3 hRR
  refine Ct_SW (As := [.ref x0, .int y1, .int y2, .int y3, .ref o]) (rest := []) hC (w_change (A := AL s.heap.size n1 o) (x0 := x0) (o := o) (f := f) hfl (AL_o hno) (hSXR _ _ _ _ _ hRR) hf hk) qw_change a_707 ⟨Nat.le_of_ble_eq_true rfl, Nat.le_of_ble_eq_true rfl⟩ ⟨hAX, fun q hq => Or.inr (Nat.lt_of_lt_of_le (hO 0 _ rfl).lt hq), hO⟩ hKX hTX hNX rfl hl.1 (Nat.le_of_ble_eq_true rfl) dL_law_1080 ⟨by show 36 + 20 * t + 20 ≤ 601024; omega, by show 1608 + 200 * t + 200 ≤ 7293034; omega⟩ hS (fun q hq => AL_A0 hn1 hno hq) (fun H1 locs hQ hz1 hk1 hS => ?_)
  obtain ⟨hAX, f1, hf1, hO⟩ := hQ
  replace hMX := MX.keptB hMX (fun q hq => AM_AL hq) hk1
  generalize H1 = H at hAX hMX hO hS ⊢
  refine lv_istore (lv' := [(5, .int k), (0, .ref b), (1, .ref x0), (2, .ref (adm 0)), (3, .ref o), (4, .int (nI (5 * t)))]) hx hb dL_law_1083 hl (by decide) rfl (fun ls hl => ?_)
  refine lv_aload_n hx hb dL_law_1085 rfl (lv_at hl 3 rfl) ?_
  refine lv_aload_n hx hb dL_law_1086 rfl (lv_at hl 1 rfl) ?_
  refine lv_iload hx hb dL_law_1087 (lv_at hl 5 rfl) ?_
  refine lv_iconst (v := 1) hx hb dL_law_1089 (by decide) ?_
  refine lv_iadd hx hb dL_law_1090 ?_
  refine va_sld hx hb hXs hbl hbA hS i1 dL_law_1091 ?_
  rw [← hy1]
  refine lv_aload_n hx hb dL_law_1092 rfl (lv_at hl 1 rfl) ?_
  refine lv_iload hx hb dL_law_1093 (lv_at hl 5 rfl) ?_
  refine lv_iconst (v := 2) hx hb dL_law_1095 (by decide) ?_
  refine lv_iadd hx hb dL_law_1096 ?_
  refine va_sld hx hb hXs hbl hbA hS i2 dL_law_1097 ?_
  rw [← hy2]
  refine lv_aload_n hx hb dL_law_1098 rfl (lv_at hl 1 rfl) ?_
  refine lv_iload hx hb dL_law_1099 (lv_at hl 5 rfl) ?_
  refine lv_iconst (v := 3) hx hb dL_law_1101 (by decide) ?_
  refine lv_iadd hx hb dL_law_1102 ?_
  refine va_sld hx hb hXs hbl hbA hS i3 dL_law_1103 ?_
  rw [← hy3]
  refine Ct_VRq (x := .int r2) (As := [.int y1, .int y2, .int y3]) (rest := []) hC (c_m_change hg) q_m_change a_1206 ⟨Nat.le_of_ble_eq_true rfl, Nat.le_of_ble_eq_true rfl⟩ (mrec hKX.1 hMX) hMX hKX rfl hl.1 (Nat.le_of_ble_eq_true rfl) dL_law_1104 ⟨by show 36 + 20 * t + 20 + 0 ≤ 601024; omega, by show 1608 + 200 * t + 200 + 0 ≤ 7293034; omega⟩ hS (fun q hq => AM_A0 hn1 hq) (fun H1 locs hMX1 hz1 hk1 hS => ?_)
  replace hAX := AX.keptA hAX (fun q hq => AL_AM hq) hk1
  replace hO := ox_kept hO AM_o hk1
  replace hMX := hMX1
  clear hMX1
  generalize H1 = H at hAX hMX hO hS ⊢
  refine lv_istore (lv' := [(6, .int r2), (5, .int k), (0, .ref b), (1, .ref x0), (2, .ref (adm 0)), (3, .ref o), (4, .int (nI (5 * t)))]) hx hb dL_law_1107 hl (by decide) rfl (fun ls hl => ?_)
  refine lv_aload_n hx hb dL_law_1109 rfl (lv_at hl 4 rfl) ?_
  refine Ct_VRq (x := .int k) (As := []) (rest := []) hC (c_m_thrown hth) q_m_thrown a_1078 ⟨Nat.le_of_ble_eq_true rfl, Nat.le_of_ble_eq_true rfl⟩ (mrec hKX.1 hMX) hMX hKX rfl hl.1 (Nat.le_of_ble_eq_true rfl) dL_law_1110 ⟨by show 36 + 20 * t + 20 + 0 + 0 ≤ 601024; omega, by show 1608 + 200 * t + 200 + 0 + 0 ≤ 7293034; omega⟩ hS (fun q hq => AM_A0 hn1 hq) (fun H1 locs hMX1 hz1 hk1 hS => ?_)
  replace hAX := AX.keptA hAX (fun q hq => AL_AM hq) hk1
  replace hO := ox_kept hO AM_o hk1
  replace hMX := hMX1
  clear hMX1
  generalize H1 = H at hAX hMX hO hS ⊢
  refine lv_iload hx hb dL_law_1113 (lv_at hl 1 rfl) ?_
  refine lv_icmp_eq (tgt := 1120) hx hb dL_law_1115 (by decide) (fun _ => ?_) (fun z => absurd rfl z)
  refine lv_iload hx hb dL_law_1120 (lv_at hl 1 rfl) ?_
  refine lv_if_ne (tgt := 1137) hx hb dL_law_1122 (by decide) (fun _ => ?_) (fun hk0 => ?_)
  · refine lv_goto (tgt := 1472) hx hb dL_law_1137 (by decide) ?_
    refine W.widen (k := 36 + 20 * (t + 1)) (n := 1608 + 200 * (t + 1)) (by omega) (by omega) ?_
    exact KK _ _ _ _ _ _ H locs ls hR1 hAX hMX hO hS (lv_sub hl [2, 3, 4, 5, 6] rfl)
  · have he0 : e0 = 0 := by
      rcases hk with z | z | z | z
      · exact z.1
      · exact absurd (hk0.symm.trans z.2) (by decide)
      · exact absurd (hk0.symm.trans z.2) (by decide)
      · exact absurd (hk0.symm.trans z.2) (by decide)
    refine lv_aload_n hx hb dL_law_1125 rfl (lv_at hl 5 rfl) ?_
    refine lv_iconst (v := 0) hx hb dL_law_1126 (by decide) ?_
    refine va_lald (tys := tysA cA) hx hb hKX.1 hO 0 2 rfl rfl (by unfold vp_in; decide) dL_law_1127 ?_
    refine lv_iload hx hb dL_law_1128 (lv_at hl 0 rfl) ?_
    refine lv_i2l (v := r2.toInt64) hx hb dL_law_1130 rfl ?_
    refine W.lcmp hx hb dL_law_1131 ?_
    rw [show f1 (0 : Int32).toNatClampNeg = r2.toInt64 by rw [← he he0]; exact hf1 he0, lg_cmp_self]
    refine lv_if_eq (tgt := 1137) hx hb dL_law_1132 (by decide) (fun _ => ?_) (fun z => absurd rfl z)
    refine lv_goto (tgt := 1472) hx hb dL_law_1137 (by decide) ?_
    refine W.widen (k := 36 + 20 * (t + 1)) (n := 1608 + 200 * (t + 1)) (by omega) (by omega) ?_
    exact KK _ _ _ _ _ _ H locs ls hR1 hAX hMX hO hS (lv_sub hl [2, 3, 4, 5, 6] rfl)

set_option maxRecDepth 100000 in
set_option maxHeartbeats 4000000 in
theorem lc_draftRow {p : Program} {l : Launch} {e : Env} {s : State} {m : MethodId} {below : List Frame} {meth : Method} {c : Code} {b L : Nat} {xs : Nat → Int32} {D : va_G} {cA : Nat → ClassId} {R : RT} {x0 o n1 : Nat} {adm : Nat → Nat} (hfl : l.stackTraces = false) (hL : L ≤ 2560) (C0 : lw_At p s m meth c b L xs) (hKX : KX D cA s) (hTX : TX (fun q => s.heap.size ≤ q) s) (hNX : NX s) (hSXR : ∀ S G nt nv M, R S G nt nv M → SX S nt nv) (hR : Sm_draftRow R) (hn1 : s.heap.size ≤ n1) (hno : n1 ≤ o) {t : Nat} (ht : 5 * t + 5 ≤ L) {S : St} {G : Gt} {nt nv : Nat} {M : St} {f : Nat → Int64} {H : Heap} {locs : List Loc} {ls : Array Slot} (hRR : R S G nt nv M) (hAX : AX D cA (AL s.heap.size n1 o) x0 S G nt nv H) (hMX : MX D cA (AM n1 o) adm M H) (hO : va_P D vwCl [(o, .inl (cA 2, 1, .inr (.inl f)))] H) (hS : va_S (fun q => s.heap.size ≤ q) s.heap H locs) (hl : lv_has ls 7 [(0, .ref b), (1, .ref x0), (2, .ref (adm 0)), (3, .ref o), (4, .int (nI (5 * t)))])
    (KK : ∀ (S : St) (G : Gt) (nt nv : Nat) (M : St) (f : Nat → Int64) (H : Heap) (locs : List Loc) (ls : Array Slot), R S G nt nv M → AX D cA (AL s.heap.size n1 o) x0 S G nt nv H → MX D cA (AM n1 o) adm M H → va_P D vwCl [(o, .inl (cA 2, 1, .inr (.inl f)))] H → va_S (fun q => s.heap.size ≤ q) s.heap H locs → lv_has ls 7 [(0, .ref b), (1, .ref x0), (2, .ref (adm 0)), (3, .ref o), (4, .int (nI (5 * t)))] → W p l e room_1 s m #[Value.ref b] below meth c H locs (36 + 20 * (t + 1)) (1608 + 200 * (t + 1)) (lw_Z below #[Value.ref b] s) (F0 m 1472 ls [])) :
    W p l e room_1 s m #[Value.ref b] below meth c H locs (36 + 20 * t) (1608 + 200 * t) (lw_Z below #[Value.ref b] s) (F0 m 1140 ls []) := by
  obtain ⟨hx, hb, hr, hml, hown, hts, hXs, hbl, hlocks, hgv⟩ := id C0
  have hT0 : ∀ w ∈ Cond.initialized "LensbenchLaw" :: ALL, w.before #[Value.ref b] s = true := fun w hw => hts w (by
      rcases List.mem_cons.mp hw with rfl | hw
      · exact (List.mem_filter.mp a_50).1
      · exact (List.mem_filter.mp hw).1)
  have hC : CallFix p m c code 7 s #[Value.ref b] (Cond.initialized "LensbenchLaw" :: ALL) "LensbenchLaw" := ⟨hx, hb, hml, hown, hT0⟩
  have hbA : ¬ (fun q : Nat => s.heap.size ≤ q) b := Nat.not_le.mpr hbl
  have i1 : vp_in (nI (5 * t) + 1) L := by
      rw [show (1 : Int32) = nI 1 from rfl, nI_add]
      exact vp_in_nI (by omega) (by omega)
  obtain ⟨y1, hy1⟩ : ∃ z : Int32, z = xs (nI (5 * t) + 1).toNatClampNeg := ⟨_, rfl⟩
  refine lv_aload_n hx hb dL_law_1140 rfl (lv_at hl 1 rfl) ?_
  refine lv_aload_n hx hb dL_law_1141 rfl (lv_at hl 0 rfl) ?_
  refine lv_iload hx hb dL_law_1142 (lv_at hl 4 rfl) ?_
  refine lv_iconst (v := 1) hx hb dL_law_1144 (by decide) ?_
  refine lv_iadd hx hb dL_law_1145 ?_
  refine va_sld hx hb hXs hbl hbA hS i1 dL_law_1146 ?_
  rw [← hy1]
  refine lv_aload_n hx hb dL_law_1147 rfl (lv_at hl 3 rfl) ?_
  obtain ⟨e0, r, k, r2, S1, M1, hf, hg, hth, hk, he, hR1⟩ := hR S G nt nv M y1 hRR
  refine Ct_SW (As := [.ref x0, .int y1, .ref o]) (rest := []) hC (w_draftRow (A := AL s.heap.size n1 o) (x0 := x0) (o := o) (f := f) hfl (AL_o hno) (hSXR _ _ _ _ _ hRR) hf hk) qw_draftRow a_722 ⟨Nat.le_of_ble_eq_true rfl, Nat.le_of_ble_eq_true rfl⟩ ⟨hAX, fun q hq => Or.inr (Nat.lt_of_lt_of_le (hO 0 _ rfl).lt hq), hO⟩ hKX hTX hNX rfl hl.1 (Nat.le_of_ble_eq_true rfl) dL_law_1148 ⟨by show 36 + 20 * t + 20 ≤ 601024; omega, by show 1608 + 200 * t + 200 ≤ 7293034; omega⟩ hS (fun q hq => AL_A0 hn1 hno hq) (fun H1 locs hQ hz1 hk1 hS => ?_)
  obtain ⟨hAX, f1, hf1, hO⟩ := hQ
  replace hMX := MX.keptB hMX (fun q hq => AM_AL hq) hk1
  generalize H1 = H at hAX hMX hO hS ⊢
  refine lv_istore (lv' := [(5, .int k), (0, .ref b), (1, .ref x0), (2, .ref (adm 0)), (3, .ref o), (4, .int (nI (5 * t)))]) hx hb dL_law_1151 hl (by decide) rfl (fun ls hl => ?_)
  refine lv_aload_n hx hb dL_law_1153 rfl (lv_at hl 3 rfl) ?_
  refine lv_aload_n hx hb dL_law_1154 rfl (lv_at hl 1 rfl) ?_
  refine lv_iload hx hb dL_law_1155 (lv_at hl 5 rfl) ?_
  refine lv_iconst (v := 1) hx hb dL_law_1157 (by decide) ?_
  refine lv_iadd hx hb dL_law_1158 ?_
  refine va_sld hx hb hXs hbl hbA hS i1 dL_law_1159 ?_
  rw [← hy1]
  refine Ct_VRq (x := .int r2) (As := [.int y1]) (rest := []) hC (c_m_draftRow hg) q_m_draftRow a_1210 ⟨Nat.le_of_ble_eq_true rfl, Nat.le_of_ble_eq_true rfl⟩ (mrec hKX.1 hMX) hMX hKX rfl hl.1 (Nat.le_of_ble_eq_true rfl) dL_law_1160 ⟨by show 36 + 20 * t + 20 + 0 ≤ 601024; omega, by show 1608 + 200 * t + 200 + 0 ≤ 7293034; omega⟩ hS (fun q hq => AM_A0 hn1 hq) (fun H1 locs hMX1 hz1 hk1 hS => ?_)
  replace hAX := AX.keptA hAX (fun q hq => AL_AM hq) hk1
  replace hO := ox_kept hO AM_o hk1
  replace hMX := hMX1
  clear hMX1
  generalize H1 = H at hAX hMX hO hS ⊢
  refine lv_istore (lv' := [(6, .int r2), (5, .int k), (0, .ref b), (1, .ref x0), (2, .ref (adm 0)), (3, .ref o), (4, .int (nI (5 * t)))]) hx hb dL_law_1163 hl (by decide) rfl (fun ls hl => ?_)
  refine lv_aload_n hx hb dL_law_1165 rfl (lv_at hl 4 rfl) ?_
  refine Ct_VRq (x := .int k) (As := []) (rest := []) hC (c_m_thrown hth) q_m_thrown a_1078 ⟨Nat.le_of_ble_eq_true rfl, Nat.le_of_ble_eq_true rfl⟩ (mrec hKX.1 hMX) hMX hKX rfl hl.1 (Nat.le_of_ble_eq_true rfl) dL_law_1166 ⟨by show 36 + 20 * t + 20 + 0 + 0 ≤ 601024; omega, by show 1608 + 200 * t + 200 + 0 + 0 ≤ 7293034; omega⟩ hS (fun q hq => AM_A0 hn1 hq) (fun H1 locs hMX1 hz1 hk1 hS => ?_)
  replace hAX := AX.keptA hAX (fun q hq => AL_AM hq) hk1
  replace hO := ox_kept hO AM_o hk1
  replace hMX := hMX1
  clear hMX1
  generalize H1 = H at hAX hMX hO hS ⊢
  refine lv_iload hx hb dL_law_1169 (lv_at hl 1 rfl) ?_
  refine lv_icmp_eq (tgt := 1176) hx hb dL_law_1171 (by decide) (fun _ => ?_) (fun z => absurd rfl z)
  refine lv_iload hx hb dL_law_1176 (lv_at hl 1 rfl) ?_
  refine lv_if_ne (tgt := 1193) hx hb dL_law_1178 (by decide) (fun _ => ?_) (fun hk0 => ?_)
  · refine lv_goto (tgt := 1472) hx hb dL_law_1193 (by decide) ?_
    refine W.widen (k := 36 + 20 * (t + 1)) (n := 1608 + 200 * (t + 1)) (by omega) (by omega) ?_
    exact KK _ _ _ _ _ _ H locs ls hR1 hAX hMX hO hS (lv_sub hl [2, 3, 4, 5, 6] rfl)
  · have he0 : e0 = 0 := by
      rcases hk with z | z | z
      · exact z.1
      · exact absurd (hk0.symm.trans z.2) (by decide)
      · exact absurd (hk0.symm.trans z.2) (by decide)
    refine lv_aload_n hx hb dL_law_1181 rfl (lv_at hl 5 rfl) ?_
    refine lv_iconst (v := 0) hx hb dL_law_1182 (by decide) ?_
    refine va_lald (tys := tysA cA) hx hb hKX.1 hO 0 2 rfl rfl (by unfold vp_in; decide) dL_law_1183 ?_
    refine lv_iload hx hb dL_law_1184 (lv_at hl 0 rfl) ?_
    refine lv_i2l (v := r2.toInt64) hx hb dL_law_1186 rfl ?_
    refine W.lcmp hx hb dL_law_1187 ?_
    rw [show f1 (0 : Int32).toNatClampNeg = r2.toInt64 by rw [← he he0]; exact hf1 he0, lg_cmp_self]
    refine lv_if_eq (tgt := 1193) hx hb dL_law_1188 (by decide) (fun _ => ?_) (fun z => absurd rfl z)
    refine lv_goto (tgt := 1472) hx hb dL_law_1193 (by decide) ?_
    refine W.widen (k := 36 + 20 * (t + 1)) (n := 1608 + 200 * (t + 1)) (by omega) (by omega) ?_
    exact KK _ _ _ _ _ _ H locs ls hR1 hAX hMX hO hS (lv_sub hl [2, 3, 4, 5, 6] rfl)

set_option maxRecDepth 100000 in
set_option maxHeartbeats 4000000 in
theorem lc_conflict {p : Program} {l : Launch} {e : Env} {s : State} {m : MethodId} {below : List Frame} {meth : Method} {c : Code} {b L : Nat} {xs : Nat → Int32} {D : va_G} {cA : Nat → ClassId} {R : RT} {x0 o n1 : Nat} {adm : Nat → Nat} (hfl : l.stackTraces = false) (hL : L ≤ 2560) (C0 : lw_At p s m meth c b L xs) (hKX : KX D cA s) (hTX : TX (fun q => s.heap.size ≤ q) s) (hNX : NX s) (hSXR : ∀ S G nt nv M, R S G nt nv M → SX S nt nv) (hR : Sm_conflict R) (hn1 : s.heap.size ≤ n1) (hno : n1 ≤ o) {t : Nat} (ht : 5 * t + 5 ≤ L) {S : St} {G : Gt} {nt nv : Nat} {M : St} {f : Nat → Int64} {H : Heap} {locs : List Loc} {ls : Array Slot} (hRR : R S G nt nv M) (hAX : AX D cA (AL s.heap.size n1 o) x0 S G nt nv H) (hMX : MX D cA (AM n1 o) adm M H) (hO : va_P D vwCl [(o, .inl (cA 2, 1, .inr (.inl f)))] H) (hS : va_S (fun q => s.heap.size ≤ q) s.heap H locs) (hl : lv_has ls 7 [(0, .ref b), (1, .ref x0), (2, .ref (adm 0)), (3, .ref o), (4, .int (nI (5 * t)))])
    (KK : ∀ (S : St) (G : Gt) (nt nv : Nat) (M : St) (f : Nat → Int64) (H : Heap) (locs : List Loc) (ls : Array Slot), R S G nt nv M → AX D cA (AL s.heap.size n1 o) x0 S G nt nv H → MX D cA (AM n1 o) adm M H → va_P D vwCl [(o, .inl (cA 2, 1, .inr (.inl f)))] H → va_S (fun q => s.heap.size ≤ q) s.heap H locs → lv_has ls 7 [(0, .ref b), (1, .ref x0), (2, .ref (adm 0)), (3, .ref o), (4, .int (nI (5 * t)))] → W p l e room_1 s m #[Value.ref b] below meth c H locs (36 + 20 * (t + 1)) (1608 + 200 * (t + 1)) (lw_Z below #[Value.ref b] s) (F0 m 1472 ls [])) :
    W p l e room_1 s m #[Value.ref b] below meth c H locs (36 + 20 * t) (1608 + 200 * t) (lw_Z below #[Value.ref b] s) (F0 m 1196 ls []) := by
  obtain ⟨hx, hb, hr, hml, hown, hts, hXs, hbl, hlocks, hgv⟩ := id C0
  have hT0 : ∀ w ∈ Cond.initialized "LensbenchLaw" :: ALL, w.before #[Value.ref b] s = true := fun w hw => hts w (by
      rcases List.mem_cons.mp hw with rfl | hw
      · exact (List.mem_filter.mp a_50).1
      · exact (List.mem_filter.mp hw).1)
  have hC : CallFix p m c code 7 s #[Value.ref b] (Cond.initialized "LensbenchLaw" :: ALL) "LensbenchLaw" := ⟨hx, hb, hml, hown, hT0⟩
  have hbA : ¬ (fun q : Nat => s.heap.size ≤ q) b := Nat.not_le.mpr hbl
  refine lv_aload_n hx hb dL_law_1196 rfl (lv_at hl 1 rfl) ?_
  refine lv_aload_n hx hb dL_law_1197 rfl (lv_at hl 3 rfl) ?_
  obtain ⟨e0, r, k, r2, S1, M1, hf, hg, hth, hk, he, hR1⟩ := hR S G nt nv M hRR
  refine Ct_SW (As := [.ref x0, .ref o]) (rest := []) hC (w_conflict (A := AL s.heap.size n1 o) (x0 := x0) (o := o) (f := f) hfl (AL_o hno) (hSXR _ _ _ _ _ hRR) hf hk) qw_conflict a_730 ⟨Nat.le_of_ble_eq_true rfl, Nat.le_of_ble_eq_true rfl⟩ ⟨hAX, fun q hq => Or.inr (Nat.lt_of_lt_of_le (hO 0 _ rfl).lt hq), hO⟩ hKX hTX hNX rfl hl.1 (Nat.le_of_ble_eq_true rfl) dL_law_1198 ⟨by show 36 + 20 * t + 20 ≤ 601024; omega, by show 1608 + 200 * t + 200 ≤ 7293034; omega⟩ hS (fun q hq => AL_A0 hn1 hno hq) (fun H1 locs hQ hz1 hk1 hS => ?_)
  obtain ⟨hAX, f1, hf1, hO⟩ := hQ
  replace hMX := MX.keptB hMX (fun q hq => AM_AL hq) hk1
  generalize H1 = H at hAX hMX hO hS ⊢
  refine lv_istore (lv' := [(5, .int k), (0, .ref b), (1, .ref x0), (2, .ref (adm 0)), (3, .ref o), (4, .int (nI (5 * t)))]) hx hb dL_law_1201 hl (by decide) rfl (fun ls hl => ?_)
  refine lv_aload_n hx hb dL_law_1203 rfl (lv_at hl 3 rfl) ?_
  refine Ct_VRq (x := .int r2) (As := []) (rest := []) hC (c_m_conflict hg) q_m_conflict a_1214 ⟨Nat.le_of_ble_eq_true rfl, Nat.le_of_ble_eq_true rfl⟩ (mrec hKX.1 hMX) hMX hKX rfl hl.1 (Nat.le_of_ble_eq_true rfl) dL_law_1204 ⟨by show 36 + 20 * t + 20 + 0 ≤ 601024; omega, by show 1608 + 200 * t + 200 + 0 ≤ 7293034; omega⟩ hS (fun q hq => AM_A0 hn1 hq) (fun H1 locs hMX1 hz1 hk1 hS => ?_)
  replace hAX := AX.keptA hAX (fun q hq => AL_AM hq) hk1
  replace hO := ox_kept hO AM_o hk1
  replace hMX := hMX1
  clear hMX1
  generalize H1 = H at hAX hMX hO hS ⊢
  refine lv_istore (lv' := [(6, .int r2), (5, .int k), (0, .ref b), (1, .ref x0), (2, .ref (adm 0)), (3, .ref o), (4, .int (nI (5 * t)))]) hx hb dL_law_1207 hl (by decide) rfl (fun ls hl => ?_)
  refine lv_aload_n hx hb dL_law_1209 rfl (lv_at hl 4 rfl) ?_
  refine Ct_VRq (x := .int k) (As := []) (rest := []) hC (c_m_thrown hth) q_m_thrown a_1078 ⟨Nat.le_of_ble_eq_true rfl, Nat.le_of_ble_eq_true rfl⟩ (mrec hKX.1 hMX) hMX hKX rfl hl.1 (Nat.le_of_ble_eq_true rfl) dL_law_1210 ⟨by show 36 + 20 * t + 20 + 0 + 0 ≤ 601024; omega, by show 1608 + 200 * t + 200 + 0 + 0 ≤ 7293034; omega⟩ hS (fun q hq => AM_A0 hn1 hq) (fun H1 locs hMX1 hz1 hk1 hS => ?_)
  replace hAX := AX.keptA hAX (fun q hq => AL_AM hq) hk1
  replace hO := ox_kept hO AM_o hk1
  replace hMX := hMX1
  clear hMX1
  generalize H1 = H at hAX hMX hO hS ⊢
  refine lv_iload hx hb dL_law_1213 (lv_at hl 1 rfl) ?_
  refine lv_icmp_eq (tgt := 1220) hx hb dL_law_1215 (by decide) (fun _ => ?_) (fun z => absurd rfl z)
  refine lv_iload hx hb dL_law_1220 (lv_at hl 1 rfl) ?_
  refine lv_if_ne (tgt := 1237) hx hb dL_law_1222 (by decide) (fun _ => ?_) (fun hk0 => ?_)
  · refine lv_goto (tgt := 1472) hx hb dL_law_1237 (by decide) ?_
    refine W.widen (k := 36 + 20 * (t + 1)) (n := 1608 + 200 * (t + 1)) (by omega) (by omega) ?_
    exact KK _ _ _ _ _ _ H locs ls hR1 hAX hMX hO hS (lv_sub hl [2, 3, 4, 5, 6] rfl)
  · have he0 : e0 = 0 := by
      rcases hk with z | z
      · exact z.1
      · exact absurd (hk0.symm.trans z.2) (by decide)
    refine lv_aload_n hx hb dL_law_1225 rfl (lv_at hl 5 rfl) ?_
    refine lv_iconst (v := 0) hx hb dL_law_1226 (by decide) ?_
    refine va_lald (tys := tysA cA) hx hb hKX.1 hO 0 2 rfl rfl (by unfold vp_in; decide) dL_law_1227 ?_
    refine lv_iload hx hb dL_law_1228 (lv_at hl 0 rfl) ?_
    refine lv_i2l (v := r2.toInt64) hx hb dL_law_1230 rfl ?_
    refine W.lcmp hx hb dL_law_1231 ?_
    rw [show f1 (0 : Int32).toNatClampNeg = r2.toInt64 by rw [← he he0]; exact hf1 he0, lg_cmp_self]
    refine lv_if_eq (tgt := 1237) hx hb dL_law_1232 (by decide) (fun _ => ?_) (fun z => absurd rfl z)
    refine lv_goto (tgt := 1472) hx hb dL_law_1237 (by decide) ?_
    refine W.widen (k := 36 + 20 * (t + 1)) (n := 1608 + 200 * (t + 1)) (by omega) (by omega) ?_
    exact KK _ _ _ _ _ _ H locs ls hR1 hAX hMX hO hS (lv_sub hl [2, 3, 4, 5, 6] rfl)

set_option maxRecDepth 100000 in
set_option maxHeartbeats 4000000 in
theorem lc_conflictRow {p : Program} {l : Launch} {e : Env} {s : State} {m : MethodId} {below : List Frame} {meth : Method} {c : Code} {b L : Nat} {xs : Nat → Int32} {D : va_G} {cA : Nat → ClassId} {R : RT} {x0 o n1 : Nat} {adm : Nat → Nat} (hfl : l.stackTraces = false) (hL : L ≤ 2560) (C0 : lw_At p s m meth c b L xs) (hKX : KX D cA s) (hTX : TX (fun q => s.heap.size ≤ q) s) (hNX : NX s) (hSXR : ∀ S G nt nv M, R S G nt nv M → SX S nt nv) (hR : Sm_conflictRow R) (hn1 : s.heap.size ≤ n1) (hno : n1 ≤ o) {t : Nat} (ht : 5 * t + 5 ≤ L) {S : St} {G : Gt} {nt nv : Nat} {M : St} {f : Nat → Int64} {H : Heap} {locs : List Loc} {ls : Array Slot} (hRR : R S G nt nv M) (hAX : AX D cA (AL s.heap.size n1 o) x0 S G nt nv H) (hMX : MX D cA (AM n1 o) adm M H) (hO : va_P D vwCl [(o, .inl (cA 2, 1, .inr (.inl f)))] H) (hS : va_S (fun q => s.heap.size ≤ q) s.heap H locs) (hl : lv_has ls 7 [(0, .ref b), (1, .ref x0), (2, .ref (adm 0)), (3, .ref o), (4, .int (nI (5 * t)))])
    (KK : ∀ (S : St) (G : Gt) (nt nv : Nat) (M : St) (f : Nat → Int64) (H : Heap) (locs : List Loc) (ls : Array Slot), R S G nt nv M → AX D cA (AL s.heap.size n1 o) x0 S G nt nv H → MX D cA (AM n1 o) adm M H → va_P D vwCl [(o, .inl (cA 2, 1, .inr (.inl f)))] H → va_S (fun q => s.heap.size ≤ q) s.heap H locs → lv_has ls 7 [(0, .ref b), (1, .ref x0), (2, .ref (adm 0)), (3, .ref o), (4, .int (nI (5 * t)))] → W p l e room_1 s m #[Value.ref b] below meth c H locs (36 + 20 * (t + 1)) (1608 + 200 * (t + 1)) (lw_Z below #[Value.ref b] s) (F0 m 1472 ls [])) :
    W p l e room_1 s m #[Value.ref b] below meth c H locs (36 + 20 * t) (1608 + 200 * t) (lw_Z below #[Value.ref b] s) (F0 m 1240 ls []) := by
  obtain ⟨hx, hb, hr, hml, hown, hts, hXs, hbl, hlocks, hgv⟩ := id C0
  have hT0 : ∀ w ∈ Cond.initialized "LensbenchLaw" :: ALL, w.before #[Value.ref b] s = true := fun w hw => hts w (by
      rcases List.mem_cons.mp hw with rfl | hw
      · exact (List.mem_filter.mp a_50).1
      · exact (List.mem_filter.mp hw).1)
  have hC : CallFix p m c code 7 s #[Value.ref b] (Cond.initialized "LensbenchLaw" :: ALL) "LensbenchLaw" := ⟨hx, hb, hml, hown, hT0⟩
  have hbA : ¬ (fun q : Nat => s.heap.size ≤ q) b := Nat.not_le.mpr hbl
  have i1 : vp_in (nI (5 * t) + 1) L := by
      rw [show (1 : Int32) = nI 1 from rfl, nI_add]
      exact vp_in_nI (by omega) (by omega)
  obtain ⟨y1, hy1⟩ : ∃ z : Int32, z = xs (nI (5 * t) + 1).toNatClampNeg := ⟨_, rfl⟩
  refine lv_aload_n hx hb dL_law_1240 rfl (lv_at hl 1 rfl) ?_
  refine lv_aload_n hx hb dL_law_1241 rfl (lv_at hl 0 rfl) ?_
  refine lv_iload hx hb dL_law_1242 (lv_at hl 4 rfl) ?_
  refine lv_iconst (v := 1) hx hb dL_law_1244 (by decide) ?_
  refine lv_iadd hx hb dL_law_1245 ?_
  refine va_sld hx hb hXs hbl hbA hS i1 dL_law_1246 ?_
  rw [← hy1]
  refine lv_aload_n hx hb dL_law_1247 rfl (lv_at hl 3 rfl) ?_
  obtain ⟨e0, r, k, r2, S1, M1, hf, hg, hth, hk, he, hR1⟩ := hR S G nt nv M y1 hRR
  refine Ct_SW (As := [.ref x0, .int y1, .ref o]) (rest := []) hC (w_conflictRow (A := AL s.heap.size n1 o) (x0 := x0) (o := o) (f := f) hfl (AL_o hno) (hSXR _ _ _ _ _ hRR) hf hk) qw_conflictRow a_840 ⟨Nat.le_of_ble_eq_true rfl, Nat.le_of_ble_eq_true rfl⟩ ⟨hAX, fun q hq => Or.inr (Nat.lt_of_lt_of_le (hO 0 _ rfl).lt hq), hO⟩ hKX hTX hNX rfl hl.1 (Nat.le_of_ble_eq_true rfl) dL_law_1248 ⟨by show 36 + 20 * t + 20 ≤ 601024; omega, by show 1608 + 200 * t + 200 ≤ 7293034; omega⟩ hS (fun q hq => AL_A0 hn1 hno hq) (fun H1 locs hQ hz1 hk1 hS => ?_)
  obtain ⟨hAX, f1, hf1, hO⟩ := hQ
  replace hMX := MX.keptB hMX (fun q hq => AM_AL hq) hk1
  generalize H1 = H at hAX hMX hO hS ⊢
  refine lv_istore (lv' := [(5, .int k), (0, .ref b), (1, .ref x0), (2, .ref (adm 0)), (3, .ref o), (4, .int (nI (5 * t)))]) hx hb dL_law_1251 hl (by decide) rfl (fun ls hl => ?_)
  refine lv_aload_n hx hb dL_law_1253 rfl (lv_at hl 3 rfl) ?_
  refine lv_aload_n hx hb dL_law_1254 rfl (lv_at hl 1 rfl) ?_
  refine lv_iload hx hb dL_law_1255 (lv_at hl 5 rfl) ?_
  refine lv_iconst (v := 1) hx hb dL_law_1257 (by decide) ?_
  refine lv_iadd hx hb dL_law_1258 ?_
  refine va_sld hx hb hXs hbl hbA hS i1 dL_law_1259 ?_
  rw [← hy1]
  refine Ct_VRq (x := .int r2) (As := [.int y1]) (rest := []) hC (c_m_conflictRow hg) q_m_conflictRow a_1274 ⟨Nat.le_of_ble_eq_true rfl, Nat.le_of_ble_eq_true rfl⟩ (mrec hKX.1 hMX) hMX hKX rfl hl.1 (Nat.le_of_ble_eq_true rfl) dL_law_1260 ⟨by show 36 + 20 * t + 20 + 0 ≤ 601024; omega, by show 1608 + 200 * t + 200 + 0 ≤ 7293034; omega⟩ hS (fun q hq => AM_A0 hn1 hq) (fun H1 locs hMX1 hz1 hk1 hS => ?_)
  replace hAX := AX.keptA hAX (fun q hq => AL_AM hq) hk1
  replace hO := ox_kept hO AM_o hk1
  replace hMX := hMX1
  clear hMX1
  generalize H1 = H at hAX hMX hO hS ⊢
  refine lv_istore (lv' := [(6, .int r2), (5, .int k), (0, .ref b), (1, .ref x0), (2, .ref (adm 0)), (3, .ref o), (4, .int (nI (5 * t)))]) hx hb dL_law_1263 hl (by decide) rfl (fun ls hl => ?_)
  refine lv_aload_n hx hb dL_law_1265 rfl (lv_at hl 4 rfl) ?_
  refine Ct_VRq (x := .int k) (As := []) (rest := []) hC (c_m_thrown hth) q_m_thrown a_1078 ⟨Nat.le_of_ble_eq_true rfl, Nat.le_of_ble_eq_true rfl⟩ (mrec hKX.1 hMX) hMX hKX rfl hl.1 (Nat.le_of_ble_eq_true rfl) dL_law_1266 ⟨by show 36 + 20 * t + 20 + 0 + 0 ≤ 601024; omega, by show 1608 + 200 * t + 200 + 0 + 0 ≤ 7293034; omega⟩ hS (fun q hq => AM_A0 hn1 hq) (fun H1 locs hMX1 hz1 hk1 hS => ?_)
  replace hAX := AX.keptA hAX (fun q hq => AL_AM hq) hk1
  replace hO := ox_kept hO AM_o hk1
  replace hMX := hMX1
  clear hMX1
  generalize H1 = H at hAX hMX hO hS ⊢
  refine lv_iload hx hb dL_law_1269 (lv_at hl 1 rfl) ?_
  refine lv_icmp_eq (tgt := 1276) hx hb dL_law_1271 (by decide) (fun _ => ?_) (fun z => absurd rfl z)
  refine lv_iload hx hb dL_law_1276 (lv_at hl 1 rfl) ?_
  refine lv_if_ne (tgt := 1293) hx hb dL_law_1278 (by decide) (fun _ => ?_) (fun hk0 => ?_)
  · refine lv_goto (tgt := 1472) hx hb dL_law_1293 (by decide) ?_
    refine W.widen (k := 36 + 20 * (t + 1)) (n := 1608 + 200 * (t + 1)) (by omega) (by omega) ?_
    exact KK _ _ _ _ _ _ H locs ls hR1 hAX hMX hO hS (lv_sub hl [2, 3, 4, 5, 6] rfl)
  · have he0 : e0 = 0 := by
      rcases hk with z | z | z
      · exact z.1
      · exact absurd (hk0.symm.trans z.2) (by decide)
      · exact absurd (hk0.symm.trans z.2) (by decide)
    refine lv_aload_n hx hb dL_law_1281 rfl (lv_at hl 5 rfl) ?_
    refine lv_iconst (v := 0) hx hb dL_law_1282 (by decide) ?_
    refine va_lald (tys := tysA cA) hx hb hKX.1 hO 0 2 rfl rfl (by unfold vp_in; decide) dL_law_1283 ?_
    refine lv_iload hx hb dL_law_1284 (lv_at hl 0 rfl) ?_
    refine lv_i2l (v := r2.toInt64) hx hb dL_law_1286 rfl ?_
    refine W.lcmp hx hb dL_law_1287 ?_
    rw [show f1 (0 : Int32).toNatClampNeg = r2.toInt64 by rw [← he he0]; exact hf1 he0, lg_cmp_self]
    refine lv_if_eq (tgt := 1293) hx hb dL_law_1288 (by decide) (fun _ => ?_) (fun z => absurd rfl z)
    refine lv_goto (tgt := 1472) hx hb dL_law_1293 (by decide) ?_
    refine W.widen (k := 36 + 20 * (t + 1)) (n := 1608 + 200 * (t + 1)) (by omega) (by omega) ?_
    exact KK _ _ _ _ _ _ H locs ls hR1 hAX hMX hO hS (lv_sub hl [2, 3, 4, 5, 6] rfl)

set_option maxRecDepth 100000 in
set_option maxHeartbeats 4000000 in
theorem lc_changes {p : Program} {l : Launch} {e : Env} {s : State} {m : MethodId} {below : List Frame} {meth : Method} {c : Code} {b L : Nat} {xs : Nat → Int32} {D : va_G} {cA : Nat → ClassId} {R : RT} {x0 o n1 : Nat} {adm : Nat → Nat} (hfl : l.stackTraces = false) (hL : L ≤ 2560) (C0 : lw_At p s m meth c b L xs) (hKX : KX D cA s) (hTX : TX (fun q => s.heap.size ≤ q) s) (hNX : NX s) (hSXR : ∀ S G nt nv M, R S G nt nv M → SX S nt nv) (hR : Sm_changes R) (hn1 : s.heap.size ≤ n1) (hno : n1 ≤ o) {t : Nat} (ht : 5 * t + 5 ≤ L) {S : St} {G : Gt} {nt nv : Nat} {M : St} {f : Nat → Int64} {H : Heap} {locs : List Loc} {ls : Array Slot} (hRR : R S G nt nv M) (hAX : AX D cA (AL s.heap.size n1 o) x0 S G nt nv H) (hMX : MX D cA (AM n1 o) adm M H) (hO : va_P D vwCl [(o, .inl (cA 2, 1, .inr (.inl f)))] H) (hS : va_S (fun q => s.heap.size ≤ q) s.heap H locs) (hl : lv_has ls 7 [(0, .ref b), (1, .ref x0), (2, .ref (adm 0)), (3, .ref o), (4, .int (nI (5 * t)))])
    (KK : ∀ (S : St) (G : Gt) (nt nv : Nat) (M : St) (f : Nat → Int64) (H : Heap) (locs : List Loc) (ls : Array Slot), R S G nt nv M → AX D cA (AL s.heap.size n1 o) x0 S G nt nv H → MX D cA (AM n1 o) adm M H → va_P D vwCl [(o, .inl (cA 2, 1, .inr (.inl f)))] H → va_S (fun q => s.heap.size ≤ q) s.heap H locs → lv_has ls 7 [(0, .ref b), (1, .ref x0), (2, .ref (adm 0)), (3, .ref o), (4, .int (nI (5 * t)))] → W p l e room_1 s m #[Value.ref b] below meth c H locs (36 + 20 * (t + 1)) (1608 + 200 * (t + 1)) (lw_Z below #[Value.ref b] s) (F0 m 1472 ls [])) :
    W p l e room_1 s m #[Value.ref b] below meth c H locs (36 + 20 * t) (1608 + 200 * t) (lw_Z below #[Value.ref b] s) (F0 m 1296 ls []) := by
  obtain ⟨hx, hb, hr, hml, hown, hts, hXs, hbl, hlocks, hgv⟩ := id C0
  have hT0 : ∀ w ∈ Cond.initialized "LensbenchLaw" :: ALL, w.before #[Value.ref b] s = true := fun w hw => hts w (by
      rcases List.mem_cons.mp hw with rfl | hw
      · exact (List.mem_filter.mp a_50).1
      · exact (List.mem_filter.mp hw).1)
  have hC : CallFix p m c code 7 s #[Value.ref b] (Cond.initialized "LensbenchLaw" :: ALL) "LensbenchLaw" := ⟨hx, hb, hml, hown, hT0⟩
  have hbA : ¬ (fun q : Nat => s.heap.size ≤ q) b := Nat.not_le.mpr hbl
  refine lv_aload_n hx hb dL_law_1296 rfl (lv_at hl 1 rfl) ?_
  refine lv_aload_n hx hb dL_law_1297 rfl (lv_at hl 3 rfl) ?_
  obtain ⟨e0, r, k, r2, S1, M1, hf, hg, hth, hk, he, hR1⟩ := hR S G nt nv M hRR
  refine Ct_SW (As := [.ref x0, .ref o]) (rest := []) hC (w_changes (A := AL s.heap.size n1 o) (x0 := x0) (o := o) (f := f) hfl (AL_o hno) (hSXR _ _ _ _ _ hRR) hf hk) qw_changes a_848 ⟨Nat.le_of_ble_eq_true rfl, Nat.le_of_ble_eq_true rfl⟩ ⟨hAX, fun q hq => Or.inr (Nat.lt_of_lt_of_le (hO 0 _ rfl).lt hq), hO⟩ hKX hTX hNX rfl hl.1 (Nat.le_of_ble_eq_true rfl) dL_law_1298 ⟨by show 36 + 20 * t + 20 ≤ 601024; omega, by show 1608 + 200 * t + 200 ≤ 7293034; omega⟩ hS (fun q hq => AL_A0 hn1 hno hq) (fun H1 locs hQ hz1 hk1 hS => ?_)
  obtain ⟨hAX, f1, hf1, hO⟩ := hQ
  replace hMX := MX.keptB hMX (fun q hq => AM_AL hq) hk1
  generalize H1 = H at hAX hMX hO hS ⊢
  refine lv_istore (lv' := [(5, .int k), (0, .ref b), (1, .ref x0), (2, .ref (adm 0)), (3, .ref o), (4, .int (nI (5 * t)))]) hx hb dL_law_1301 hl (by decide) rfl (fun ls hl => ?_)
  refine lv_aload_n hx hb dL_law_1303 rfl (lv_at hl 3 rfl) ?_
  refine Ct_VRq (x := .int r2) (As := []) (rest := []) hC (c_m_changes hg) q_m_changes a_1278 ⟨Nat.le_of_ble_eq_true rfl, Nat.le_of_ble_eq_true rfl⟩ (mrec hKX.1 hMX) hMX hKX rfl hl.1 (Nat.le_of_ble_eq_true rfl) dL_law_1304 ⟨by show 36 + 20 * t + 20 + 0 ≤ 601024; omega, by show 1608 + 200 * t + 200 + 0 ≤ 7293034; omega⟩ hS (fun q hq => AM_A0 hn1 hq) (fun H1 locs hMX1 hz1 hk1 hS => ?_)
  replace hAX := AX.keptA hAX (fun q hq => AL_AM hq) hk1
  replace hO := ox_kept hO AM_o hk1
  replace hMX := hMX1
  clear hMX1
  generalize H1 = H at hAX hMX hO hS ⊢
  refine lv_istore (lv' := [(6, .int r2), (5, .int k), (0, .ref b), (1, .ref x0), (2, .ref (adm 0)), (3, .ref o), (4, .int (nI (5 * t)))]) hx hb dL_law_1307 hl (by decide) rfl (fun ls hl => ?_)
  refine lv_aload_n hx hb dL_law_1309 rfl (lv_at hl 4 rfl) ?_
  refine Ct_VRq (x := .int k) (As := []) (rest := []) hC (c_m_thrown hth) q_m_thrown a_1078 ⟨Nat.le_of_ble_eq_true rfl, Nat.le_of_ble_eq_true rfl⟩ (mrec hKX.1 hMX) hMX hKX rfl hl.1 (Nat.le_of_ble_eq_true rfl) dL_law_1310 ⟨by show 36 + 20 * t + 20 + 0 + 0 ≤ 601024; omega, by show 1608 + 200 * t + 200 + 0 + 0 ≤ 7293034; omega⟩ hS (fun q hq => AM_A0 hn1 hq) (fun H1 locs hMX1 hz1 hk1 hS => ?_)
  replace hAX := AX.keptA hAX (fun q hq => AL_AM hq) hk1
  replace hO := ox_kept hO AM_o hk1
  replace hMX := hMX1
  clear hMX1
  generalize H1 = H at hAX hMX hO hS ⊢
  refine lv_iload hx hb dL_law_1313 (lv_at hl 1 rfl) ?_
  refine lv_icmp_eq (tgt := 1320) hx hb dL_law_1315 (by decide) (fun _ => ?_) (fun z => absurd rfl z)
  refine lv_iload hx hb dL_law_1320 (lv_at hl 1 rfl) ?_
  refine lv_if_ne (tgt := 1337) hx hb dL_law_1322 (by decide) (fun _ => ?_) (fun hk0 => ?_)
  · refine lv_goto (tgt := 1472) hx hb dL_law_1337 (by decide) ?_
    refine W.widen (k := 36 + 20 * (t + 1)) (n := 1608 + 200 * (t + 1)) (by omega) (by omega) ?_
    exact KK _ _ _ _ _ _ H locs ls hR1 hAX hMX hO hS (lv_sub hl [2, 3, 4, 5, 6] rfl)
  · have he0 : e0 = 0 := by
      rcases hk with z | z
      · exact z.1
      · exact absurd (hk0.symm.trans z.2) (by decide)
    refine lv_aload_n hx hb dL_law_1325 rfl (lv_at hl 5 rfl) ?_
    refine lv_iconst (v := 0) hx hb dL_law_1326 (by decide) ?_
    refine va_lald (tys := tysA cA) hx hb hKX.1 hO 0 2 rfl rfl (by unfold vp_in; decide) dL_law_1327 ?_
    refine lv_iload hx hb dL_law_1328 (lv_at hl 0 rfl) ?_
    refine lv_i2l (v := r2.toInt64) hx hb dL_law_1330 rfl ?_
    refine W.lcmp hx hb dL_law_1331 ?_
    rw [show f1 (0 : Int32).toNatClampNeg = r2.toInt64 by rw [← he he0]; exact hf1 he0, lg_cmp_self]
    refine lv_if_eq (tgt := 1337) hx hb dL_law_1332 (by decide) (fun _ => ?_) (fun z => absurd rfl z)
    refine lv_goto (tgt := 1472) hx hb dL_law_1337 (by decide) ?_
    refine W.widen (k := 36 + 20 * (t + 1)) (n := 1608 + 200 * (t + 1)) (by omega) (by omega) ?_
    exact KK _ _ _ _ _ _ H locs ls hR1 hAX hMX hO hS (lv_sub hl [2, 3, 4, 5, 6] rfl)

set_option maxRecDepth 100000 in
set_option maxHeartbeats 4000000 in
theorem lc_fewest {p : Program} {l : Launch} {e : Env} {s : State} {m : MethodId} {below : List Frame} {meth : Method} {c : Code} {b L : Nat} {xs : Nat → Int32} {D : va_G} {cA : Nat → ClassId} {R : RT} {x0 o n1 : Nat} {adm : Nat → Nat} (hfl : l.stackTraces = false) (hL : L ≤ 2560) (C0 : lw_At p s m meth c b L xs) (hKX : KX D cA s) (hTX : TX (fun q => s.heap.size ≤ q) s) (hNX : NX s) (hSXR : ∀ S G nt nv M, R S G nt nv M → SX S nt nv) (hR : Sm_fewest R) (hn1 : s.heap.size ≤ n1) (hno : n1 ≤ o) {t : Nat} (ht : 5 * t + 5 ≤ L) {S : St} {G : Gt} {nt nv : Nat} {M : St} {f : Nat → Int64} {H : Heap} {locs : List Loc} {ls : Array Slot} (hRR : R S G nt nv M) (hAX : AX D cA (AL s.heap.size n1 o) x0 S G nt nv H) (hMX : MX D cA (AM n1 o) adm M H) (hO : va_P D vwCl [(o, .inl (cA 2, 1, .inr (.inl f)))] H) (hS : va_S (fun q => s.heap.size ≤ q) s.heap H locs) (hl : lv_has ls 7 [(0, .ref b), (1, .ref x0), (2, .ref (adm 0)), (3, .ref o), (4, .int (nI (5 * t)))])
    (KK : ∀ (S : St) (G : Gt) (nt nv : Nat) (M : St) (f : Nat → Int64) (H : Heap) (locs : List Loc) (ls : Array Slot), R S G nt nv M → AX D cA (AL s.heap.size n1 o) x0 S G nt nv H → MX D cA (AM n1 o) adm M H → va_P D vwCl [(o, .inl (cA 2, 1, .inr (.inl f)))] H → va_S (fun q => s.heap.size ≤ q) s.heap H locs → lv_has ls 7 [(0, .ref b), (1, .ref x0), (2, .ref (adm 0)), (3, .ref o), (4, .int (nI (5 * t)))] → W p l e room_1 s m #[Value.ref b] below meth c H locs (36 + 20 * (t + 1)) (1608 + 200 * (t + 1)) (lw_Z below #[Value.ref b] s) (F0 m 1472 ls [])) :
    W p l e room_1 s m #[Value.ref b] below meth c H locs (36 + 20 * t) (1608 + 200 * t) (lw_Z below #[Value.ref b] s) (F0 m 1340 ls []) := by
  obtain ⟨hx, hb, hr, hml, hown, hts, hXs, hbl, hlocks, hgv⟩ := id C0
  have hT0 : ∀ w ∈ Cond.initialized "LensbenchLaw" :: ALL, w.before #[Value.ref b] s = true := fun w hw => hts w (by
      rcases List.mem_cons.mp hw with rfl | hw
      · exact (List.mem_filter.mp a_50).1
      · exact (List.mem_filter.mp hw).1)
  have hC : CallFix p m c code 7 s #[Value.ref b] (Cond.initialized "LensbenchLaw" :: ALL) "LensbenchLaw" := ⟨hx, hb, hml, hown, hT0⟩
  have hbA : ¬ (fun q : Nat => s.heap.size ≤ q) b := Nat.not_le.mpr hbl
  refine lv_aload_n hx hb dL_law_1340 rfl (lv_at hl 1 rfl) ?_
  refine lv_aload_n hx hb dL_law_1341 rfl (lv_at hl 3 rfl) ?_
  obtain ⟨e0, r, k, r2, S1, M1, hf, hg, hth, hk, he, hR1⟩ := hR S G nt nv M hRR
  refine Ct_SW (As := [.ref x0, .ref o]) (rest := []) hC (w_fewest (A := AL s.heap.size n1 o) (x0 := x0) (o := o) (f := f) hfl (AL_o hno) (hSXR _ _ _ _ _ hRR) hf hk) qw_fewest a_863 ⟨Nat.le_of_ble_eq_true rfl, Nat.le_of_ble_eq_true rfl⟩ ⟨hAX, fun q hq => Or.inr (Nat.lt_of_lt_of_le (hO 0 _ rfl).lt hq), hO⟩ hKX hTX hNX rfl hl.1 (Nat.le_of_ble_eq_true rfl) dL_law_1342 ⟨by show 36 + 20 * t + 20 ≤ 601024; omega, by show 1608 + 200 * t + 200 ≤ 7293034; omega⟩ hS (fun q hq => AL_A0 hn1 hno hq) (fun H1 locs hQ hz1 hk1 hS => ?_)
  obtain ⟨hAX, f1, hf1, hO⟩ := hQ
  replace hMX := MX.keptB hMX (fun q hq => AM_AL hq) hk1
  generalize H1 = H at hAX hMX hO hS ⊢
  refine lv_istore (lv' := [(5, .int k), (0, .ref b), (1, .ref x0), (2, .ref (adm 0)), (3, .ref o), (4, .int (nI (5 * t)))]) hx hb dL_law_1345 hl (by decide) rfl (fun ls hl => ?_)
  refine lv_aload_n hx hb dL_law_1347 rfl (lv_at hl 3 rfl) ?_
  refine Ct_VRq (x := .int r2) (As := []) (rest := []) hC (c_m_fewest hg) q_m_fewest a_1286 ⟨Nat.le_of_ble_eq_true rfl, Nat.le_of_ble_eq_true rfl⟩ (mrec hKX.1 hMX) hMX hKX rfl hl.1 (Nat.le_of_ble_eq_true rfl) dL_law_1348 ⟨by show 36 + 20 * t + 20 + 0 ≤ 601024; omega, by show 1608 + 200 * t + 200 + 0 ≤ 7293034; omega⟩ hS (fun q hq => AM_A0 hn1 hq) (fun H1 locs hMX1 hz1 hk1 hS => ?_)
  replace hAX := AX.keptA hAX (fun q hq => AL_AM hq) hk1
  replace hO := ox_kept hO AM_o hk1
  replace hMX := hMX1
  clear hMX1
  generalize H1 = H at hAX hMX hO hS ⊢
  refine lv_istore (lv' := [(6, .int r2), (5, .int k), (0, .ref b), (1, .ref x0), (2, .ref (adm 0)), (3, .ref o), (4, .int (nI (5 * t)))]) hx hb dL_law_1351 hl (by decide) rfl (fun ls hl => ?_)
  refine lv_aload_n hx hb dL_law_1353 rfl (lv_at hl 4 rfl) ?_
  refine Ct_VRq (x := .int k) (As := []) (rest := []) hC (c_m_thrown hth) q_m_thrown a_1078 ⟨Nat.le_of_ble_eq_true rfl, Nat.le_of_ble_eq_true rfl⟩ (mrec hKX.1 hMX) hMX hKX rfl hl.1 (Nat.le_of_ble_eq_true rfl) dL_law_1354 ⟨by show 36 + 20 * t + 20 + 0 + 0 ≤ 601024; omega, by show 1608 + 200 * t + 200 + 0 + 0 ≤ 7293034; omega⟩ hS (fun q hq => AM_A0 hn1 hq) (fun H1 locs hMX1 hz1 hk1 hS => ?_)
  replace hAX := AX.keptA hAX (fun q hq => AL_AM hq) hk1
  replace hO := ox_kept hO AM_o hk1
  replace hMX := hMX1
  clear hMX1
  generalize H1 = H at hAX hMX hO hS ⊢
  refine lv_iload hx hb dL_law_1357 (lv_at hl 1 rfl) ?_
  refine lv_icmp_eq (tgt := 1364) hx hb dL_law_1359 (by decide) (fun _ => ?_) (fun z => absurd rfl z)
  refine lv_iload hx hb dL_law_1364 (lv_at hl 1 rfl) ?_
  refine lv_if_ne (tgt := 1381) hx hb dL_law_1366 (by decide) (fun _ => ?_) (fun hk0 => ?_)
  · refine lv_goto (tgt := 1472) hx hb dL_law_1381 (by decide) ?_
    refine W.widen (k := 36 + 20 * (t + 1)) (n := 1608 + 200 * (t + 1)) (by omega) (by omega) ?_
    exact KK _ _ _ _ _ _ H locs ls hR1 hAX hMX hO hS (lv_sub hl [2, 3, 4, 5, 6] rfl)
  · have he0 : e0 = 0 := by
      rcases hk with z | z
      · exact z.1
      · exact absurd (hk0.symm.trans z.2) (by decide)
    refine lv_aload_n hx hb dL_law_1369 rfl (lv_at hl 5 rfl) ?_
    refine lv_iconst (v := 0) hx hb dL_law_1370 (by decide) ?_
    refine va_lald (tys := tysA cA) hx hb hKX.1 hO 0 2 rfl rfl (by unfold vp_in; decide) dL_law_1371 ?_
    refine lv_iload hx hb dL_law_1372 (lv_at hl 0 rfl) ?_
    refine lv_i2l (v := r2.toInt64) hx hb dL_law_1374 rfl ?_
    refine W.lcmp hx hb dL_law_1375 ?_
    rw [show f1 (0 : Int32).toNatClampNeg = r2.toInt64 by rw [← he he0]; exact hf1 he0, lg_cmp_self]
    refine lv_if_eq (tgt := 1381) hx hb dL_law_1376 (by decide) (fun _ => ?_) (fun z => absurd rfl z)
    refine lv_goto (tgt := 1472) hx hb dL_law_1381 (by decide) ?_
    refine W.widen (k := 36 + 20 * (t + 1)) (n := 1608 + 200 * (t + 1)) (by omega) (by omega) ?_
    exact KK _ _ _ _ _ _ H locs ls hR1 hAX hMX hO hS (lv_sub hl [2, 3, 4, 5, 6] rfl)

set_option maxRecDepth 100000 in
set_option maxHeartbeats 4000000 in
theorem lc_putBack {p : Program} {l : Launch} {e : Env} {s : State} {m : MethodId} {below : List Frame} {meth : Method} {c : Code} {b L : Nat} {xs : Nat → Int32} {D : va_G} {cA : Nat → ClassId} {R : RT} {x0 o n1 : Nat} {adm : Nat → Nat} (hfl : l.stackTraces = false) (hL : L ≤ 2560) (C0 : lw_At p s m meth c b L xs) (hKX : KX D cA s) (hTX : TX (fun q => s.heap.size ≤ q) s) (hNX : NX s) (hSXR : ∀ S G nt nv M, R S G nt nv M → SX S nt nv) (hR : Sm_putBack R) (hn1 : s.heap.size ≤ n1) (hno : n1 ≤ o) {t : Nat} (ht : 5 * t + 5 ≤ L) {S : St} {G : Gt} {nt nv : Nat} {M : St} {f : Nat → Int64} {H : Heap} {locs : List Loc} {ls : Array Slot} (hRR : R S G nt nv M) (hAX : AX D cA (AL s.heap.size n1 o) x0 S G nt nv H) (hMX : MX D cA (AM n1 o) adm M H) (hO : va_P D vwCl [(o, .inl (cA 2, 1, .inr (.inl f)))] H) (hS : va_S (fun q => s.heap.size ≤ q) s.heap H locs) (hl : lv_has ls 7 [(0, .ref b), (1, .ref x0), (2, .ref (adm 0)), (3, .ref o), (4, .int (nI (5 * t)))])
    (KK : ∀ (S : St) (G : Gt) (nt nv : Nat) (M : St) (f : Nat → Int64) (H : Heap) (locs : List Loc) (ls : Array Slot), R S G nt nv M → AX D cA (AL s.heap.size n1 o) x0 S G nt nv H → MX D cA (AM n1 o) adm M H → va_P D vwCl [(o, .inl (cA 2, 1, .inr (.inl f)))] H → va_S (fun q => s.heap.size ≤ q) s.heap H locs → lv_has ls 7 [(0, .ref b), (1, .ref x0), (2, .ref (adm 0)), (3, .ref o), (4, .int (nI (5 * t)))] → W p l e room_1 s m #[Value.ref b] below meth c H locs (36 + 20 * (t + 1)) (1608 + 200 * (t + 1)) (lw_Z below #[Value.ref b] s) (F0 m 1472 ls [])) :
    W p l e room_1 s m #[Value.ref b] below meth c H locs (36 + 20 * t) (1608 + 200 * t) (lw_Z below #[Value.ref b] s) (F0 m 1384 ls []) := by
  obtain ⟨hx, hb, hr, hml, hown, hts, hXs, hbl, hlocks, hgv⟩ := id C0
  have hT0 : ∀ w ∈ Cond.initialized "LensbenchLaw" :: ALL, w.before #[Value.ref b] s = true := fun w hw => hts w (by
      rcases List.mem_cons.mp hw with rfl | hw
      · exact (List.mem_filter.mp a_50).1
      · exact (List.mem_filter.mp hw).1)
  have hC : CallFix p m c code 7 s #[Value.ref b] (Cond.initialized "LensbenchLaw" :: ALL) "LensbenchLaw" := ⟨hx, hb, hml, hown, hT0⟩
  have hbA : ¬ (fun q : Nat => s.heap.size ≤ q) b := Nat.not_le.mpr hbl
  refine lv_aload_n hx hb dL_law_1384 rfl (lv_at hl 1 rfl) ?_
  refine lv_aload_n hx hb dL_law_1385 rfl (lv_at hl 3 rfl) ?_
  obtain ⟨e0, r, k, r2, S1, M1, hf, hg, hth, hk, he, hR1⟩ := hR S G nt nv M hRR
  refine Ct_SW (As := [.ref x0, .ref o]) (rest := []) hC (w_putBack (A := AL s.heap.size n1 o) (x0 := x0) (o := o) (f := f) hfl (AL_o hno) (hSXR _ _ _ _ _ hRR) hf hk) qw_putBack a_927 ⟨Nat.le_of_ble_eq_true rfl, Nat.le_of_ble_eq_true rfl⟩ ⟨hAX, fun q hq => Or.inr (Nat.lt_of_lt_of_le (hO 0 _ rfl).lt hq), hO⟩ hKX hTX hNX rfl hl.1 (Nat.le_of_ble_eq_true rfl) dL_law_1386 ⟨by show 36 + 20 * t + 20 ≤ 601024; omega, by show 1608 + 200 * t + 200 ≤ 7293034; omega⟩ hS (fun q hq => AL_A0 hn1 hno hq) (fun H1 locs hQ hz1 hk1 hS => ?_)
  obtain ⟨hAX, f1, hf1, hO⟩ := hQ
  replace hMX := MX.keptB hMX (fun q hq => AM_AL hq) hk1
  generalize H1 = H at hAX hMX hO hS ⊢
  refine lv_istore (lv' := [(5, .int k), (0, .ref b), (1, .ref x0), (2, .ref (adm 0)), (3, .ref o), (4, .int (nI (5 * t)))]) hx hb dL_law_1389 hl (by decide) rfl (fun ls hl => ?_)
  refine lv_aload_n hx hb dL_law_1391 rfl (lv_at hl 3 rfl) ?_
  refine Ct_VRq (x := .int r2) (As := []) (rest := []) hC (c_m_putBack hg) q_m_putBack a_1317 ⟨Nat.le_of_ble_eq_true rfl, Nat.le_of_ble_eq_true rfl⟩ (mrec hKX.1 hMX) hMX hKX rfl hl.1 (Nat.le_of_ble_eq_true rfl) dL_law_1392 ⟨by show 36 + 20 * t + 20 + 0 ≤ 601024; omega, by show 1608 + 200 * t + 200 + 0 ≤ 7293034; omega⟩ hS (fun q hq => AM_A0 hn1 hq) (fun H1 locs hMX1 hz1 hk1 hS => ?_)
  replace hAX := AX.keptA hAX (fun q hq => AL_AM hq) hk1
  replace hO := ox_kept hO AM_o hk1
  replace hMX := hMX1
  clear hMX1
  generalize H1 = H at hAX hMX hO hS ⊢
  refine lv_istore (lv' := [(6, .int r2), (5, .int k), (0, .ref b), (1, .ref x0), (2, .ref (adm 0)), (3, .ref o), (4, .int (nI (5 * t)))]) hx hb dL_law_1395 hl (by decide) rfl (fun ls hl => ?_)
  refine lv_aload_n hx hb dL_law_1397 rfl (lv_at hl 4 rfl) ?_
  refine Ct_VRq (x := .int k) (As := []) (rest := []) hC (c_m_thrown hth) q_m_thrown a_1078 ⟨Nat.le_of_ble_eq_true rfl, Nat.le_of_ble_eq_true rfl⟩ (mrec hKX.1 hMX) hMX hKX rfl hl.1 (Nat.le_of_ble_eq_true rfl) dL_law_1398 ⟨by show 36 + 20 * t + 20 + 0 + 0 ≤ 601024; omega, by show 1608 + 200 * t + 200 + 0 + 0 ≤ 7293034; omega⟩ hS (fun q hq => AM_A0 hn1 hq) (fun H1 locs hMX1 hz1 hk1 hS => ?_)
  replace hAX := AX.keptA hAX (fun q hq => AL_AM hq) hk1
  replace hO := ox_kept hO AM_o hk1
  replace hMX := hMX1
  clear hMX1
  generalize H1 = H at hAX hMX hO hS ⊢
  refine lv_iload hx hb dL_law_1401 (lv_at hl 1 rfl) ?_
  refine lv_icmp_eq (tgt := 1408) hx hb dL_law_1403 (by decide) (fun _ => ?_) (fun z => absurd rfl z)
  refine lv_iload hx hb dL_law_1408 (lv_at hl 1 rfl) ?_
  refine lv_if_ne (tgt := 1425) hx hb dL_law_1410 (by decide) (fun _ => ?_) (fun hk0 => ?_)
  · refine lv_goto (tgt := 1472) hx hb dL_law_1425 (by decide) ?_
    refine W.widen (k := 36 + 20 * (t + 1)) (n := 1608 + 200 * (t + 1)) (by omega) (by omega) ?_
    exact KK _ _ _ _ _ _ H locs ls hR1 hAX hMX hO hS (lv_sub hl [2, 3, 4, 5, 6] rfl)
  · have he0 : e0 = 0 := by
      rcases hk with z | z
      · exact z.1
      · exact absurd (hk0.symm.trans z.2) (by decide)
    refine lv_aload_n hx hb dL_law_1413 rfl (lv_at hl 5 rfl) ?_
    refine lv_iconst (v := 0) hx hb dL_law_1414 (by decide) ?_
    refine va_lald (tys := tysA cA) hx hb hKX.1 hO 0 2 rfl rfl (by unfold vp_in; decide) dL_law_1415 ?_
    refine lv_iload hx hb dL_law_1416 (lv_at hl 0 rfl) ?_
    refine lv_i2l (v := r2.toInt64) hx hb dL_law_1418 rfl ?_
    refine W.lcmp hx hb dL_law_1419 ?_
    rw [show f1 (0 : Int32).toNatClampNeg = r2.toInt64 by rw [← he he0]; exact hf1 he0, lg_cmp_self]
    refine lv_if_eq (tgt := 1425) hx hb dL_law_1420 (by decide) (fun _ => ?_) (fun z => absurd rfl z)
    refine lv_goto (tgt := 1472) hx hb dL_law_1425 (by decide) ?_
    refine W.widen (k := 36 + 20 * (t + 1)) (n := 1608 + 200 * (t + 1)) (by omega) (by omega) ?_
    exact KK _ _ _ _ _ _ H locs ls hR1 hAX hMX hO hS (lv_sub hl [2, 3, 4, 5, 6] rfl)

set_option maxRecDepth 100000 in
set_option maxHeartbeats 4000000 in
theorem lc_undo {p : Program} {l : Launch} {e : Env} {s : State} {m : MethodId} {below : List Frame} {meth : Method} {c : Code} {b L : Nat} {xs : Nat → Int32} {D : va_G} {cA : Nat → ClassId} {R : RT} {x0 o n1 : Nat} {adm : Nat → Nat} (hfl : l.stackTraces = false) (hL : L ≤ 2560) (C0 : lw_At p s m meth c b L xs) (hKX : KX D cA s) (hTX : TX (fun q => s.heap.size ≤ q) s) (hNX : NX s) (hSXR : ∀ S G nt nv M, R S G nt nv M → SX S nt nv) (hR : Sm_undo R) (hn1 : s.heap.size ≤ n1) (hno : n1 ≤ o) {t : Nat} (ht : 5 * t + 5 ≤ L) {S : St} {G : Gt} {nt nv : Nat} {M : St} {f : Nat → Int64} {H : Heap} {locs : List Loc} {ls : Array Slot} (hRR : R S G nt nv M) (hAX : AX D cA (AL s.heap.size n1 o) x0 S G nt nv H) (hMX : MX D cA (AM n1 o) adm M H) (hO : va_P D vwCl [(o, .inl (cA 2, 1, .inr (.inl f)))] H) (hS : va_S (fun q => s.heap.size ≤ q) s.heap H locs) (hl : lv_has ls 7 [(0, .ref b), (1, .ref x0), (2, .ref (adm 0)), (3, .ref o), (4, .int (nI (5 * t)))])
    (KK : ∀ (S : St) (G : Gt) (nt nv : Nat) (M : St) (f : Nat → Int64) (H : Heap) (locs : List Loc) (ls : Array Slot), R S G nt nv M → AX D cA (AL s.heap.size n1 o) x0 S G nt nv H → MX D cA (AM n1 o) adm M H → va_P D vwCl [(o, .inl (cA 2, 1, .inr (.inl f)))] H → va_S (fun q => s.heap.size ≤ q) s.heap H locs → lv_has ls 7 [(0, .ref b), (1, .ref x0), (2, .ref (adm 0)), (3, .ref o), (4, .int (nI (5 * t)))] → W p l e room_1 s m #[Value.ref b] below meth c H locs (36 + 20 * (t + 1)) (1608 + 200 * (t + 1)) (lw_Z below #[Value.ref b] s) (F0 m 1472 ls [])) :
    W p l e room_1 s m #[Value.ref b] below meth c H locs (36 + 20 * t) (1608 + 200 * t) (lw_Z below #[Value.ref b] s) (F0 m 1428 ls []) := by
  obtain ⟨hx, hb, hr, hml, hown, hts, hXs, hbl, hlocks, hgv⟩ := id C0
  have hT0 : ∀ w ∈ Cond.initialized "LensbenchLaw" :: ALL, w.before #[Value.ref b] s = true := fun w hw => hts w (by
      rcases List.mem_cons.mp hw with rfl | hw
      · exact (List.mem_filter.mp a_50).1
      · exact (List.mem_filter.mp hw).1)
  have hC : CallFix p m c code 7 s #[Value.ref b] (Cond.initialized "LensbenchLaw" :: ALL) "LensbenchLaw" := ⟨hx, hb, hml, hown, hT0⟩
  have hbA : ¬ (fun q : Nat => s.heap.size ≤ q) b := Nat.not_le.mpr hbl
  refine lv_aload_n hx hb dL_law_1428 rfl (lv_at hl 1 rfl) ?_
  refine lv_aload_n hx hb dL_law_1429 rfl (lv_at hl 3 rfl) ?_
  obtain ⟨e0, r, k, r2, S1, M1, hf, hg, hth, hk, he, hR1⟩ := hR S G nt nv M hRR
  refine Ct_SW (As := [.ref x0, .ref o]) (rest := []) hC (w_undo (A := AL s.heap.size n1 o) (x0 := x0) (o := o) (f := f) hfl (AL_o hno) (hSXR _ _ _ _ _ hRR) hf hk) qw_undo a_949 ⟨Nat.le_of_ble_eq_true rfl, Nat.le_of_ble_eq_true rfl⟩ ⟨hAX, fun q hq => Or.inr (Nat.lt_of_lt_of_le (hO 0 _ rfl).lt hq), hO⟩ hKX hTX hNX rfl hl.1 (Nat.le_of_ble_eq_true rfl) dL_law_1430 ⟨by show 36 + 20 * t + 20 ≤ 601024; omega, by show 1608 + 200 * t + 200 ≤ 7293034; omega⟩ hS (fun q hq => AL_A0 hn1 hno hq) (fun H1 locs hQ hz1 hk1 hS => ?_)
  obtain ⟨hAX, f1, hf1, hO⟩ := hQ
  replace hMX := MX.keptB hMX (fun q hq => AM_AL hq) hk1
  generalize H1 = H at hAX hMX hO hS ⊢
  refine lv_istore (lv' := [(5, .int k), (0, .ref b), (1, .ref x0), (2, .ref (adm 0)), (3, .ref o), (4, .int (nI (5 * t)))]) hx hb dL_law_1433 hl (by decide) rfl (fun ls hl => ?_)
  refine lv_aload_n hx hb dL_law_1435 rfl (lv_at hl 3 rfl) ?_
  refine Ct_VRq (x := .int r2) (As := []) (rest := []) hC (c_m_undo hg) q_m_undo a_1325 ⟨Nat.le_of_ble_eq_true rfl, Nat.le_of_ble_eq_true rfl⟩ (mrec hKX.1 hMX) hMX hKX rfl hl.1 (Nat.le_of_ble_eq_true rfl) dL_law_1436 ⟨by show 36 + 20 * t + 20 + 0 ≤ 601024; omega, by show 1608 + 200 * t + 200 + 0 ≤ 7293034; omega⟩ hS (fun q hq => AM_A0 hn1 hq) (fun H1 locs hMX1 hz1 hk1 hS => ?_)
  replace hAX := AX.keptA hAX (fun q hq => AL_AM hq) hk1
  replace hO := ox_kept hO AM_o hk1
  replace hMX := hMX1
  clear hMX1
  generalize H1 = H at hAX hMX hO hS ⊢
  refine lv_istore (lv' := [(6, .int r2), (5, .int k), (0, .ref b), (1, .ref x0), (2, .ref (adm 0)), (3, .ref o), (4, .int (nI (5 * t)))]) hx hb dL_law_1439 hl (by decide) rfl (fun ls hl => ?_)
  refine lv_aload_n hx hb dL_law_1441 rfl (lv_at hl 4 rfl) ?_
  refine Ct_VRq (x := .int k) (As := []) (rest := []) hC (c_m_thrown hth) q_m_thrown a_1078 ⟨Nat.le_of_ble_eq_true rfl, Nat.le_of_ble_eq_true rfl⟩ (mrec hKX.1 hMX) hMX hKX rfl hl.1 (Nat.le_of_ble_eq_true rfl) dL_law_1442 ⟨by show 36 + 20 * t + 20 + 0 + 0 ≤ 601024; omega, by show 1608 + 200 * t + 200 + 0 + 0 ≤ 7293034; omega⟩ hS (fun q hq => AM_A0 hn1 hq) (fun H1 locs hMX1 hz1 hk1 hS => ?_)
  replace hAX := AX.keptA hAX (fun q hq => AL_AM hq) hk1
  replace hO := ox_kept hO AM_o hk1
  replace hMX := hMX1
  clear hMX1
  generalize H1 = H at hAX hMX hO hS ⊢
  refine lv_iload hx hb dL_law_1445 (lv_at hl 1 rfl) ?_
  refine lv_icmp_eq (tgt := 1452) hx hb dL_law_1447 (by decide) (fun _ => ?_) (fun z => absurd rfl z)
  refine lv_iload hx hb dL_law_1452 (lv_at hl 1 rfl) ?_
  refine lv_if_ne (tgt := 1469) hx hb dL_law_1454 (by decide) (fun _ => ?_) (fun hk0 => ?_)
  · refine lv_goto (tgt := 1472) hx hb dL_law_1469 (by decide) ?_
    refine W.widen (k := 36 + 20 * (t + 1)) (n := 1608 + 200 * (t + 1)) (by omega) (by omega) ?_
    exact KK _ _ _ _ _ _ H locs ls hR1 hAX hMX hO hS (lv_sub hl [2, 3, 4, 5, 6] rfl)
  · have he0 : e0 = 0 := by
      rcases hk with z | z
      · exact z.1
      · exact absurd (hk0.symm.trans z.2) (by decide)
    refine lv_aload_n hx hb dL_law_1457 rfl (lv_at hl 5 rfl) ?_
    refine lv_iconst (v := 0) hx hb dL_law_1458 (by decide) ?_
    refine va_lald (tys := tysA cA) hx hb hKX.1 hO 0 2 rfl rfl (by unfold vp_in; decide) dL_law_1459 ?_
    refine lv_iload hx hb dL_law_1460 (lv_at hl 0 rfl) ?_
    refine lv_i2l (v := r2.toInt64) hx hb dL_law_1462 rfl ?_
    refine W.lcmp hx hb dL_law_1463 ?_
    rw [show f1 (0 : Int32).toNatClampNeg = r2.toInt64 by rw [← he he0]; exact hf1 he0, lg_cmp_self]
    refine lv_if_eq (tgt := 1469) hx hb dL_law_1464 (by decide) (fun _ => ?_) (fun z => absurd rfl z)
    refine lv_goto (tgt := 1472) hx hb dL_law_1469 (by decide) ?_
    refine W.widen (k := 36 + 20 * (t + 1)) (n := 1608 + 200 * (t + 1)) (by omega) (by omega) ?_
    exact KK _ _ _ _ _ _ H locs ls hR1 hAX hMX hO hS (lv_sub hl [2, 3, 4, 5, 6] rfl)
