def d10_insert (G : Gt) (nt nv : Nat) (x1 : Int32) (x2 : Int32) (S : St) : Option (Nat × Int32 × St) :=
  cb (d10_tableAt x1 S) fun (z11 : Option Nat) => oc z11 (some (3, 0, S)) fun (u13 : Nat) => gd (u13 < nt) <| cb (d1_isRow x2 (G (20 + u13) 0)) fun (z15 : Int32) => if z15 = 0 then (some (1, 0, S)) else (cb (d4_size (1 + 7 * u13) S) fun (z18 : Int32) => if 12 ≤ z18 then (some (2, 0, S)) else (cb (d4_firstLike (1 + 7 * u13) x2 (G (20 + u13) 1) S) fun (z21 : Int32) => if z21 = (-1) then (cb (d4_put (1 + 7 * u13) x2 S) fun (S26 : St) => cb (d10_showViews G nt nv S26) fun (S29 : St) => cb (d4_size (1 + 7 * u13) S29) fun (z30 : Int32) => some (0, z30, S29)) else (some (2, 0, S))))

def d10_delete (G : Gt) (nt nv : Nat) (x1 : Int32) (x2 : Int32) (S : St) : Option (Nat × Int32 × St) :=
  cb (d10_tableAt x1 S) fun (z11 : Option Nat) => oc z11 (some (3, 0, S)) fun (u13 : Nat) => gd (u13 < nt) <| cb (d4_has (1 + 7 * u13) x2 S) fun (z15 : Int32) => if z15 = 0 then (some (4, 0, S)) else (cb (d4_remove (1 + 7 * u13) x2 S) fun (S20 : St) => cb (d10_showViews G nt nv S20) fun (S23 : St) => cb (d4_size (1 + 7 * u13) S23) fun (z24 : Int32) => some (0, z24, S23))

def d10_columns (G : Gt) (nt nv : Nat) (x1 : Int32) (S : St) : Option (Nat × Int32 × St) :=
  cb (d10_viewAt x1 S) fun (z11 : Option Nat) => oc z11 (some (3, 0, S)) fun (u13 : Nat) => gd (u13 < nv) <| some (0, (G u13 1), S)

def d10_key (G : Gt) (nt nv : Nat) (x1 : Int32) (S : St) : Option (Nat × Int32 × St) :=
  cb (d10_viewAt x1 S) fun (z11 : Option Nat) => oc z11 (some (3, 0, S)) fun (u13 : Nat) => gd (u13 < nv) <| some (0, (G u13 2), S)

def d10_rows (G : Gt) (nt nv : Nat) (x1 : Int32) (S : St) : Option (Nat × Int32 × St) :=
  cb (d10_viewAt x1 S) fun (z11 : Option Nat) => oc z11 (some (3, 0, S)) fun (u13 : Nat) => gd (u13 < nv) <| cb (d4_size (22 + 2 * u13) S) fun (z15 : Int32) => some (0, z15, S)

def d10_row (G : Gt) (nt nv : Nat) (x1 : Int32) (x2 : Int32) (S : St) : Option (Nat × Int32 × St) :=
  cb (d10_viewAt x1 S) fun (z11 : Option Nat) => oc z11 (some (3, 0, S)) fun (u13 : Nat) => gd (u13 < nv) <| if x2 < 0 then (some (3, 0, S)) else (cb (d4_size (22 + 2 * u13) S) fun (z16 : Int32) => if x2 < z16 then (cb (d4_at (22 + 2 * u13) x2 S) fun (z19 : Int32) => some (0, z19, S)) else (some (3, 0, S)))

def d10_open (G : Gt) (nt nv : Nat) (x1 : Int32) (S : St) : Option (Nat × Int32 × St) :=
  cb (d10_viewAt x1 S) fun (z11 : Option Nat) => oc z11 (some (3, 0, S)) fun (u13 : Nat) => gd (u13 < nv) <| lt (w1 S 44 (nI u13)) fun (S15 : St) => cb (d4_takeOver 0 (22 + 2 * u13) S15) fun (S18 : St) => cb (d4_size 0 S18) fun (z19 : Int32) => some (0, z19, S18)

def d10_add (G : Gt) (nt nv : Nat) (x1 : Int32) (S : St) : Option (Nat × Int32 × St) :=
  lt (oid (S.1 44)) fun (o11 : Option Nat) => oc o11 (some (2, 0, S)) fun (u12 : Nat) => gd (u12 < nv) <| cb (d4_has 0 x1 S) fun (z14 : Int32) => if z14 = 0 then (cb (d4_size 0 S) fun (z17 : Int32) => if z17 < 20 then (lt (oid (S.1 44)) fun (o20 : Option Nat) => oc o20 none fun (u21 : Nat) => gd (u21 < nv) <| cb (d1_isRow x1 (G u21 1)) fun (z23 : Int32) => if z23 = 0 then (some (1, 0, S)) else (cb (d4_put 0 x1 S) fun (S28 : St) => cb (d4_size 0 S28) fun (z29 : Int32) => some (0, z29, S28))) else (some (2, 0, S))) else (some (2, 0, S))

def d10_takeOut (G : Gt) (nt nv : Nat) (x1 : Int32) (S : St) : Option (Nat × Int32 × St) :=
  lt (oid (S.1 44)) fun (o11 : Option Nat) => oc o11 (some (2, 0, S)) fun (u12 : Nat) => gd (u12 < nv) <| cb (d4_has 0 x1 S) fun (z14 : Int32) => if z14 = 0 then (some (4, 0, S)) else (cb (d4_remove 0 x1 S) fun (S19 : St) => cb (d4_size 0 S19) fun (z20 : Int32) => some (0, z20, S19))

def d10_change (G : Gt) (nt nv : Nat) (x1 : Int32) (x2 : Int32) (x3 : Int32) (S : St) : Option (Nat × Int32 × St) :=
  lt (oid (S.1 44)) fun (o11 : Option Nat) => oc o11 (some (2, 0, S)) fun (u12 : Nat) => gd (u12 < nv) <| lt (oid (S.1 44)) fun (o14 : Option Nat) => oc o14 none fun (u15 : Nat) => gd (u15 < nv) <| cb (d1_isColumn x2 (G u15 1)) fun (z17 : Int32) => if z17 = 0 then (some (1, 0, S)) else (cb (d1_isValue x3) fun (z20 : Int32) => if z20 = 0 then (some (1, 0, S)) else (cb (d4_has 0 x1 S) fun (z23 : Int32) => if z23 = 0 then (some (4, 0, S)) else (cb (d1_with x1 x2 x3) fun (z26 : Int32) => jn (cb (d4_remove 0 x1 S) fun (S31 : St) => cb (d4_put 0 z26 S31) fun (S34 : St) => some (0, z26, S34)) fun k28 => if z26 = x1 then (k28) else (cb (d4_has 0 z26 S) fun (z36 : Int32) => if z36 = 0 then (k28) else (some (4, 0, S))))))

def d10_draftRow (G : Gt) (nt nv : Nat) (x1 : Int32) (S : St) : Option (Nat × Int32 × St) :=
  lt (oid (S.1 44)) fun (o11 : Option Nat) => oc o11 (some (2, 0, S)) fun (u12 : Nat) => gd (u12 < nv) <| if 0 ≤ x1 then (cb (d4_at 0 x1 S) fun (z15 : Int32) => some (0, z15, S)) else (some (3, 0, S))

def d10_conflict (G : Gt) (nt nv : Nat) (S : St) : Option (Nat × Int32 × St) :=
  lt (oid (S.1 44)) fun (o11 : Option Nat) => oc o11 (some (2, 0, S)) fun (u12 : Nat) => gd (u12 < nv) <| cb (d10_planPutBack G nt nv S) fun (S16 : St) => some (0, (S16.1 46), S16)

def d10_conflictRow (G : Gt) (nt nv : Nat) (x1 : Int32) (S : St) : Option (Nat × Int32 × St) :=
  lt (oid (S.1 44)) fun (o11 : Option Nat) => oc o11 (some (2, 0, S)) fun (u12 : Nat) => gd (u12 < nv) <| jn (cb (d10_planPutBack G nt nv S) fun (S17 : St) => if x1 = 0 then (some (0, (S17.1 47), S17)) else (some (0, (S17.1 48), S17))) fun k14 => if x1 = 0 then (k14) else (if x1 = 1 then (k14) else (some (1, 0, S)))

def d10_changes (G : Gt) (nt nv : Nat) (S : St) : Option (Nat × Int32 × St) :=
  lt (oid (S.1 44)) fun (o11 : Option Nat) => oc o11 (some (2, 0, S)) fun (u12 : Nat) => gd (u12 < nv) <| cb (d10_planPutBack G nt nv S) fun (S16 : St) => cb (d0_isTold S16) fun (z17 : Int32) => if z17 = 0 then (cb (d10_countPlanned G nt nv S16) fun (z20 : Int32) => some (0, z20, S16)) else (some (0, (-1), S16))

def d10_fewest (G : Gt) (nt nv : Nat) (S : St) : Option (Nat × Int32 × St) :=
  lt (oid (S.1 44)) fun (o11 : Option Nat) => oc o11 (some (2, 0, S)) fun (u12 : Nat) => gd (u12 < nv) <| lt (oid (S.1 44)) fun (o14 : Option Nat) => oc o14 none fun (u15 : Nat) => gd (u15 < nv) <| cb (d10_onlyTable (G u15 3) S) fun (z17 : Option Nat) => oc z17 (some (2, 0, S)) fun (u19 : Nat) => gd (u19 < nt) <| cb (d8_canTry G nt nv u19 S) fun (z21 : Int32) => if z21 = 0 then (some (2, 0, S)) else (lt (oid (S.1 44)) fun (o24 : Option Nat) => oc o24 none fun (u25 : Nat) => gd (u25 < nv) <| cb2 (d8_fewestChanges G nt nv u25 u19 0 S) fun (z27 : Int32) (S29 : St) => some (0, z27, S29))

def d10_putBack (G : Gt) (nt nv : Nat) (S : St) : Option (Nat × Int32 × St) :=
  lt (oid (S.1 44)) fun (o11 : Option Nat) => oc o11 (some (2, 0, S)) fun (u12 : Nat) => gd (u12 < nv) <| cb (d10_planPutBack G nt nv S) fun (S16 : St) => cb (d0_isTold S16) fun (z17 : Int32) => if z17 = 0 then (cb (d10_countPlanned G nt nv S16) fun (z20 : Int32) => cb (d10_carryOut G nt nv S16) fun (S24 : St) => lt (w1 S24 44 (-1)) fun (S25 : St) => some (0, z20, S25)) else (some (2, 0, S16))

def d10_undo (G : Gt) (nt nv : Nat) (S : St) : Option (Nat × Int32 × St) :=
  if 0 < (S.1 45) then (lt (w1 S 45 ((S.1 45) - 1)) fun (S12 : St) => lp (fun _ _ => none) (fun (g15 : Int32 → St → Option (Nat × Int32 × St)) (x13 : Int32) (S14 : St) => if (S14.1 42) ≤ x13 then (cb (d10_showViews G nt nv S14) fun (S19 : St) => some (0, (S19.1 45), S19)) else (cb (d10_tableAt x13 S14) fun (z20 : Option Nat) => oc z20 (g15 (x13 + 1) S14) fun (u22 : Nat) => gd (u22 < nt) <| cb (d6_recall u22 (S14.1 45) S14) fun (S26 : St) => g15 (x13 + 1) S26)) FU 0 S12) else (some (2, 0, S))
