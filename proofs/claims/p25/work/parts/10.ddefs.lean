def d10_tableAt (x1 : Int32) (S : St) : Option (Option Nat) :=
  if x1 < 0 then (some none) else (if (S.1 42) ≤ x1 then (some none) else (if x1 < 3 then (rd x1 3 fun (j14 : Nat) => lt (if j14 < (S.1 56).toNatClampNeg then some j14 else none) fun (o16 : Option Nat) => some o16) else (some none)))

def d10_viewAt (x1 : Int32) (S : St) : Option (Option Nat) :=
  if x1 < 0 then (some none) else (if (S.1 43) ≤ x1 then (some none) else (if x1 < 10 then (rd x1 10 fun (j14 : Nat) => lt (if j14 < (S.1 55).toNatClampNeg then some j14 else none) fun (o16 : Option Nat) => some o16) else (some none)))

def d10_onlyTable (x1 : Int32) (S : St) : Option (Option Nat) :=
  lp (fun _ => none) (fun (g12 : Int32 → Option (Option Nat)) (x11 : Int32) => if (S.1 42) ≤ x11 then (some none) else (if x1 = (1 <<< (x11 &&& 31)) then (cb (d10_tableAt x11 S) fun (z15 : Option Nat) => some z15) else (g12 (x11 + 1)))) FU 0

def d4_clear (i : Nat) (S : St) : Option St :=
  lt (w1 S i 0) fun (S11 : St) => some S11

def d4_size (i : Nat) (S : St) : Option Int32 :=
  some ((S.1 i))

def d4_at (i : Nat) (x1 : Int32) (S : St) : Option Int32 :=
  if x1 < 0 then (some (-1)) else (if (S.1 i) ≤ x1 then (some (-1)) else (if x1 < (nI (dcap i)) then (rd x1 (dcap i) fun (j14 : Nat) => some ((S.2 i j14))) else (some (-1))))

def d1_isIn (x1 : Int32) (x2 : Int32) : Option Int32 :=
  if ((x2 >>> (x1 &&& 31)) &&& 1) = 1 then (some 1) else (some 0)

def d1_part (x1 : Int32) (x2 : Int32) : Option Int32 :=
  lp (fun _ _ _ _ => none) (fun (g15 : Int32 → Int32 → Int32 → Int32 → Option Int32) (x11 : Int32) (x12 : Int32) (x13 : Int32) (x14 : Int32) => if 6 ≤ x14 then (some x11) else (cb (d1_isIn x14 x2) fun (z17 : Int32) => jn (fun (x19 : Int32) => g15 x19 (x12 / 10) (x13 * 10) (x14 + 1)) fun k20 => if z17 = 0 then (k20 x11) else (k20 (x11 + ((x12 - x12 / 10 * 10) * x13))))) FU 0 x1 1 0

def d4_has (i : Nat) (x1 : Int32) (S : St) : Option Int32 :=
  lp (fun _ => none) (fun (g12 : Int32 → Option Int32) (x11 : Int32) => if (S.1 i) ≤ x11 then (some 0) else (if (nI (dcap i)) ≤ x11 then (some 0) else (rd x11 (dcap i) fun (j15 : Nat) => if (S.2 i j15) = x1 then (some 1) else (g12 (x11 + 1))))) FU 0

def d4_put (i : Nat) (x1 : Int32) (S : St) : Option St :=
  if (nI (dcap i)) ≤ (S.1 i) then (some S) else (cb (d4_has i x1 S) fun (z12 : Int32) => if z12 = 0 then (lp (fun _ _ => none) (fun (g17 : Int32 → St → Option St) (x15 : Int32) (S16 : St) => jn (rd x15 (dcap i) fun (j19 : Nat) => lt (w2 S16 i j19 x1) fun (S21 : St) => lt (w1 S21 i ((S21.1 i) + 1)) fun (S22 : St) => some S22) fun k18 => if x15 ≤ 0 then (k18) else (rd (x15 - 1) (dcap i) fun (j24 : Nat) => if (S16.2 i j24) ≤ x1 then (k18) else (rd (x15 - 1) (dcap i) fun (j27 : Nat) => rd x15 (dcap i) fun (j29 : Nat) => lt (w2 S16 i j29 (S16.2 i j27)) fun (S31 : St) => g17 (x15 + (-1)) S31))) FU (S.1 i) S) else (some S))

def d2_show (G : Gt) (nt nv : Nat) (v : Nat) (S : St) : Option St :=
  cb (d4_clear (22 + 2 * v) S) fun (S13 : St) => lp (fun _ _ => none) (fun (g16 : Int32 → St → Option St) (x14 : Int32) (S15 : St) => cb (d4_size (22 + 2 * (vl G v)) S15) fun (z17 : Int32) => if z17 ≤ x14 then (some S15) else (cb (d4_at (22 + 2 * (vl G v)) x14 S15) fun (z20 : Int32) => cb (d1_part z20 (G v 1)) fun (z22 : Int32) => cb (d4_put (22 + 2 * v) z22 S15) fun (S26 : St) => g16 (x14 + 1) S26)) FU 0 S13

def d1_alike (x1 : Int32) (x2 : Int32) (x3 : Int32) : Option Int32 :=
  lp (fun _ _ _ => none) (fun (g14 : Int32 → Int32 → Int32 → Option Int32) (x11 : Int32) (x12 : Int32) (x13 : Int32) => if 6 ≤ x13 then (some 1) else (if x11 = x12 then (some 1) else (jn (g14 (x11 / 10) (x12 / 10) (x13 + 1)) fun k17 => if ((x3 >>> (x13 &&& 31)) &&& 1) = 1 then (if (x11 - x11 / 10 * 10) = (x12 - x12 / 10 * 10) then (k17) else (some 0)) else (k17)))) FU x1 x2 0

def d4_firstLike (i : Nat) (x1 : Int32) (x2 : Int32) (S : St) : Option Int32 :=
  lp (fun _ => none) (fun (g12 : Int32 → Option Int32) (x11 : Int32) => if (S.1 i) ≤ x11 then (some (-1)) else (cb (d4_at i x11 S) fun (z14 : Int32) => cb (d1_alike z14 x1 x2) fun (z16 : Int32) => if z16 = 0 then (g12 (x11 + 1)) else (cb (d4_at i x11 S) fun (z19 : Int32) => some z19))) FU 0

def d3_show (G : Gt) (nt nv : Nat) (v : Nat) (S : St) : Option St :=
  cb (d4_clear (22 + 2 * v) S) fun (S13 : St) => lp (fun _ _ => none) (fun (g16 : Int32 → St → Option St) (x14 : Int32) (S15 : St) => cb (d4_size (22 + 2 * (vl G v)) S15) fun (z17 : Int32) => if z17 ≤ x14 then (some S15) else (cb (d4_at (22 + 2 * (vl G v)) x14 S15) fun (z20 : Int32) => cb (d4_firstLike (22 + 2 * (vr G v)) z20 (G v 10) S15) fun (z22 : Int32) => if z22 = (-1) then (g16 (x14 + 1) S15) else (cb (d1_part z22 ((G (vr G v) 1) &&& ((G (vl G v) 1) ^^^ (-1)))) fun (z25 : Int32) => cb (d4_put (22 + 2 * v) (z20 + z25) S15) fun (S29 : St) => g16 (x14 + 1) S29))) FU 0 S13

def d1_digit (x1 : Int32) (x2 : Int32) : Option Int32 :=
  lp (fun _ _ => none) (fun (g13 : Int32 → Int32 → Option Int32) (x11 : Int32) (x12 : Int32) => if x2 ≤ x12 then (some ((x11 - x11 / 10 * 10))) else (if 6 ≤ x12 then (some ((x11 - x11 / 10 * 10))) else (g13 (x11 / 10) (x12 + 1)))) FU x1 0

def d5_selects (G : Gt) (nt nv : Nat) (v : Nat) (x1 : Int32) (S : St) : Option Int32 :=
  cb (d1_digit x1 (G v 7)) fun (z11 : Int32) => jn (fun (x13 : Int32) => if x13 = (G v 9) then (some 1) else (some 0)) fun k14 => if z11 = (G v 8) then (k14 1) else (k14 0)

def d5_show (G : Gt) (nt nv : Nat) (v : Nat) (S : St) : Option St :=
  cb (d4_clear (22 + 2 * v) S) fun (S13 : St) => lp (fun _ _ => none) (fun (g16 : Int32 → St → Option St) (x14 : Int32) (S15 : St) => cb (d4_size (22 + 2 * (vl G v)) S15) fun (z17 : Int32) => if z17 ≤ x14 then (some S15) else (cb (d4_at (22 + 2 * (vl G v)) x14 S15) fun (z20 : Int32) => cb (d5_selects G nt nv v z20 S15) fun (z22 : Int32) => if z22 = 0 then (g16 (x14 + 1) S15) else (cb (d4_put (22 + 2 * v) z20 S15) fun (S27 : St) => g16 (x14 + 1) S27))) FU 0 S13

def d4_takeOver (i : Nat) (i1 : Nat) (S : St) : Option St :=
  lt (if (nI (dcap i)) < (S.1 i1) then (nI (dcap i)) else (S.1 i1)) fun (z11 : Int32) => lt (w1 S i z11) fun (S12 : St) => lp (fun _ _ => none) (fun (g15 : Int32 → St → Option St) (x13 : Int32) (S14 : St) => if (S14.1 i) ≤ x13 then (some S14) else (cb (d4_at i1 x13 S14) fun (z17 : Int32) => rd x13 (dcap i) fun (j19 : Nat) => lt (w2 S14 i j19 z17) fun (S21 : St) => g15 (x13 + 1) S21)) FU 0 S12

def d7_show (G : Gt) (nt nv : Nat) (v : Nat) (S : St) : Option St :=
  cb (d4_takeOver (22 + 2 * v) (1 + 7 * (vt G v)) S) fun (S13 : St) => some S13

def d10_keepView (G : Gt) (nt nv : Nat) (v1 : Nat) (S : St) : Option (Int32 × St) :=
  cb (vd (G v1 6) (d2_show G nt nv v1 S) (d3_show G nt nv v1 S) (d5_show G nt nv v1 S) (d7_show G nt nv v1 S)) fun (S13 : St) => if (S13.1 43) < 0 then (some ((G v1 0), S13)) else (if 10 ≤ (S13.1 43) then (some ((G v1 0), S13)) else (rd (S13.1 43) 10 fun (j16 : Nat) => gd ((S13.1 55).toNatClampNeg = j16 ∧ v1 = j16) <| lt (w1 S13 55 (nI (j16 + 1))) fun (S19 : St) => lt (w1 S19 43 ((S19.1 43) + 1)) fun (S20 : St) => some ((G v1 0), S20)))

def d10_showViews (G : Gt) (nt nv : Nat) (S : St) : Option St :=
  lp (fun _ _ => none) (fun (g13 : Int32 → St → Option St) (x11 : Int32) (S12 : St) => if (S12.1 43) ≤ x11 then (some S12) else (cb (d10_viewAt x11 S12) fun (z15 : Option Nat) => oc z15 (g13 (x11 + 1) S12) fun (u17 : Nat) => gd (u17 < nv) <| cb (vd (G u17 6) (d2_show G nt nv u17 S12) (d3_show G nt nv u17 S12) (d5_show G nt nv u17 S12) (d7_show G nt nv u17 S12)) fun (S21 : St) => g13 (x11 + 1) S21)) FU 0 S

def d0_tell (x1 : Int32) (x2 : Int32) (x3 : Int32) (S : St) : Option St :=
  lt (w1 S 46 x1) fun (S11 : St) => lt (w1 S11 47 x2) fun (S12 : St) => lt (w1 S12 48 x3) fun (S13 : St) => some S13

def d0_clear (S : St) : Option St :=
  cb (d0_tell 0 (-1) (-1) S) fun (S13 : St) => some S13

def d0_isTold (S : St) : Option Int32 :=
  if (S.1 46) = 0 then (some 0) else (some 1)

def d0_seekPair (G : Gt) (nt nv : Nat) (v1 : Nat) (x2 : Int32) (x3 : Int32) (x4 : Int32) (S : St) : Option St :=
  lp (fun _ => none) (fun (g12 : Int32 → Option St) (x11 : Int32) => cb (d4_size (23 + 2 * v1) S) fun (z13 : Int32) => if z13 ≤ x11 then (some S) else (lp (fun _ => none) (fun (g17 : Int32 → Option St) (x16 : Int32) => cb (d4_size (23 + 2 * v1) S) fun (z18 : Int32) => if z18 ≤ x16 then (g12 (x11 + 1)) else (cb (d4_at (23 + 2 * v1) x11 S) fun (z21 : Int32) => cb (d4_at (23 + 2 * v1) x16 S) fun (z23 : Int32) => cb (d1_alike z21 z23 x3) fun (z25 : Int32) => if z25 = 0 then (g17 (x16 + 1)) else (cb (d1_alike z21 z23 x4) fun (z28 : Int32) => if z28 = 0 then (cb (d0_tell ((10 * (G v1 0)) + x2) z21 z23 S) fun (S33 : St) => some S33) else (g17 (x16 + 1))))) FU (x11 + 1))) FU 0

def d2_seekOwnConflict (v : Nat) (S : St) : Option St :=
  some S

def d3_seekOwnConflict (G : Gt) (nt nv : Nat) (v : Nat) (S : St) : Option St :=
  cb (d0_seekPair G nt nv v 3 (G (vr G v) 2) (G (vr G v) 1) S) fun (S13 : St) => some S13

def d5_seekOwnConflict (G : Gt) (nt nv : Nat) (v : Nat) (S : St) : Option St :=
  lp (fun _ => none) (fun (g12 : Int32 → Option St) (x11 : Int32) => cb (d4_size (23 + 2 * v) S) fun (z13 : Int32) => if z13 ≤ x11 then (some S) else (cb (d4_at (23 + 2 * v) x11 S) fun (z16 : Int32) => cb (d5_selects G nt nv v z16 S) fun (z18 : Int32) => if z18 = 0 then (cb (d0_tell ((10 * (G v 0)) + 2) z16 (-1) S) fun (S23 : St) => some S23) else (g12 (x11 + 1)))) FU 0

def d7_seekOwnConflict (G : Gt) (nt nv : Nat) (v : Nat) (S : St) : Option St :=
  cb (d4_size (23 + 2 * v) S) fun (z11 : Int32) => if z11 ≤ 12 then (some S) else (cb (d0_tell ((10 * (G v 0)) + 4) (-1) (-1) S) fun (S16 : St) => some S16)

def d9_seekConflict (G : Gt) (nt nv : Nat) (v : Nat) (S : St) : Option St :=
  cb (d0_seekPair G nt nv v 1 (G v 2) (G v 1) S) fun (S13 : St) => cb (d0_isTold S13) fun (z14 : Int32) => if z14 = 0 then (cb (vd (G v 6) (d2_seekOwnConflict v S13) (d3_seekOwnConflict G nt nv v S13) (d5_seekOwnConflict G nt nv v S13) (d7_seekOwnConflict G nt nv v S13)) fun (S19 : St) => some S19) else (some S13)

def d2_hiddenValue (G : Gt) (nt nv : Nat) (v : Nat) (x1 : Int32) (S : St) : Option Int32 :=
  cb (d4_firstLike (22 + 2 * (vl G v)) x1 (G v 2) S) fun (z11 : Int32) => if z11 = (-1) then (some ((G v 8))) else (cb (d1_digit z11 (G v 7)) fun (z14 : Int32) => some z14)

def d1_told (x1 : Int32) (x2 : Int32) : Option Int32 :=
  lp (fun _ _ => none) (fun (g13 : Int32 → Int32 → Option Int32) (x11 : Int32) (x12 : Int32) => if x1 ≤ x12 then (some x11) else (if 6 ≤ x12 then (some x11) else (g13 (x11 * 10) (x12 + 1)))) FU x2 0

def d1_with (x1 : Int32) (x2 : Int32) (x3 : Int32) : Option Int32 :=
  cb (d1_digit x1 x2) fun (z11 : Int32) => cb (d1_told x2 z11) fun (z13 : Int32) => cb (d1_told x2 x3) fun (z15 : Int32) => some (((x1 - z13) + z15))

def d2_passOn (G : Gt) (nt nv : Nat) (v : Nat) (S : St) : Option St :=
  cb (d4_clear (23 + 2 * (vl G v)) S) fun (S13 : St) => lp (fun _ _ => none) (fun (g16 : Int32 → St → Option St) (x14 : Int32) (S15 : St) => cb (d4_size (23 + 2 * v) S15) fun (z17 : Int32) => if z17 ≤ x14 then (some S15) else (cb (d4_at (23 + 2 * v) x14 S15) fun (z20 : Int32) => cb (d2_hiddenValue G nt nv v z20 S15) fun (z22 : Int32) => cb (d1_with z20 (G v 7) z22) fun (z24 : Int32) => cb (d4_put (23 + 2 * (vl G v)) z24 S15) fun (S28 : St) => g16 (x14 + 1) S28)) FU 0 S13

def d9_wantParts (G : Gt) (nt nv : Nat) (v : Nat) (i1 : Nat) (S : St) : Option St :=
  cb (d4_clear (23 + 2 * v) S) fun (S13 : St) => lp (fun _ _ => none) (fun (g16 : Int32 → St → Option St) (x14 : Int32) (S15 : St) => cb (d4_size i1 S15) fun (z17 : Int32) => if z17 ≤ x14 then (some S15) else (cb (d4_at i1 x14 S15) fun (z20 : Int32) => cb (d1_part z20 (G v 1)) fun (z22 : Int32) => cb (d4_put (23 + 2 * v) z22 S15) fun (S26 : St) => g16 (x14 + 1) S26)) FU 0 S13

def d9_wantsKeyOf (G : Gt) (nt nv : Nat) (v : Nat) (x1 : Int32) (S : St) : Option Int32 :=
  cb (d4_firstLike (23 + 2 * v) x1 (G v 2) S) fun (z11 : Int32) => if z11 = (-1) then (some 0) else (some 1)

def d3_passOn (G : Gt) (nt nv : Nat) (v : Nat) (S : St) : Option St :=
  cb (d9_wantParts G nt nv (vr G v) (23 + 2 * v) S) fun (S13 : St) => lp (fun _ _ => none) (fun (g16 : Int32 → St → Option St) (x14 : Int32) (S15 : St) => cb (d4_size (22 + 2 * (vr G v)) S15) fun (z17 : Int32) => if z17 ≤ x14 then (cb (d9_wantParts G nt nv (vl G v) (23 + 2 * v) S15) fun (S22 : St) => lp (fun _ _ => none) (fun (g25 : Int32 → St → Option St) (x23 : Int32) (S24 : St) => cb (d4_size (22 + 2 * (vl G v)) S24) fun (z26 : Int32) => if z26 ≤ x23 then (some S24) else (cb (d4_at (22 + 2 * (vl G v)) x23 S24) fun (z29 : Int32) => cb (d9_wantsKeyOf G nt nv (vl G v) z29 S24) fun (z31 : Int32) => if z31 = 0 then (cb (d4_firstLike (23 + 2 * (vr G v)) z29 (G v 10) S24) fun (z34 : Int32) => if z34 = (-1) then (cb (d4_put (23 + 2 * (vl G v)) z29 S24) fun (S39 : St) => g25 (x23 + 1) S39) else (g25 (x23 + 1) S24)) else (g25 (x23 + 1) S24))) FU 0 S22) else (cb (d4_at (22 + 2 * (vr G v)) x14 S15) fun (z40 : Int32) => cb (d9_wantsKeyOf G nt nv (vr G v) z40 S15) fun (z42 : Int32) => if z42 = 0 then (cb (d4_put (23 + 2 * (vr G v)) z40 S15) fun (S47 : St) => g16 (x14 + 1) S47) else (g16 (x14 + 1) S15))) FU 0 S13

def d5_passOn (G : Gt) (nt nv : Nat) (v : Nat) (S : St) : Option St :=
  cb (d4_takeOver (23 + 2 * (vl G v)) (23 + 2 * v) S) fun (S13 : St) => lp (fun _ _ => none) (fun (g16 : Int32 → St → Option St) (x14 : Int32) (S15 : St) => cb (d4_size (22 + 2 * (vl G v)) S15) fun (z17 : Int32) => if z17 ≤ x14 then (some S15) else (cb (d4_at (22 + 2 * (vl G v)) x14 S15) fun (z20 : Int32) => cb (d5_selects G nt nv v z20 S15) fun (z22 : Int32) => if z22 = 0 then (cb (d9_wantsKeyOf G nt nv v z20 S15) fun (z25 : Int32) => if z25 = 0 then (cb (d4_put (23 + 2 * (vl G v)) z20 S15) fun (S30 : St) => g16 (x14 + 1) S30) else (g16 (x14 + 1) S15)) else (g16 (x14 + 1) S15))) FU 0 S13

def d7_passOn (G : Gt) (nt nv : Nat) (v : Nat) (S : St) : Option St :=
  cb (d4_takeOver (2 + 7 * (vt G v)) (23 + 2 * v) S) fun (S13 : St) => some S13

def d10_passDown (G : Gt) (nt nv : Nat) : Nat → Option Nat → Int32 → St → Option St
  | 0 => fun _ _ _ => none
  | n + 1 => fun (o1 : Option Nat) (x3 : Int32) (S : St) =>
  oc o1 (some S) fun (u11 : Nat) => gd (u11 < nv) <| if 10 ≤ x3 then (some S) else (cb (d0_isTold S) fun (z14 : Int32) => if z14 = 0 then (cb (d9_seekConflict G nt nv u11 S) fun (S19 : St) => cb (d0_isTold S19) fun (z20 : Int32) => if z20 = 0 then (cb (vd (G u11 6) (d2_passOn G nt nv u11 S19) (d3_passOn G nt nv u11 S19) (d5_passOn G nt nv u11 S19) (d7_passOn G nt nv u11 S19)) fun (S25 : St) => lt (oid (G u11 5)) fun (o26 : Option Nat) => cb (d10_passDown G nt nv n o26 (x3 + 1) S25) fun (S29 : St) => lt (oid (G u11 4)) fun (o30 : Option Nat) => cb (d10_passDown G nt nv n o30 (x3 + 1) S29) fun (S33 : St) => some S33) else (some S19)) else (some S))

def d10_planPutBack (G : Gt) (nt nv : Nat) (S : St) : Option St :=
  lp (fun _ _ => none) (fun (g13 : Int32 → St → Option St) (x11 : Int32) (S12 : St) => if (S12.1 42) ≤ x11 then (cb (d0_clear S12) fun (S17 : St) => lt (oid (S17.1 44)) fun (o18 : Option Nat) => oc o18 (some S17) fun (u19 : Nat) => gd (u19 < nv) <| lt (oid (S17.1 44)) fun (o21 : Option Nat) => oc o21 none fun (u22 : Nat) => gd (u22 < nv) <| cb (d4_takeOver (23 + 2 * u22) 0 S17) fun (S26 : St) => lt (oid (S26.1 44)) fun (o27 : Option Nat) => cb (d10_passDown G nt nv 12 o27 0 S26) fun (S30 : St) => some S30) else (cb (d10_tableAt x11 S12) fun (z31 : Option Nat) => oc z31 (g13 (x11 + 1) S12) fun (u33 : Nat) => gd (u33 < nt) <| cb (d4_takeOver (2 + 7 * u33) (1 + 7 * u33) S12) fun (S37 : St) => g13 (x11 + 1) S37)) FU 0 S

def d4_countMissingIn (i : Nat) (i1 : Nat) (S : St) : Option Int32 :=
  lp (fun _ _ => none) (fun (g13 : Int32 → Int32 → Option Int32) (x11 : Int32) (x12 : Int32) => if (S.1 i) ≤ x12 then (some x11) else (cb (d4_at i x12 S) fun (z15 : Int32) => cb (d4_has i1 z15 S) fun (z17 : Int32) => if z17 = 0 then (g13 (x11 + 1) (x12 + 1)) else (g13 x11 (x12 + 1)))) FU 0 0

def d10_countPlanned (G : Gt) (nt nv : Nat) (S : St) : Option Int32 :=
  lp (fun _ _ => none) (fun (g13 : Int32 → Int32 → Option Int32) (x11 : Int32) (x12 : Int32) => if (S.1 42) ≤ x12 then (some x11) else (cb (d10_tableAt x12 S) fun (z15 : Option Nat) => oc z15 (g13 x11 (x12 + 1)) fun (u17 : Nat) => gd (u17 < nt) <| cb (d4_countMissingIn (1 + 7 * u17) (2 + 7 * u17) S) fun (z19 : Int32) => cb (d4_countMissingIn (2 + 7 * u17) (1 + 7 * u17) S) fun (z21 : Int32) => g13 (x11 + (z19 + z21)) (x12 + 1))) FU 0 0

def d6_forgetOldest (t : Nat) (S : St) : Option St :=
  lp (fun _ _ => none) (fun (g13 : Int32 → St → Option St) (x11 : Int32) (S12 : St) => if 5 ≤ (x11 + 1) then (some S12) else (rd x11 5 fun (j15 : Nat) => rd (x11 + 1) 5 fun (j17 : Nat) => rd x11 5 fun (j19 : Nat) => rd (x11 + 1) 5 fun (j21 : Nat) => cb (d4_takeOver (3 + 7 * t + j19) (3 + 7 * t + j21) S12) fun (S25 : St) => g13 (x11 + 1) S25)) FU 0 S

def d6_remember (t : Nat) (x1 : Int32) (S : St) : Option St :=
  jn (fun (x11 : Int32) (S12 : St) => if x11 < 0 then (some S12) else (rd x11 5 fun (j15 : Nat) => rd x11 5 fun (j17 : Nat) => cb (d4_takeOver (3 + 7 * t + j17) (1 + 7 * t) S12) fun (S21 : St) => some S21)) fun k13 => if x1 < 5 then (k13 x1 S) else (cb (d6_forgetOldest t S) fun (S25 : St) => k13 (5 - 1) S25)

def d10_carryOut (G : Gt) (nt nv : Nat) (S : St) : Option St :=
  lp (fun _ _ => none) (fun (g13 : Int32 → St → Option St) (x11 : Int32) (S12 : St) => if (S12.1 42) ≤ x11 then (lt (if 5 < ((S12.1 45) + 1) then 5 else ((S12.1 45) + 1)) fun (z15 : Int32) => lt (w1 S12 45 z15) fun (S16 : St) => cb (d10_showViews G nt nv S16) fun (S19 : St) => some S19) else (cb (d10_tableAt x11 S12) fun (z20 : Option Nat) => oc z20 (g13 (x11 + 1) S12) fun (u22 : Nat) => gd (u22 < nt) <| cb (d6_remember u22 (S12.1 45) S12) fun (S26 : St) => cb (d4_takeOver (1 + 7 * u22) (2 + 7 * u22) S26) fun (S29 : St) => g13 (x11 + 1) S29)) FU 0 S

def d1_isColumn (x1 : Int32) (x2 : Int32) : Option Int32 :=
  if x1 < 0 then (some 0) else (if 6 ≤ x1 then (some 0) else (cb (d1_isIn x1 x2) fun (z13 : Int32) => if z13 = 0 then (some 0) else (some 1)))

def d1_isValue (x1 : Int32) : Option Int32 :=
  if x1 < 0 then (some 0) else (if 9 < x1 then (some 0) else (some 1))

def d1_isRow (x1 : Int32) (x2 : Int32) : Option Int32 :=
  if x1 < 0 then (some 0) else (if 999999 < x1 then (some 0) else (cb (d1_part x1 x2) fun (z13 : Int32) => if z13 = x1 then (some 1) else (some 0)))

def d4_remove (i : Nat) (x1 : Int32) (S : St) : Option St :=
  lp (fun _ _ _ => none) (fun (g14 : Int32 → Int32 → St → Option St) (x11 : Int32) (x12 : Int32) (S13 : St) => if (S13.1 i) ≤ x12 then (lt (w1 S13 i x11) fun (S16 : St) => some S16) else (if (nI (dcap i)) ≤ x12 then (lt (w1 S13 i x11) fun (S18 : St) => some S18) else (rd x12 (dcap i) fun (j19 : Nat) => if (S13.2 i j19) = x1 then (g14 x11 (x12 + 1) S13) else (rd x12 (dcap i) fun (j22 : Nat) => rd x11 (dcap i) fun (j24 : Nat) => lt (w2 S13 i j24 (S13.2 i j22)) fun (S26 : St) => g14 (x11 + 1) (x12 + 1) S26)))) FU 0 0 S

def d6_recall (t : Nat) (x1 : Int32) (S : St) : Option St :=
  if x1 < 0 then (some S) else (if 5 ≤ x1 then (some S) else (rd x1 5 fun (j13 : Nat) => rd x1 5 fun (j15 : Nat) => cb (d4_takeOver (1 + 7 * t) (3 + 7 * t + j15) S) fun (S19 : St) => some S19))

def dJ_bitCount (x1 : Int32) : Option Int32 :=
  lt (((x1 - ((ushr x1 1) &&& 1431655765)) &&& 858993459) + ((ushr (x1 - ((ushr x1 1) &&& 1431655765)) 2) &&& 858993459)) fun (x11 : Int32) => lt (((x11 + (ushr x11 4)) &&& 252645135) + (ushr ((x11 + (ushr x11 4)) &&& 252645135) 8)) fun (x12 : Int32) => some (((x12 + (ushr x12 16)) &&& 63))

def d8_hasGreatValue (x1 : Int32) : Option Int32 :=
  lp (fun _ => none) (fun (g12 : Int32 → Option Int32) (x11 : Int32) => if 6 ≤ x11 then (some 0) else (cb (d1_digit x1 x11) fun (z14 : Int32) => if z14 ≤ 2 then (g12 (x11 + 1)) else (some 1))) FU 0

def d8_canTry (G : Gt) (nt nv : Nat) (t1 : Nat) (S : St) : Option Int32 :=
  cb (dJ_bitCount (G (20 + t1) 0)) fun (z11 : Int32) => if z11 ≤ 2 then (lp (fun _ => none) (fun (g15 : Int32 → Option Int32) (x14 : Int32) => cb (d4_size (1 + 7 * t1) S) fun (z16 : Int32) => if z16 ≤ x14 then (some 1) else (cb (d4_at (1 + 7 * t1) x14 S) fun (z19 : Int32) => cb (d8_hasGreatValue z19) fun (z21 : Int32) => if z21 = 0 then (g15 (x14 + 1)) else (some 0))) FU 0) else (some 0)

def d8_listRows (x1 : Int32) (S : St) : Option St :=
  rd 0 9 fun (j11 : Nat) => lt (w2 S 42 j11 0) fun (S13 : St) => lt (w1 S13 49 1) fun (S14 : St) => lp (fun _ _ => none) (fun (g17 : Int32 → St → Option St) (x15 : Int32) (S16 : St) => if 6 ≤ x15 then (some S16) else (cb (d1_isIn x15 x1) fun (z19 : Int32) => if z19 = 0 then (lp (fun _ _ => none) (fun (g24 : Int32 → St → Option St) (x22 : Int32) (S23 : St) => if (2 * 0) ≤ x22 then (g17 (x15 + 1) S23) else (if 9 ≤ (S23.1 49) then (g17 (x15 + 1) S23) else (rd x22 9 fun (j27 : Nat) => cb (d1_told x15 1) fun (z29 : Int32) => rd (S23.1 49) 9 fun (j31 : Nat) => lt (w2 S23 42 j31 ((S23.2 42 j27) + z29)) fun (S33 : St) => lt (w1 S33 49 ((S33.1 49) + 1)) fun (S34 : St) => g24 (x22 + 1) S34))) FU 0 S16) else (lp (fun _ _ => none) (fun (g37 : Int32 → St → Option St) (x35 : Int32) (S36 : St) => if (2 * (S16.1 49)) ≤ x35 then (g17 (x15 + 1) S36) else (if 9 ≤ (S36.1 49) then (g17 (x15 + 1) S36) else (rd x35 9 fun (j40 : Nat) => cb (d1_told x15 1) fun (z42 : Int32) => rd (S36.1 49) 9 fun (j44 : Nat) => lt (w2 S36 42 j44 ((S36.2 42 j40) + z42)) fun (S46 : St) => lt (w1 S46 49 ((S46.1 49) + 1)) fun (S47 : St) => g37 (x35 + 1) S47))) FU 0 S16))) FU 0 S14

def d9_selects (v : Nat) (x1 : Int32) : Option Int32 :=
  some 1

def d8_isSeen (G : Gt) (nt nv : Nat) (o1 : Option Nat) (x2 : Int32) (S : St) : Option Int32 :=
  lp (fun _ => none) (fun (g12 : Option Nat → Option Int32) (o11 : Option Nat) => oc o11 (some 1) fun (u13 : Nat) => gd (u13 < nv) <| cb (vd (G u13 6) (d9_selects u13 x2) (d9_selects u13 x2) (d5_selects G nt nv u13 x2 S) (d9_selects u13 x2)) fun (z15 : Int32) => if z15 = 0 then (some 0) else (lt (oid (G u13 4)) fun (o18 : Option Nat) => g12 o18)) FU o1

def d8_rivalsOf (x1 : Int32) (x2 : Int32) (S : St) : Option Int32 :=
  lp (fun _ _ => none) (fun (g13 : Int32 → Int32 → Option Int32) (x11 : Int32) (x12 : Int32) => if (S.1 49) ≤ x12 then (some x11) else (if 9 ≤ x12 then (some x11) else (if 9 ≤ x1 then (some x11) else (if x12 = x1 then (g13 x11 (x12 + 1)) else (rd x12 9 fun (j18 : Nat) => rd x1 9 fun (j20 : Nat) => cb (d1_alike (S.2 42 j18) (S.2 42 j20) x2) fun (z22 : Int32) => if z22 = 0 then (g13 x11 (x12 + 1)) else (g13 (x11 ||| (1 <<< (x12 &&& 31))) (x12 + 1))))))) FU 0 0

def d8_sortRows (G : Gt) (nt nv : Nat) (v1 : Nat) (t2 : Nat) (i3 : Nat) (S : St) : Option St :=
  lt (w1 S 50 0) fun (S11 : St) => lt (w1 S11 51 0) fun (S12 : St) => lt (w1 S12 52 0) fun (S13 : St) => lp (fun _ _ => none) (fun (g16 : Int32 → St → Option St) (x14 : Int32) (S15 : St) => if (S15.1 49) ≤ x14 then (some S15) else (if 9 ≤ x14 then (some S15) else (rd x14 9 fun (j19 : Nat) => cb (d4_has (1 + 7 * t2) (S15.2 42 j19) S15) fun (z21 : Int32) => jn (fun (S23 : St) => rd x14 9 fun (j25 : Nat) => cb (d8_isSeen G nt nv (some v1) (S23.2 42 j25) S23) fun (z27 : Int32) => jn (fun (S29 : St) => cb (d8_rivalsOf x14 (G (20 + t2) 1) S29) fun (z31 : Int32) => rd x14 9 fun (j33 : Nat) => lt (w2 S29 43 j33 z31) fun (S35 : St) => g16 (x14 + 1) S35) fun k30 => if z27 = 0 then (k30 S23) else (lt (w1 S23 51 ((S23.1 51) ||| (1 <<< (x14 &&& 31)))) fun (S37 : St) => rd x14 9 fun (j38 : Nat) => cb (d1_part (S37.2 42 j38) (G v1 1)) fun (z40 : Int32) => cb (d4_has i3 z40 S37) fun (z42 : Int32) => if z42 = 0 then (lt (w1 S37 52 ((S37.1 52) ||| (1 <<< (x14 &&& 31)))) fun (S45 : St) => k30 S45) else (k30 S37))) fun k24 => if z21 = 0 then (k24 S15) else (lt (w1 S15 50 ((S15.1 50) ||| (1 <<< (x14 &&& 31)))) fun (S47 : St) => k24 S47)))) FU 0 S13

def d8_hasUnlikeKeys (x1 : Int32) (S : St) : Option Int32 :=
  lp (fun _ => none) (fun (g12 : Int32 → Option Int32) (x11 : Int32) => if (S.1 49) ≤ x11 then (some 1) else (if 9 ≤ x11 then (some 1) else (if ((x1 >>> (x11 &&& 31)) &&& 1) = 1 then (rd x11 9 fun (j16 : Nat) => if (x1 &&& (S.2 43 j16)) = 0 then (g12 (x11 + 1)) else (some 0)) else (g12 (x11 + 1))))) FU 0

def d8_fewestChanges (G : Gt) (nt nv : Nat) (v1 : Nat) (t2 : Nat) (i3 : Nat) (S : St) : Option (Int32 × St) :=
  cb (d8_listRows (G (20 + t2) 0) S) fun (S13 : St) => cb (d8_sortRows G nt nv v1 t2 i3 S13) fun (S16 : St) => lp (fun _ _ => none) (fun (g19 : Int32 → Int32 → Option (Int32 × St)) (x17 : Int32) (x18 : Int32) => if (1 <<< ((S16.1 49) &&& 31)) ≤ x18 then (some (x17, S16)) else (if (x18 &&& (S16.1 52)) = 0 then (cb (dJ_bitCount (x18 &&& (S16.1 51))) fun (z22 : Int32) => cb (d4_size i3 S16) fun (z24 : Int32) => if z22 = z24 then (cb (d8_hasUnlikeKeys x18 S16) fun (z27 : Int32) => if z27 = 0 then (g19 x17 (x18 + 1)) else (cb (dJ_bitCount (x18 ^^^ (S16.1 50))) fun (z30 : Int32) => if x17 = (-1) then (g19 z30 (x18 + 1)) else (lt (if z30 < x17 then z30 else x17) fun (z33 : Int32) => g19 z33 (x18 + 1)))) else (g19 x17 (x18 + 1))) else (g19 x17 (x18 + 1)))) FU (-1) 0
