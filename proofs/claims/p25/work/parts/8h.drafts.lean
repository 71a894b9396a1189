/-! ===== the law edits drafts ===== -/
def pdA (T : Tt) (x27 : Int32) : Option (Int32 × Tt) := rd 3 7 fun (j139 : Nat) => jn (gd (T.2.2 ≤ 16) <| cb (l_number x27) fun (z142 : Int32) => gd (T.2.2 + 1 ≤ 16) <| cb2 (k_add z142 T.1) fun (z144 : Int32) (C146 : Cs) => lt (tc T C146) fun (S147 : Tt) => if z144 = (-7300) then (gd (S147.2.2 ≤ 16) <| some ((1 : Int32), S147)) else (gd (S147.2.2 ≤ 16) <| some ((0 : Int32), S147))) fun k141 => if (((T.2.1 6 j139) >>> (x27 &&& 31)) &&& 1) = 1 then (k141) else (rd 3 7 fun (j152 : Nat) => gd (T.2.2 ≤ 16) <| cb (l_count (T.2.1 6 j152)) fun (z154 : Int32) => if z154 = 20 then (k141) else (rd 3 7 fun (j157 : Nat) => rd 3 7 fun (j159 : Nat) => lt (tw T 6 j159 ((T.2.1 6 j157) ||| ((1 : Int32) <<< (x27 &&& 31)))) fun (S161 : Tt) => gd (S161.2.2 + 1 ≤ 16) <| cb2 (k_add 1000000 S161.1) fun (z162 : Int32) (C164 : Cs) => lt (tc S161 C164) fun (S165 : Tt) => if z162 = (-7200) then (gd (S165.2.2 + 1 ≤ 16) <| cb2 (k_add (-1) S165.1) fun (z168 : Int32) (C170 : Cs) => lt (tc S165 C170) fun (S171 : Tt) => if z168 = (-7200) then (gd (S171.2.2 + 1 ≤ 16) <| cb2 (k_add 1000 S171.1) fun (z174 : Int32) (C176 : Cs) => lt (tc S171 C176) fun (S177 : Tt) => if z174 = (-7200) then (gd (S177.2.2 ≤ 16) <| cb (l_number x27) fun (z180 : Int32) => gd (S177.2.2 + 1 ≤ 16) <| cb2 (k_add z180 S177.1) fun (z182 : Int32) (C184 : Cs) => lt (tc S177 C184) fun (S185 : Tt) => rd 3 7 fun (j186 : Nat) => gd (S185.2.2 ≤ 16) <| cb (l_count (S185.2.1 6 j186)) fun (z188 : Int32) => if z182 = z188 then (gd (S185.2.2 ≤ 16) <| some ((1 : Int32), S185)) else (gd (S185.2.2 ≤ 16) <| some ((0 : Int32), S185))) else (gd (S177.2.2 ≤ 16) <| some ((0 : Int32), S177))) else (gd (S171.2.2 ≤ 16) <| some ((0 : Int32), S171))) else (gd (S165.2.2 ≤ 16) <| some ((0 : Int32), S165))))
def pdT (T : Tt) (x27 : Int32) : Option (Int32 × Tt) := rd 3 7 fun (j109 : Nat) => if (((T.2.1 6 j109) >>> (x27 &&& 31)) &&& 1) = 0 then (gd (T.2.2 ≤ 16) <| cb (l_number x27) fun (z130 : Int32) => gd (T.2.2 + 1 ≤ 16) <| cb2 (k_takeOut z130 T.1) fun (z132 : Int32) (C134 : Cs) => lt (tc T C134) fun (S135 : Tt) => if z132 = (-7400) then (gd (S135.2.2 ≤ 16) <| some ((1 : Int32), S135)) else (gd (S135.2.2 ≤ 16) <| some ((0 : Int32), S135))) else (rd 3 7 fun (j112 : Nat) => rd 3 7 fun (j114 : Nat) => lt (tw T 6 j114 ((T.2.1 6 j112) &&& (((1 : Int32) <<< (x27 &&& 31)) ^^^ (-1)))) fun (S116 : Tt) => gd (S116.2.2 ≤ 16) <| cb (l_number x27) fun (z117 : Int32) => gd (S116.2.2 + 1 ≤ 16) <| cb2 (k_takeOut z117 S116.1) fun (z119 : Int32) (C121 : Cs) => lt (tc S116 C121) fun (S122 : Tt) => rd 3 7 fun (j123 : Nat) => gd (S122.2.2 ≤ 16) <| cb (l_count (S122.2.1 6 j123)) fun (z125 : Int32) => if z119 = z125 then (gd (S122.2.2 ≤ 16) <| some ((1 : Int32), S122)) else (gd (S122.2.2 ≤ 16) <| some ((0 : Int32), S122)))
def pdC (x3 z21 : Int32) (T : Tt) (x27 : Int32) : Option (Int32 × Tt) := gd (T.2.2 ≤ 16) <| cb (l_low (x3 >>> ((5 : Int32) &&& 31)) 3) fun (z33 : Int32) => gd (T.2.2 ≤ 16) <| cb (l_low (x3 >>> ((8 : Int32) &&& 31)) 3) fun (z35 : Int32) => gd (T.2.2 ≤ 16) <| cb (l_number x27) fun (z37 : Int32) => gd (T.2.2 + 1 ≤ 16) <| cb2 (k_change z37 3 z35 T.1) fun (z39 : Int32) (C41 : Cs) => lt (tc T C41) fun (S42 : Tt) => if z39 = (-7200) then (gd (S42.2.2 ≤ 16) <| cb (l_number x27) fun (z45 : Int32) => gd (S42.2.2 + 1 ≤ 16) <| cb2 (k_change z45 z33 10 S42.1) fun (z47 : Int32) (C49 : Cs) => lt (tc S42 C49) fun (S50 : Tt) => if z47 = (-7200) then (gd (S50.2.2 ≤ 16) <| cb (l_number x27) fun (z53 : Int32) => gd (S50.2.2 + 1 ≤ 16) <| cb2 (k_change z53 z33 (-1) S50.1) fun (z55 : Int32) (C57 : Cs) => lt (tc S50 C57) fun (S58 : Tt) => if z55 = (-7200) then (if ((z21 >>> (z33 &&& 31)) &&& 1) = 0 then (gd (S58.2.2 ≤ 16) <| cb (l_number x27) fun (z99 : Int32) => gd (S58.2.2 + 1 ≤ 16) <| cb2 (k_change z99 z33 z35 S58.1) fun (z101 : Int32) (C103 : Cs) => lt (tc S58 C103) fun (S104 : Tt) => if z101 = (-7200) then (gd (S104.2.2 ≤ 16) <| some ((1 : Int32), S104)) else (gd (S104.2.2 ≤ 16) <| some ((0 : Int32), S104))) else (gd (S58.2.2 ≤ 16) <| cb (l_digit x27 z33) fun (z61 : Int32) => gd (S58.2.2 ≤ 16) <| cb (l_unit z33) fun (z63 : Int32) => rd 3 7 fun (j65 : Nat) => jn (gd (S58.2.2 ≤ 16) <| cb (l_number x27) fun (z68 : Int32) => gd (S58.2.2 + 1 ≤ 16) <| cb2 (k_change z68 z33 z35 S58.1) fun (z70 : Int32) (C72 : Cs) => lt (tc S58 C72) fun (S73 : Tt) => if z70 = (-7400) then (gd (S73.2.2 ≤ 16) <| some ((1 : Int32), S73)) else (gd (S73.2.2 ≤ 16) <| some ((0 : Int32), S73))) fun k67 => if (((S58.2.1 6 j65) >>> (x27 &&& 31)) &&& 1) = 0 then (k67) else (jn (rd 3 7 fun (j79 : Nat) => rd 3 7 fun (j81 : Nat) => lt (tw S58 6 j81 (((S58.2.1 6 j79) &&& (((1 : Int32) <<< (x27 &&& 31)) ^^^ (-1))) ||| ((1 : Int32) <<< ((x27 + ((z35 - z61) * z63)) &&& 31)))) fun (S83 : Tt) => gd (S83.2.2 ≤ 16) <| cb (l_number x27) fun (z84 : Int32) => gd (S83.2.2 + 1 ≤ 16) <| cb2 (k_change z84 z33 z35 S83.1) fun (z86 : Int32) (C88 : Cs) => lt (tc S83 C88) fun (S89 : Tt) => gd (S89.2.2 ≤ 16) <| cb (l_number (x27 + ((z35 - z61) * z63))) fun (z90 : Int32) => if z86 = z90 then (gd (S89.2.2 ≤ 16) <| some ((1 : Int32), S89)) else (gd (S89.2.2 ≤ 16) <| some ((0 : Int32), S89))) fun k78 => if (x27 + ((z35 - z61) * z63)) = x27 then (k78) else (rd 3 7 fun (j96 : Nat) => if (((S58.2.1 6 j96) >>> ((x27 + ((z35 - z61) * z63)) &&& 31)) &&& 1) = 1 then (k67) else (k78))))) else (gd (S58.2.2 ≤ 16) <| some ((0 : Int32), S58))) else (gd (S50.2.2 ≤ 16) <| some ((0 : Int32), S50))) else (gd (S42.2.2 ≤ 16) <| some ((0 : Int32), S42))
def pd1 (x2 x3 x4 : Int32) (T : Tt) : Option (Int32 × Tt) := rd 2 7 fun (j16 : Nat) => if (T.2.1 6 j16) = 0 then (gd (T.2.2 + 1 ≤ 16) <| cb2 (k_add 0 T.1) fun (z200 : Int32) (C202 : Cs) => lt (tc T C202) fun (S203 : Tt) => if z200 = (-7300) then (gd (S203.2.2 + 1 ≤ 16) <| cb2 (k_takeOut 0 S203.1) fun (z206 : Int32) (C208 : Cs) => lt (tc S203 C208) fun (S209 : Tt) => if z206 = (-7300) then (gd (S209.2.2 + 1 ≤ 16) <| cb2 (k_change 0 0 0 S209.1) fun (z212 : Int32) (C214 : Cs) => lt (tc S209 C214) fun (S215 : Tt) => if z212 = (-7300) then (gd (S215.2.2 + 1 ≤ 16) <| cb2 (k_putBack S215.1) fun (z218 : Int32) (C220 : Cs) => lt (tc S215 C220) fun (S221 : Tt) => if z218 = (-7300) then (gd (S221.2.2 ≤ 16) <| some ((1 : Int32), S221)) else (gd (S221.2.2 ≤ 16) <| some ((0 : Int32), S221))) else (gd (S215.2.2 ≤ 16) <| some ((0 : Int32), S215))) else (gd (S209.2.2 ≤ 16) <| some ((0 : Int32), S209))) else (gd (S203.2.2 ≤ 16) <| some ((0 : Int32), S203))) else (rd 2 7 fun (j19 : Nat) => gd (T.2.2 ≤ 16) <| cb (l_columnsOf ((T.2.1 6 j19) - 1) T.2.1) fun (z21 : Int32) => gd (T.2.2 ≤ 16) <| cb (l_low x4 27) fun (z23 : Int32) => gd (T.2.2 ≤ 16) <| cb (l_part z23 z21) fun (z25 : Int32) => lp (fun _ _ => none) (fun (g29 : Int32 → Int32 → Option (Int32 × Tt)) (x27 : Int32) (x28 : Int32) => jn (if x2 = 1 then pdA T x27 else if x2 = 2 then pdT T x27 else pdC x3 z21 T x27) fun k30 => if 27 ≤ x28 then (k30) else (if x2 ≤ 1 then (k30) else (if (x3 &&& 24) ≤ 0 then (k30) else (rd 3 7 fun (j196 : Nat) => if (((T.2.1 6 j196) >>> (x27 &&& 31)) &&& 1) = 0 then (g29 ((x27 + 1) - (x27 + 1) / 27 * 27) (x28 + 1)) else (k30))))) FU z25 0)
def pd6 (T : Tt) : Option (Int32 × Tt) := rd 6 7 fun (j225 : Nat) => if (T.2.1 6 j225) = 0 then (gd (T.2.2 + 1 ≤ 16) <| cb2 (k_undo T.1) fun (z253 : Int32) (C255 : Cs) => lt (tc T C255) fun (S256 : Tt) => if z253 = (-7300) then (gd (S256.2.2 ≤ 16) <| some ((1 : Int32), S256)) else (gd (S256.2.2 ≤ 16) <| some ((0 : Int32), S256))) else (rd 6 7 fun (j228 : Nat) => rd 6 7 fun (j230 : Nat) => lt (tw T 6 j230 ((T.2.1 6 j228) - 1)) fun (S232 : Tt) => lp (fun _ _ => none) (fun (g235 : Int32 → Tt → Option (Int32 × Tt)) (x233 : Int32) (S234 : Tt) => if 3 ≤ x233 then (gd (S234.2.2 + 1 ≤ 16) <| cb2 (k_undo S234.1) fun (z237 : Int32) (C239 : Cs) => lt (tc S234 C239) fun (S240 : Tt) => rd 6 7 fun (j241 : Nat) => if z237 = (S240.2.1 6 j241) then (gd (S240.2.2 ≤ 16) <| some ((1 : Int32), S240)) else (gd (S240.2.2 ≤ 16) <| some ((0 : Int32), S240))) else (rd 6 7 fun (j246 : Nat) => rd (((3 : Int32) * (S234.2.1 6 j246)) + x233) 15 fun (j248 : Nat) => rd ((3 : Int32) + x233) 6 fun (j250 : Nat) => lt (tw S234 0 j250 (S234.2.1 5 j248)) fun (S252 : Tt) => g235 (x233 + 1) S252)) FU 0 S232)
def pd5 (T : Tt) : Option (Int32 × Tt) := rd 2 7 fun (j260 : Nat) => jn (fun (S262 : Tt) => rd 2 7 fun (j264 : Nat) => jn (gd (S262.2.2 + 1 ≤ 16) <| cb2 (k_putBack S262.1) fun (z267 : Int32) (C269 : Cs) => lt (tc S262 C269) fun (S270 : Tt) => if z267 = (-7300) then (gd (S270.2.2 ≤ 16) <| some ((1 : Int32), S270)) else (gd (S270.2.2 ≤ 16) <| some ((0 : Int32), S270))) fun k266 => if (S262.2.1 6 j264) = 0 then (k266) else (rd 4 7 fun (j275 : Nat) => if (S262.2.1 6 j275) ≤ 0 then (rd 6 7 fun (j278 : Nat) => if (S262.2.1 6 j278) = 5 then (lp (fun _ _ => none) (fun (g333 : Int32 → Tt → Option (Int32 × Tt)) (x331 : Int32) (S332 : Tt) => if 12 ≤ x331 then (rd 6 7 fun (j335 : Nat) => rd 6 7 fun (j337 : Nat) => lt (tw S332 6 j337 ((S332.2.1 6 j335) - 1)) fun (S339 : Tt) => lp (fun _ _ _ => none) (fun (g343 : Int32 → Int32 → Tt → Option (Int32 × Tt)) (x340 : Int32) (x341 : Int32) (S342 : Tt) => if 3 ≤ x341 then (rd 6 7 fun (j345 : Nat) => rd 6 7 fun (j347 : Nat) => lt (tw S342 6 j347 ((S342.2.1 6 j345) + 1)) fun (S349 : Tt) => rd 2 7 fun (j350 : Nat) => rd 3 7 fun (j352 : Nat) => rd 2 7 fun (j354 : Nat) => lt (tw S349 6 j354 0) fun (S356 : Tt) => gd (S356.2.2 ≤ 16) <| cb (l_lay S356.2.1) fun (M359 : Lt) => lt (tm S356 M359) fun (S360 : Tt) => gd (S360.2.2 + 1 ≤ 16) <| cb2 (k_putBack S360.1) fun (z361 : Int32) (C363 : Cs) => lt (tc S360 C363) fun (S364 : Tt) => if z361 = x340 then (rd ((S349.2.1 6 j350) - 1) 10 fun (j367 : Nat) => if (S364.2.1 2 j367) = (S349.2.1 6 j352) then (gd (S364.2.2 ≤ 16) <| some ((1 : Int32), S364)) else (gd (S364.2.2 ≤ 16) <| some ((0 : Int32), S364))) else (gd (S364.2.2 ≤ 16) <| some ((0 : Int32), S364))) else (rd x341 3 fun (j372 : Nat) => rd ((3 : Int32) + x341) 6 fun (j374 : Nat) => gd (S342.2.2 ≤ 16) <| cb (l_count ((S342.2.1 4 j372) ^^^ (S342.2.1 0 j374))) fun (z376 : Int32) => rd 6 7 fun (j378 : Nat) => rd ((3 : Int32) + x341) 6 fun (j380 : Nat) => rd (((3 : Int32) * (S342.2.1 6 j378)) + x341) 15 fun (j382 : Nat) => lt (tw S342 5 j382 (S342.2.1 0 j380)) fun (S384 : Tt) => rd x341 3 fun (j385 : Nat) => rd ((3 : Int32) + x341) 6 fun (j387 : Nat) => lt (tw S384 0 j387 (S384.2.1 4 j385)) fun (S389 : Tt) => g343 (x340 + z376) (x341 + 1) S389)) FU 0 0 S339) else (rd (x331 + 3) 15 fun (j390 : Nat) => rd x331 15 fun (j392 : Nat) => lt (tw S332 5 j392 (S332.2.1 5 j390)) fun (S394 : Tt) => g333 (x331 + 1) S394)) FU 0 S262) else (lp (fun _ _ _ => none) (fun (g284 : Int32 → Int32 → Tt → Option (Int32 × Tt)) (x281 : Int32) (x282 : Int32) (S283 : Tt) => if 3 ≤ x282 then (rd 6 7 fun (j286 : Nat) => rd 6 7 fun (j288 : Nat) => lt (tw S283 6 j288 ((S283.2.1 6 j286) + 1)) fun (S290 : Tt) => rd 2 7 fun (j291 : Nat) => rd 3 7 fun (j293 : Nat) => rd 2 7 fun (j295 : Nat) => lt (tw S290 6 j295 0) fun (S297 : Tt) => gd (S297.2.2 ≤ 16) <| cb (l_lay S297.2.1) fun (M300 : Lt) => lt (tm S297 M300) fun (S301 : Tt) => gd (S301.2.2 + 1 ≤ 16) <| cb2 (k_putBack S301.1) fun (z302 : Int32) (C304 : Cs) => lt (tc S301 C304) fun (S305 : Tt) => if z302 = x281 then (rd ((S290.2.1 6 j291) - 1) 10 fun (j308 : Nat) => if (S305.2.1 2 j308) = (S290.2.1 6 j293) then (gd (S305.2.2 ≤ 16) <| some ((1 : Int32), S305)) else (gd (S305.2.2 ≤ 16) <| some ((0 : Int32), S305))) else (gd (S305.2.2 ≤ 16) <| some ((0 : Int32), S305))) else (rd x282 3 fun (j313 : Nat) => rd ((3 : Int32) + x282) 6 fun (j315 : Nat) => gd (S283.2.2 ≤ 16) <| cb (l_count ((S283.2.1 4 j313) ^^^ (S283.2.1 0 j315))) fun (z317 : Int32) => rd 6 7 fun (j319 : Nat) => rd ((3 : Int32) + x282) 6 fun (j321 : Nat) => rd (((3 : Int32) * (S283.2.1 6 j319)) + x282) 15 fun (j323 : Nat) => lt (tw S283 5 j323 (S283.2.1 0 j321)) fun (S325 : Tt) => rd x282 3 fun (j326 : Nat) => rd ((3 : Int32) + x282) 6 fun (j328 : Nat) => lt (tw S325 0 j328 (S325.2.1 4 j326)) fun (S330 : Tt) => g284 (x281 + z317) (x282 + 1) S330)) FU 0 0 S262)) else (k266))) fun k263 => if (T.2.1 6 j260) ≤ 0 then (k263 T) else (gd (T.2.2 + 1 ≤ 16) <| cb (l_put T.2.1) fun (M398 : Lt) => lt (tm1 T M398) fun (S399 : Tt) => k263 S399)
theorem pdr_d {x2 x3 x4 : Int32} {T : Tt} : p_drafts x2 x3 x4 T = jn (if x2 = 5 then pd5 T else if x2 = 6 then pd6 T else pd1 x2 x3 x4 T) fun k13 => if x2 = 0 then (rd 1 7 fun (j401 : Nat) => if (T.2.1 6 j401) ≤ 0 then (k13) else (rd 1 7 fun (j404 : Nat) => gd (T.2.2 ≤ 16) <| cb (l_low x3 (T.2.1 6 j404)) fun (z406 : Int32) => gd (T.2.2 ≤ 16) <| cb (l_lay T.2.1) fun (M410 : Lt) => lt (tm T M410) fun (S411 : Tt) => rd 2 7 fun (j412 : Nat) => lt (tw S411 6 j412 (z406 + 1)) fun (S414 : Tt) => rd z406 10 fun (j415 : Nat) => rd 3 7 fun (j417 : Nat) => lt (tw S414 6 j417 (S414.2.1 2 j415)) fun (S419 : Tt) => gd (S419.2.2 + 1 ≤ 16) <| cb2 (k_open z406 S419.1) fun (z420 : Int32) (C422 : Cs) => lt (tc S419 C422) fun (S423 : Tt) => rd 3 7 fun (j424 : Nat) => gd (S423.2.2 ≤ 16) <| cb (l_count (S423.2.1 6 j424)) fun (z426 : Int32) => if z420 = z426 then (gd (S423.2.2 ≤ 16) <| some ((1 : Int32), S423)) else (gd (S423.2.2 ≤ 16) <| some ((0 : Int32), S423)))) else (k13) := rfl
def OKq (o : Option (Int32 × Tt)) : Prop := ∃ C' M' k, o = some (1, (C', M', k)) ∧ RQ C' M'
theorem htw {C : Cs} {M : Lt} {k a i : Nat} {v : Int32} : tw ((C, M, k) : Tt) a i v = (C, w3 M a i v, k) := rfl
theorem hp1 {C : Cs} {M : Lt} {k : Nat} : ((C, M, k) : Tt).2.1 = M := rfl
theorem cnt_e {M : Lt} {a i : Nat} {y : Int32} (hy : okS y) : l_count (w3 M a i y a i) = some (nI (cnt y)) := by
  rw [w3_e]
  exact count_n hy
theorem pdA_n {S : St} {G : Gt} {nt nv u r k : Nat} {M : Lt} (h : RQ (S, G, nt, nv) M) (hD : DL G nv S M u) (hr : r < 27) (hv : pt (G u 1) (nm r) = nm r) (hk : k + 4 ≤ 16) : OKq (pdA ((S, G, nt, nv), M, k) (nI r)) := by
  have hok := hD.2.2.2.1
  have hc := cnt_le (M 6 3)
  have hl := hD.len
  rw [ms_len] at hl
  have ho3 : o3 (G u 1) := (h.2.1.2.2.2.1 u hD.1).2.1.1
  have r3 : ∀ (f : Nat → Option (Int32 × Tt)), rd 3 7 f = f 3 := fun f => rd_n (j := 3) (by decide) (by decide)
  have hbad : ∀ (hx : bt (M 6 3) r = true ∨ cnt (M 6 3) = 20), OKq (gd ((((S, G, nt, nv), M, k) : Tt).2.2 ≤ 16) <| cb (l_number (nI r)) fun (z142 : Int32) => gd ((((S, G, nt, nv), M, k) : Tt).2.2 + 1 ≤ 16) <| cb2 (k_add z142 (((S, G, nt, nv), M, k) : Tt).1) fun (z144 : Int32) (C146 : Cs) => lt (tc ((S, G, nt, nv), M, k) C146) fun (S147 : Tt) => if z144 = (-7300) then (gd (S147.2.2 ≤ 16) <| some ((1 : Int32), S147)) else (gd (S147.2.2 ≤ 16) <| some ((0 : Int32), S147))) := by
    intro hx
    rw [kown (by omega) (number_n hr), kcall (by omega) (kadd_x h hD hr hx), if_pos rfl, kend (by omega)]
    exact ⟨_, _, _, rfl, h⟩
  unfold pdA
  rw [r3, jn_d]
  show OKq (if (((M 6 3) >>> (nI r &&& 31)) &&& 1) = 1 then _ else _)
  cases hb : bt (M 6 3) r
  · rw [if_neg (by rw [bt_t, hb]; decide), r3, kown (by omega) (count_n hok)]
    by_cases h20 : cnt (M 6 3) = 20
    · rw [if_pos (show nI (cnt (M 6 3)) = (20 : Int32) by rw [h20]; rfl)]
      exact hbad (Or.inr h20)
    · have hl20 : cnt (M 6 3) < 20 := by omega
      have hR := hD.2.2.2.2.1
      obtain ⟨S1, e1, hR1⟩ := kadd_i h hD hr hb hl20 hv
      rw [if_neg (show ¬ nI (cnt (M 6 3)) = (20 : Int32) from fun z => h20 ((nI_eq (b := 20) (by omega) (by decide)).mp z)), r3, r3, lt_d, htw, hp1, kcall (by omega) (kadd_n h hD (x := 1000000) (shas_no hR (big_no (n := 1000000) (by decide) (by decide))) hl20 cRow_b), if_pos rfl, kcall (by omega) (kadd_n h hD (shas_no hR neg_no) hl20 cRow_m), if_pos rfl, kcall (by omega) (kadd_n h hD (x := 1000) (shas_no hR (big_no (n := 1000) (by decide) (by decide))) hl20 (cRow_k ho3)), if_pos rfl, kown (by omega) (number_n hr), kcall (by omega) e1, r3]
      rw [kown (by omega) (cnt_e (okS_or hok hr)), if_pos rfl, kend (by omega)]
      exact ⟨_, _, _, rfl, hR1⟩
  · rw [if_pos (by rw [bt_t, hb])]
    exact hbad (Or.inl hb)
theorem pdT_n {S : St} {G : Gt} {nt nv u r k : Nat} {M : Lt} (h : RQ (S, G, nt, nv) M) (hD : DL G nv S M u) (hr : r < 27) (hk : k + 4 ≤ 16) : OKq (pdT ((S, G, nt, nv), M, k) (nI r)) := by
  have hok := hD.2.2.2.1
  have r3 : ∀ (f : Nat → Option (Int32 × Tt)), rd 3 7 f = f 3 := fun f => rd_n (j := 3) (by decide) (by decide)
  unfold pdT
  rw [r3]
  show OKq (if (((M 6 3) >>> (nI r &&& 31)) &&& 1) = 0 then _ else _)
  cases hb : bt (M 6 3) r
  · rw [if_pos (by rw [bt_f, hb]), kown (by omega) (number_n hr), kcall (by omega) (ktake_o h hD hr hb), if_pos rfl, kend (by omega)]
    exact ⟨_, _, _, rfl, h⟩
  · obtain ⟨S1, e1, hR1⟩ := ktake_i h hD hr hb
    rw [if_neg (by rw [bt_f, hb]; decide), r3, r3, lt_d, htw, hp1, kown (by omega) (number_n hr), kcall (by omega) e1, r3]
    rw [kown (by omega) (cnt_e (okS_cl hok)), if_pos rfl, kend (by omega)]
    exact ⟨_, _, _, rfl, hR1⟩
theorem pdC_n {S : St} {G : Gt} {nt nv u r k : Nat} {M : Lt} {x3 : Int32} (h : RQ (S, G, nt, nv) M) (hD : DL G nv S M u) (hr : r < 27) (hk : k + 4 ≤ 16) : OKq (pdC x3 (G u 1) ((S, G, nt, nv), M, k) (nI r)) := by
  have hok := hD.2.2.2.1
  have ho3 : o3 (G u 1) := (h.2.1.2.2.2.1 u hD.1).2.1.1
  have r3 : ∀ (f : Nat → Option (Int32 × Tt)), rd 3 7 f = f 3 := fun f => rd_n (j := 3) (by decide) (by decide)
  obtain ⟨c, hc3, ec⟩ := low_n (x3 >>> ((5 : Int32) &&& 31)) (n := 3) (by decide) (by decide)
  obtain ⟨w, hw3, ew⟩ := low_n (x3 >>> ((8 : Int32) &&& 31)) (n := 3) (by decide) (by decide)
  have ec' : l_low (x3 >>> ((5 : Int32) &&& 31)) 3 = some (nI c) := ec
  have ew' : l_low (x3 >>> ((8 : Int32) &&& 31)) 3 = some (nI w) := ew
  obtain ⟨ei, e27, -⟩ := e3_d ⟨r, hr⟩ ⟨c, hc3⟩ ⟨w, hw3⟩
  dsimp only at ei e27
  unfold pdC
  rw [kown (by omega) ec', kown (by omega) ew', kown (by omega) (number_n hr), kcall (by omega) (kch_c h hD (cCol_3 ho3)), if_pos rfl, kown (by omega) (number_n hr), kcall (by omega) (kch_v h hD (c := c) (by omega) cVal_10), if_pos rfl, kown (by omega) (number_n hr), kcall (by omega) (kch_v h hD (c := c) (by omega) cVal_m), if_pos rfl]
  cases hbc : bt (G u 1) c
  · rw [if_pos (by rw [bt_f, hbc]), kown (by omega) (number_n hr), kcall (by omega) (kch_c h hD (by rw [cCol (by omega), hbc]; rfl)), if_pos rfl, kend (by omega)]
    exact ⟨_, _, _, rfl, h⟩
  · rw [if_neg (by rw [bt_f, hbc]; decide), kown (by omega) (digit3_n hr hc3), kown (by omega) (unit_n hc3), r3, jn_d, ei]
    have hno : ∀ (he : k_change (nI (nm r)) (nI c) (nI w) (S, G, nt, nv) = some (-7400, (S, G, nt, nv))), OKq (gd ((((S, G, nt, nv), M, k + 1 + 1 + 1) : Tt).2.2 ≤ 16) <| cb (l_number (nI r)) fun (z68 : Int32) => gd ((((S, G, nt, nv), M, k + 1 + 1 + 1) : Tt).2.2 + 1 ≤ 16) <| cb2 (k_change z68 (nI c) (nI w) (((S, G, nt, nv), M, k + 1 + 1 + 1) : Tt).1) fun (z70 : Int32) (C72 : Cs) => lt (tc ((S, G, nt, nv), M, k + 1 + 1 + 1) C72) fun (S73 : Tt) => if z70 = (-7400) then (gd (S73.2.2 ≤ 16) <| some ((1 : Int32), S73)) else (gd (S73.2.2 ≤ 16) <| some ((0 : Int32), S73))) := by
      intro he
      rw [kown (by omega) (number_n hr), kcall (by omega) he, if_pos rfl, kend (by omega)]
      exact ⟨_, _, _, rfl, h⟩
    show OKq (if (((M 6 3) >>> (nI r &&& 31)) &&& 1) = 0 then _ else _)
    cases hb : bt (M 6 3) r
    · rw [if_pos (by rw [bt_f, hb])]
      exact hno (kch_o h hD (by omega) hbc (by omega) hr hb)
    · rw [if_neg (by rw [bt_f, hb]; decide), jn_d]
      have hyes : ∀ (he : e3 r c w = r ∨ bt (M 6 3) (e3 r c w) = false), OKq (rd 3 7 fun (j79 : Nat) => rd 3 7 fun (j81 : Nat) => lt (tw ((S, G, nt, nv), M, k + 1 + 1 + 1) 6 j81 ((((((S, G, nt, nv), M, k + 1 + 1 + 1) : Tt).2.1 6 j79) &&& (((1 : Int32) <<< (nI r &&& 31)) ^^^ (-1))) ||| ((1 : Int32) <<< (nI (e3 r c w) &&& 31)))) fun (S83 : Tt) => gd (S83.2.2 ≤ 16) <| cb (l_number (nI r)) fun (z84 : Int32) => gd (S83.2.2 + 1 ≤ 16) <| cb2 (k_change z84 (nI c) (nI w) S83.1) fun (z86 : Int32) (C88 : Cs) => lt (tc S83 C88) fun (S89 : Tt) => gd (S89.2.2 ≤ 16) <| cb (l_number (nI (e3 r c w))) fun (z90 : Int32) => if z86 = z90 then (gd (S89.2.2 ≤ 16) <| some ((1 : Int32), S89)) else (gd (S89.2.2 ≤ 16) <| some ((0 : Int32), S89))) := by
        intro he
        obtain ⟨S1, e1, hR1⟩ := kch_i h hD hc3 hbc hw3 hr hb he
        rw [r3, r3, lt_d, htw, hp1, kown (by omega) (number_n hr), kcall (by omega) e1, kown (by omega) (number_n e27), if_pos rfl, kend (by omega)]
        exact ⟨_, _, _, rfl, hR1⟩
      by_cases hee : e3 r c w = r
      · rw [if_pos (by rw [hee])]
        exact hyes (Or.inl hee)
      · rw [if_neg (fun z => hee ((nI_eq (by omega) (by omega)).mp z)), r3]
        show OKq (if (((M 6 3) >>> (nI (e3 r c w) &&& 31)) &&& 1) = 1 then _ else _)
        cases hb2 : bt (M 6 3) (e3 r c w)
        · rw [if_neg (by rw [bt_t, hb2]; decide)]
          exact hyes (Or.inr hb2)
        · rw [if_pos (by rw [bt_t, hb2])]
          exact hno (kch_t h hD hc3 hbc hw3 hr hb hee hb2)
theorem pd1_n {S : St} {G : Gt} {nt nv : Nat} {M : Lt} {x2 x3 x4 : Int32} (h : RQ (S, G, nt, nv) M) (hx : x2 = 1 ∨ x2 = 2 ∨ x2 = 3 ∨ nv = 0) : OKq (pd1 x2 x3 x4 ((S, G, nt, nv), M, 0)) := by
  obtain ⟨hb3, hb10⟩ := h.b
  have hDD : RLd G nv S M := h.2.2.2.1
  have r2 : ∀ (f : Nat → Option (Int32 × Tt)), rd 2 7 f = f 2 := fun f => rd_n (j := 2) (by decide) (by decide)
  have r3 : ∀ (f : Nat → Option (Int32 × Tt)), rd 3 7 f = f 3 := fun f => rd_n (j := 3) (by decide) (by decide)
  unfold pd1
  rw [r2]
  show OKq (if M 6 2 = 0 then _ else _)
  rcases hDD with ⟨h44, h62⟩ | ⟨u, hD⟩
  · rw [if_pos h62, kcall (by omega) (nd_add h44), if_pos rfl, kcall (by omega) (nd_takeOut h44), if_pos rfl, kcall (by omega) (nd_change h44), if_pos rfl, kcall (by omega) (nd_putBack h44), if_pos rfl, kend (by omega)]
    exact ⟨_, _, _, rfl, h⟩
  · have hu := hD.1
    have hK := h.st.2.2.2.1
    rw [if_neg (by rw [hD.2.2.1]; exact nI_ne0 (by omega) (by omega)), r2]
    obtain ⟨r0, hr0, er⟩ := low_n x4 (n := 27) (by decide) (by decide)
    have er' : l_low x4 27 = some (nI r0) := er
    have ecol : l_columnsOf (M 6 2 - 1) M = some (G u 1) := by
      rw [hD.2.2.1, nI_pred]
      exact cols_n (hK u hu) (by omega)
    rw [kown (by omega) ecol, kown (by omega) er', kown (by omega) (part3_n hr0)]
    have hp := p3_lt (s := G u 1) hr0
    refine lq2 (Q := OKq) (fun d (a b : Int32) => ∃ r i, i + d = 28 ∧ b = nI i ∧ a = nI r ∧ r < 27 ∧ (x2 = 1 → r = p3 (G u 1) r0)) ?_ _ 28 _ _ (FU_lt (by omega)) ⟨p3 (G u 1) r0, 0, by omega, rfl, rfl, hp, fun _ => rfl⟩
    rintro d a b g ⟨r, i, hi, rfl, rfl, hr, h1⟩ ih
    rw [jn_d]
    have hgo : OKq (if x2 = 1 then pdA ((S, G, nt, nv), M, 0) (nI r) else if x2 = 2 then pdT ((S, G, nt, nv), M, 0) (nI r) else pdC x3 (G u 1) ((S, G, nt, nv), M, 0) (nI r)) := by
      by_cases e1 : x2 = 1
      · rw [if_pos e1]
        refine pdA_n h hD hr ?_ (by omega)
        rw [h1 e1]
        exact (p3_val hp).mp (by
          have := pt_nm (s := G u 1) hr0
          exact (p3_pt (s := G u 1) hp hr0).mpr (by rw [← this, pt_id]) |>.trans rfl)
      · rw [if_neg e1]
        by_cases e2 : x2 = 2
        · rw [if_pos e2]
          exact pdT_n h hD hr (by omega)
        · rw [if_neg e2]
          exact pdC_n h hD hr (by omega)
    by_cases h27 : 27 ≤ i
    · rw [if_pos (show (27 : Int32) ≤ nI i from nI_le (a := 27) h27 (by omega))]
      exact hgo
    · rw [if_neg (show ¬ (27 : Int32) ≤ nI i from nI_ge (b := 27) (by omega) (by decide))]
      by_cases hx1 : x2 ≤ 1
      · rw [if_pos hx1]
        exact hgo
      · rw [if_neg hx1]
        by_cases hx24 : (x3 &&& 24) ≤ 0
        · rw [if_pos hx24]
          exact hgo
        · rw [if_neg hx24, r3]
          by_cases hb : (((M 6 3) >>> (nI r &&& 31)) &&& 1) = 0
          · show OKq (if (((M 6 3) >>> (nI r &&& 31)) &&& 1) = 0 then _ else _)
            rw [if_pos hb, nI_1, nI_1, show nI (r + 1) - nI (r + 1) / 27 * 27 = nI ((r + 1) % 27) from pk_rem (d := 27) (by omega) (by decide) (by decide)]
            exact ih (d - 1) _ _ (by omega) ⟨(r + 1) % 27, i + 1, by omega, rfl, rfl, Nat.mod_lt _ (by decide), fun e => absurd (by rw [e]; decide) hx1⟩
          · show OKq (if (((M 6 3) >>> (nI r &&& 31)) &&& 1) = 0 then _ else _)
            rw [if_neg hb]
            exact hgo
