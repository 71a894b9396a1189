/-! ===== the law's views ===== -/
noncomputable def pv0 (x3 : Int32) (T : Tt) : Option (Int32 × Tt) := rd 0 7 fun (j251 : Nat) => gd (T.2.2 ≤ 16) <| cb (l_low x3 ((T.2.1 6 j251) + 1)) fun (z253 : Int32) => rd 0 7 fun (j255 : Nat) => if z253 = (T.2.1 6 j255) then (gd (T.2.2 + 1 ≤ 16) <| cb2 (k_of z253 T.1) fun (z291 : Int32) (C293 : Cs) => lt (tc T C293) fun (S294 : Tt) => if z291 = (-7100) then (gd (S294.2.2 + 1 ≤ 16) <| cb2 (k_of (-1) S294.1) fun (z297 : Int32) (C299 : Cs) => lt (tc S294 C299) fun (S300 : Tt) => if z297 = (-7100) then (gd (S300.2.2 ≤ 16) <| some ((1 : Int32), S300)) else (gd (S300.2.2 ≤ 16) <| some ((0 : Int32), S300))) else (gd (S294.2.2 ≤ 16) <| some ((0 : Int32), S294))) else (rd 1 7 fun (j258 : Nat) => if (T.2.1 6 j258) = 10 then (gd (T.2.2 + 1 ≤ 16) <| cb2 (k_of z253 T.1) fun (z284 : Int32) (C286 : Cs) => lt (tc T C286) fun (S287 : Tt) => if z284 = (-7300) then (gd (S287.2.2 ≤ 16) <| some ((1 : Int32), S287)) else (gd (S287.2.2 ≤ 16) <| some ((0 : Int32), S287))) else (rd 1 7 fun (j261 : Nat) => rd z253 6 fun (j263 : Nat) => rd z253 6 fun (j265 : Nat) => rd (T.2.1 6 j261) 10 fun (j267 : Nat) => lt (tw T 1 j267 (((((4 : Int32) * z253) + (((T.2.1 0 j263) &&& 7) <<< ((15 : Int32) &&& 31))) + (((T.2.1 0 j265) >>> ((3 : Int32) &&& 31)) <<< ((18 : Int32) &&& 31))) + ((1 : Int32) <<< (((21 : Int32) + z253) &&& 31)))) fun (S269 : Tt) => rd 1 7 fun (j270 : Nat) => rd 1 7 fun (j272 : Nat) => lt (tw S269 6 j272 ((S269.2.1 6 j270) + 1)) fun (S274 : Tt) => gd (S274.2.2 + 1 ≤ 16) <| cb2 (k_of z253 S274.1) fun (z275 : Int32) (C277 : Cs) => lt (tc S274 C277) fun (S278 : Tt) => rd 1 7 fun (j279 : Nat) => if z275 = ((S278.2.1 6 j279) - 1) then (gd (S278.2.2 ≤ 16) <| some ((1 : Int32), S278)) else (gd (S278.2.2 ≤ 16) <| some ((0 : Int32), S278))))
noncomputable def pv1B (z15 z17 z19 z21 z23 x27 : Int32) (T : Tt) (x176 : Int32) : Option (Int32 × Tt) := rd 1 7 fun (j178 : Nat) => gd (T.2.2 + 1 ≤ 16) <| cb2 (k_select (T.2.1 6 j178) z17 z19 x176 T.1) fun (z180 : Int32) (C182 : Cs) => lt (tc T C182) fun (S183 : Tt) => if z180 = (-7100) then (gd (S183.2.2 + 1 ≤ 16) <| cb2 (k_select z15 6 z19 x176 S183.1) fun (z186 : Int32) (C188 : Cs) => lt (tc S183 C188) fun (S189 : Tt) => if z186 = (-7200) then (gd (S189.2.2 + 1 ≤ 16) <| cb2 (k_select z15 (-1) z19 x176 S189.1) fun (z192 : Int32) (C194 : Cs) => lt (tc S189 C194) fun (S195 : Tt) => if z192 = (-7200) then (gd (S195.2.2 + 1 ≤ 16) <| cb2 (k_select z15 z17 10 x176 S195.1) fun (z198 : Int32) (C200 : Cs) => lt (tc S195 C200) fun (S201 : Tt) => if z198 = (-7200) then (gd (S201.2.2 + 1 ≤ 16) <| cb2 (k_select z15 z17 (-1) x176 S201.1) fun (z204 : Int32) (C206 : Cs) => lt (tc S201 C206) fun (S207 : Tt) => if z204 = (-7200) then (if ((z23 >>> (z17 &&& 31)) &&& 1) = 0 then (gd (S207.2.2 + 1 ≤ 16) <| cb2 (k_select z15 z17 z19 x176 S207.1) fun (z242 : Int32) (C244 : Cs) => lt (tc S207 C244) fun (S245 : Tt) => if z242 = (-7200) then (gd (S245.2.2 ≤ 16) <| some ((1 : Int32), S245)) else (gd (S245.2.2 ≤ 16) <| some ((0 : Int32), S245))) else (rd 1 7 fun (j210 : Nat) => if (S207.2.1 6 j210) = 10 then (gd (S207.2.2 + 1 ≤ 16) <| cb2 (k_select z15 z17 z19 x176 S207.1) fun (z235 : Int32) (C237 : Cs) => lt (tc S207 C237) fun (S238 : Tt) => if z235 = (-7300) then (gd (S238.2.2 ≤ 16) <| some ((1 : Int32), S238)) else (gd (S238.2.2 ≤ 16) <| some ((0 : Int32), S238))) else (rd 1 7 fun (j213 : Nat) => jn (fun (x215 : Int32) => rd (S207.2.1 6 j213) 10 fun (j217 : Nat) => lt (tw S207 1 j217 ((((((((1 : Int32) + ((4 : Int32) * z15)) + ((1024 : Int32) * z17)) + ((4096 : Int32) * z19)) + x215) + (z23 <<< ((15 : Int32) &&& 31))) + (z21 <<< ((18 : Int32) &&& 31))) + (x27 <<< ((21 : Int32) &&& 31)))) fun (S219 : Tt) => rd 1 7 fun (j220 : Nat) => rd 1 7 fun (j222 : Nat) => lt (tw S219 6 j222 ((S219.2.1 6 j220) + 1)) fun (S224 : Tt) => gd (S224.2.2 + 1 ≤ 16) <| cb2 (k_select z15 z17 z19 x176 S224.1) fun (z225 : Int32) (C227 : Cs) => lt (tc S224 C227) fun (S228 : Tt) => rd 1 7 fun (j229 : Nat) => if z225 = ((S228.2.1 6 j229) - 1) then (gd (S228.2.2 ≤ 16) <| some ((1 : Int32), S228)) else (gd (S228.2.2 ≤ 16) <| some ((0 : Int32), S228))) fun k216 => if x176 = 0 then (k216 0) else (k216 16384)))) else (gd (S207.2.2 ≤ 16) <| some ((0 : Int32), S207))) else (gd (S201.2.2 ≤ 16) <| some ((0 : Int32), S201))) else (gd (S195.2.2 ≤ 16) <| some ((0 : Int32), S195))) else (gd (S189.2.2 ≤ 16) <| some ((0 : Int32), S189))) else (gd (S183.2.2 ≤ 16) <| some ((0 : Int32), S183))
noncomputable def pv1 (x4 z15 z17 z19 z21 z23 x27 : Int32) (T : Tt) : Option (Int32 × Tt) := jn (pv1B z15 z17 z19 z21 z23 x27 T) fun k177 => if (x4 &&& 768) ≤ 256 then (k177 0) else (k177 1)
noncomputable def pv2 (z15 z17 z19 z21 z23 x27 : Int32) (T : Tt) : Option (Int32 × Tt) := rd 1 7 fun (j119 : Nat) => gd (T.2.2 + 1 ≤ 16) <| cb2 (k_drop (T.2.1 6 j119) z17 z19 T.1) fun (z121 : Int32) (C123 : Cs) => lt (tc T C123) fun (S124 : Tt) => if z121 = (-7100) then (gd (S124.2.2 + 1 ≤ 16) <| cb2 (k_drop z15 z17 10 S124.1) fun (z127 : Int32) (C129 : Cs) => lt (tc S124 C129) fun (S130 : Tt) => if z127 = (-7200) then (gd (S130.2.2 + 1 ≤ 16) <| cb2 (k_drop z15 3 z19 S130.1) fun (z133 : Int32) (C135 : Cs) => lt (tc S130 C135) fun (S136 : Tt) => if z133 = (-7200) then (if (((z23 &&& (z21 ^^^ (-1))) >>> (z17 &&& 31)) &&& 1) = 0 then (gd (S136.2.2 + 1 ≤ 16) <| cb2 (k_drop z15 z17 z19 S136.1) fun (z168 : Int32) (C170 : Cs) => lt (tc S136 C170) fun (S171 : Tt) => if z168 = (-7200) then (gd (S171.2.2 ≤ 16) <| some ((1 : Int32), S171)) else (gd (S171.2.2 ≤ 16) <| some ((0 : Int32), S171))) else (rd 1 7 fun (j139 : Nat) => if (S136.2.1 6 j139) = 10 then (gd (S136.2.2 + 1 ≤ 16) <| cb2 (k_drop z15 z17 z19 S136.1) fun (z161 : Int32) (C163 : Cs) => lt (tc S136 C163) fun (S164 : Tt) => if z161 = (-7300) then (gd (S164.2.2 ≤ 16) <| some ((1 : Int32), S164)) else (gd (S164.2.2 ≤ 16) <| some ((0 : Int32), S164))) else (rd 1 7 fun (j142 : Nat) => rd (S136.2.1 6 j142) 10 fun (j144 : Nat) => lt (tw S136 1 j144 (((((((2 : Int32) + ((4 : Int32) * z15)) + ((1024 : Int32) * z17)) + ((4096 : Int32) * z19)) + ((z23 &&& (((1 : Int32) <<< (z17 &&& 31)) ^^^ (-1))) <<< ((15 : Int32) &&& 31))) + (z21 <<< ((18 : Int32) &&& 31))) + (x27 <<< ((21 : Int32) &&& 31)))) fun (S146 : Tt) => rd 1 7 fun (j147 : Nat) => rd 1 7 fun (j149 : Nat) => lt (tw S146 6 j149 ((S146.2.1 6 j147) + 1)) fun (S151 : Tt) => gd (S151.2.2 + 1 ≤ 16) <| cb2 (k_drop z15 z17 z19 S151.1) fun (z152 : Int32) (C154 : Cs) => lt (tc S151 C154) fun (S155 : Tt) => rd 1 7 fun (j156 : Nat) => if z152 = ((S155.2.1 6 j156) - 1) then (gd (S155.2.2 ≤ 16) <| some ((1 : Int32), S155)) else (gd (S155.2.2 ≤ 16) <| some ((0 : Int32), S155))))) else (gd (S136.2.2 ≤ 16) <| some ((0 : Int32), S136))) else (gd (S130.2.2 ≤ 16) <| some ((0 : Int32), S130))) else (gd (S124.2.2 ≤ 16) <| some ((0 : Int32), S124))
noncomputable def pv3B (z15 x34 z21 z23 x27 : Int32) (T : Tt) : Option (Int32 × Tt) := rd 1 7 fun (j40 : Nat) => gd (T.2.2 + 1 ≤ 16) <| cb2 (k_join z15 (T.2.1 6 j40) T.1) fun (z42 : Int32) (C44 : Cs) => lt (tc T C44) fun (S45 : Tt) => if z42 = (-7100) then (gd (S45.2.2 + 1 ≤ 16) <| cb2 (k_join (-1) z15 S45.1) fun (z48 : Int32) (C50 : Cs) => lt (tc S45 C50) fun (S51 : Tt) => if z48 = (-7100) then (gd (S51.2.2 + 1 ≤ 16) <| cb2 (k_join z15 z15 S51.1) fun (z54 : Int32) (C56 : Cs) => lt (tc S51 C56) fun (S57 : Tt) => if z54 = (-7200) then (rd x34 10 fun (j59 : Nat) => jn (gd (S57.2.2 + 1 ≤ 16) <| cb2 (k_join z15 x34 S57.1) fun (z62 : Int32) (C64 : Cs) => lt (tc S57 C64) fun (S65 : Tt) => if z62 = (-7200) then (gd (S65.2.2 ≤ 16) <| some ((1 : Int32), S65)) else (gd (S65.2.2 ≤ 16) <| some ((0 : Int32), S65))) fun k61 => if (((S57.2.1 1 j59) >>> ((21 : Int32) &&& 31)) &&& x27) = 0 then (gd (S57.2.2 ≤ 16) <| cb (l_keyOf x34 S57.2.1) fun (z70 : Int32) => if (z70 &&& (z23 ^^^ (-1))) = 0 then (rd 1 7 fun (j73 : Nat) => if (S57.2.1 6 j73) = 10 then (gd (S57.2.2 + 1 ≤ 16) <| cb2 (k_join z15 x34 S57.1) fun (z99 : Int32) (C101 : Cs) => lt (tc S57 C101) fun (S102 : Tt) => if z99 = (-7300) then (gd (S102.2.2 ≤ 16) <| some ((1 : Int32), S102)) else (gd (S102.2.2 ≤ 16) <| some ((0 : Int32), S102))) else (rd 1 7 fun (j76 : Nat) => gd (S57.2.2 ≤ 16) <| cb (l_columnsOf x34 S57.2.1) fun (z78 : Int32) => rd x34 10 fun (j80 : Nat) => rd (S57.2.1 6 j76) 10 fun (j82 : Nat) => lt (tw S57 1 j82 ((((((3 : Int32) + ((4 : Int32) * z15)) + ((64 : Int32) * x34)) + ((z23 ||| z78) <<< ((15 : Int32) &&& 31))) + (z21 <<< ((18 : Int32) &&& 31))) + ((x27 ||| (((S57.2.1 1 j80) >>> ((21 : Int32) &&& 31)) &&& 7)) <<< ((21 : Int32) &&& 31)))) fun (S84 : Tt) => rd 1 7 fun (j85 : Nat) => rd 1 7 fun (j87 : Nat) => lt (tw S84 6 j87 ((S84.2.1 6 j85) + 1)) fun (S89 : Tt) => gd (S89.2.2 + 1 ≤ 16) <| cb2 (k_join z15 x34 S89.1) fun (z90 : Int32) (C92 : Cs) => lt (tc S89 C92) fun (S93 : Tt) => rd 1 7 fun (j94 : Nat) => if z90 = ((S93.2.1 6 j94) - 1) then (gd (S93.2.2 ≤ 16) <| some ((1 : Int32), S93)) else (gd (S93.2.2 ≤ 16) <| some ((0 : Int32), S93)))) else (k61)) else (k61)) else (gd (S57.2.2 ≤ 16) <| some ((0 : Int32), S57))) else (gd (S51.2.2 ≤ 16) <| some ((0 : Int32), S51))) else (gd (S45.2.2 ≤ 16) <| some ((0 : Int32), S45))
noncomputable def pv3 (x4 z15 z21 z23 x27 : Int32) (T : Tt) : Option (Int32 × Tt) := rd 1 7 fun (j30 : Nat) => gd (T.2.2 ≤ 16) <| cb (l_low x4 (T.2.1 6 j30)) fun (z32 : Int32) => lp (fun _ _ => none) (fun (g36 : Int32 → Int32 → Option (Int32 × Tt)) (x34 : Int32) (x35 : Int32) => rd 1 7 fun (j37 : Nat) => jn (pv3B z15 x34 z21 z23 x27 T) fun k39 => if (T.2.1 6 j37) ≤ x35 then (k39) else (rd x34 10 fun (j108 : Nat) => jn (rd 1 7 fun (j111 : Nat) => dv (T.2.1 6 j111) <| lt ((x34 + 1) - (x34 + 1) / (T.2.1 6 j111) * (T.2.1 6 j111)) fun (x114 : Int32) => g36 x114 (x35 + 1)) fun k110 => if (((T.2.1 1 j108) >>> ((21 : Int32) &&& 31)) &&& x27) = 0 then (gd (T.2.2 ≤ 16) <| cb (l_keyOf x34 T.2.1) fun (z116 : Int32) => if (z116 &&& (z23 ^^^ (-1))) = 0 then (k39) else (k110)) else (k110))) FU z32 0
theorem pvw_d {x2 x3 x4 : Int32} {T : Tt} : p_views x2 x3 x4 T = rd 1 7 fun (j9 : Nat) => jn (if x2 = 0 then pv0 x3 T else (rd 1 7 fun (j13 : Nat) => gd (T.2.2 ≤ 16) <| cb (l_low x3 (T.2.1 6 j13)) fun (z15 : Int32) => gd (T.2.2 ≤ 16) <| cb (l_low x4 3) fun (z17 : Int32) => gd (T.2.2 ≤ 16) <| cb (l_low (x4 >>> ((3 : Int32) &&& 31)) 3) fun (z19 : Int32) => gd (T.2.2 ≤ 16) <| cb (l_keyOf z15 T.2.1) fun (z21 : Int32) => gd (T.2.2 ≤ 16) <| cb (l_columnsOf z15 T.2.1) fun (z23 : Int32) => rd z15 10 fun (j25 : Nat) => lt (((T.2.1 1 j25) >>> ((21 : Int32) &&& 31)) &&& 7) fun (x27 : Int32) => if x2 = 1 then pv1 x4 z15 z17 z19 z21 z23 x27 T else if x2 = 2 then pv2 z15 z17 z19 z21 z23 x27 T else pv3 x4 z15 z21 z23 x27 T)) fun k11 => if (T.2.1 6 j9) = 0 then (if x2 ≤ 0 then (k11) else (gd (T.2.2 + 1 ≤ 16) <| cb2 (k_select 0 0 0 1 T.1) fun (z306 : Int32) (C308 : Cs) => lt (tc T C308) fun (S309 : Tt) => if z306 = (-7100) then (gd (S309.2.2 + 1 ≤ 16) <| cb2 (k_drop 0 0 0 S309.1) fun (z312 : Int32) (C314 : Cs) => lt (tc S309 C314) fun (S315 : Tt) => if z312 = (-7100) then (gd (S315.2.2 + 1 ≤ 16) <| cb2 (k_join 0 0 S315.1) fun (z318 : Int32) (C320 : Cs) => lt (tc S315 C320) fun (S321 : Tt) => if z318 = (-7100) then (gd (S321.2.2 ≤ 16) <| some ((1 : Int32), S321)) else (gd (S321.2.2 ≤ 16) <| some ((0 : Int32), S321))) else (gd (S315.2.2 ≤ 16) <| some ((0 : Int32), S315))) else (gd (S309.2.2 ≤ 16) <| some ((0 : Int32), S309)))) else (k11) := rfl
theorem wd0 : ∀ t : Fin 3, ∀ c k : Fin 8, (((((4 : Int32) * nI t.1) + (nI c.1 <<< ((15 : Int32) &&& 31))) + (nI k.1 <<< ((18 : Int32) &&& 31))) + ((1 : Int32) <<< (((21 : Int32) + nI t.1) &&& 31))) = nI (wv 0 t.1 0 0 0 0 c.1 k.1 (2 ^ t.1)) := by decide +kernel
theorem wd1 {l c v s a b d : Nat} (ha : a < 8) (hb : b < 8) (hd : d < 8) : ((((((((1 : Int32) + ((4 : Int32) * nI l)) + ((1024 : Int32) * nI c)) + ((4096 : Int32) * nI v)) + nI (16384 * s)) + (nI a <<< ((15 : Int32) &&& 31))) + (nI b <<< ((18 : Int32) &&& 31))) + (nI d <<< ((21 : Int32) &&& 31))) = nI (wv 1 l 0 c v s a b d) := by
  show ((((((((nI 1) + (nI 4 * nI l)) + (nI 1024 * nI c)) + (nI 4096 * nI v)) + nI (16384 * s)) + (nI a <<< ((15 : Int32) &&& 31))) + (nI b <<< ((18 : Int32) &&& 31))) + (nI d <<< ((21 : Int32) &&& 31))) = _
  rw [pk_mul, pk_mul, pk_mul, pk_shlN ((15 : Int32) &&& 31) 15 (by decide) (by omega), pk_shlN ((18 : Int32) &&& 31) 18 (by decide) (by omega), pk_shlN ((21 : Int32) &&& 31) 21 (by decide) (by omega), nI_add, nI_add, nI_add, nI_add, nI_add, nI_add, nI_add]
  congr 1
  unfold wv
  omega
theorem wd2 {l c v a b d : Nat} (ha : a < 8) (hb : b < 8) (hd : d < 8) : (((((((2 : Int32) + ((4 : Int32) * nI l)) + ((1024 : Int32) * nI c)) + ((4096 : Int32) * nI v)) + (nI a <<< ((15 : Int32) &&& 31))) + (nI b <<< ((18 : Int32) &&& 31))) + (nI d <<< ((21 : Int32) &&& 31))) = nI (wv 2 l 0 c v 0 a b d) := by
  show (((((((nI 2) + (nI 4 * nI l)) + (nI 1024 * nI c)) + (nI 4096 * nI v)) + (nI a <<< ((15 : Int32) &&& 31))) + (nI b <<< ((18 : Int32) &&& 31))) + (nI d <<< ((21 : Int32) &&& 31))) = _
  rw [pk_mul, pk_mul, pk_mul, pk_shlN ((15 : Int32) &&& 31) 15 (by decide) (by omega), pk_shlN ((18 : Int32) &&& 31) 18 (by decide) (by omega), pk_shlN ((21 : Int32) &&& 31) 21 (by decide) (by omega), nI_add, nI_add, nI_add, nI_add, nI_add, nI_add]
  congr 1
  unfold wv
  omega
theorem wd3 {l r a b d : Nat} (ha : a < 8) (hb : b < 8) (hd : d < 8) : ((((((3 : Int32) + ((4 : Int32) * nI l)) + ((64 : Int32) * nI r)) + (nI a <<< ((15 : Int32) &&& 31))) + (nI b <<< ((18 : Int32) &&& 31))) + (nI d <<< ((21 : Int32) &&& 31))) = nI (wv 3 l r 0 0 0 a b d) := by
  show ((((((nI 3) + (nI 4 * nI l)) + (nI 64 * nI r)) + (nI a <<< ((15 : Int32) &&& 31))) + (nI b <<< ((18 : Int32) &&& 31))) + (nI d <<< ((21 : Int32) &&& 31))) = _
  rw [pk_mul, pk_mul, pk_shlN ((15 : Int32) &&& 31) 15 (by decide) (by omega), pk_shlN ((18 : Int32) &&& 31) 18 (by decide) (by omega), pk_shlN ((21 : Int32) &&& 31) 21 (by decide) (by omega), nI_add, nI_add, nI_add, nI_add, nI_add]
  congr 1
  unfold wv
  omega
theorem or8 : ∀ a b : Fin 8, (nI a.1 ||| nI b.1) = nI (a.1 ||| b.1) ∧ (a.1 ||| b.1) < 8 := by decide +kernel
def dr3 (a c : Nat) : Nat := if a / 2 ^ c % 2 = 1 then a - 2 ^ c else a
theorem drp8 : ∀ a : Fin 8, ∀ c : Fin 3, (nI a.1 &&& (((1 : Int32) <<< (nI c.1 &&& 31)) ^^^ (-1))) = nI (dr3 a.1 c.1) ∧ dr3 a.1 c.1 < 8 := by decide +kernel
theorem and7 : ∀ d : Fin 8, ((7 : Int32) &&& nI d.1) = nI d.1 := by decide +kernel
theorem and78 {x : Int32} {d : Nat} (h : d < 8) : (x &&& nI d) = ((x &&& 7) &&& nI d) := by
  rw [Int32.and_assoc, and7 ⟨d, h⟩]
theorem pv0_n {S : St} {G : Gt} {nt nv : Nat} {M : Lt} {x3 : Int32} (h : RQ (S, G, nt, nv) M) : OKq (pv0 x3 ((S, G, nt, nv), M, 0)) := by
  obtain ⟨hb3, hb10⟩ := h.b
  have h60 : M 6 0 = nI nt := h.2.1.2.1
  have h61 : M 6 1 = nI nv := h.2.1.2.2.1
  have r0 : ∀ (f : Nat → Option (Int32 × Tt)), rd 0 7 f = f 0 := fun f => rd_n (j := 0) (by decide) (by decide)
  have r1 : ∀ (f : Nat → Option (Int32 × Tt)), rd 1 7 f = f 1 := fun f => rd_n (j := 1) (by decide) (by decide)
  obtain ⟨t, ht, et⟩ := low_n x3 (n := nt + 1) (by omega) (by omega)
  have et' : l_low x3 (M 6 0 + 1) = some (nI t) := by rw [h60, nI_1]; exact et
  unfold pv0
  rw [r0, kown (by omega) et', r0]
  show OKq (if nI t = M 6 0 then _ else _)
  rw [h60]
  by_cases htn : t = nt
  · subst htn
    rw [if_pos rfl, kcall (by omega) (kof_o h (Or.inr (Int32.le_refl _))), if_pos rfl, kcall (by omega) (kof_o h (Or.inl neg1)), if_pos rfl, kend (by omega)]
    exact ⟨_, _, _, rfl, h⟩
  · have htn2 : t < nt := by omega
    rw [if_neg (fun z => htn ((nI_eq (by omega) (by omega)).mp z)), r1]
    show OKq (if M 6 1 = 10 then _ else _)
    rw [h61]
    by_cases h10 : nv = 10
    · subst h10
      rw [if_pos h10f.2, kcall (by omega) (kof_x h htn2), if_pos rfl, kend (by omega)]
      exact ⟨_, _, _, rfl, h⟩
    · have hnv : nv < 10 := by omega
      obtain ⟨d1, d2, -, ⟨c, -, hc8, hcs⟩, k, hk8, hks⟩ := h.2.1.2.2.2.2 t htn2
      have d1' : (M 0 t &&& 7) = nI c := d1.trans hcs
      have d2' : (M 0 t >>> ((3 : Int32) &&& 31)) = nI k := d2.trans hks
      obtain ⟨S', G', e1, hR⟩ := kof_i h htn2 hnv hc8 hk8 hcs hks
      rw [if_neg (h10n hnv).2, r1, rd_n (by omega) (by decide), rd_n (by omega) (by decide), hp1, h61, rd_n hnv (by decide), lt_d, d1', d2', wd0 ⟨t, by omega⟩ ⟨c, hc8⟩ ⟨k, hk8⟩, htw, r1, r1, lt_d, htw, hp1, w3_n (by decide), h61, nI_1, kcall (by omega) e1, r1, hp1, w3_e, nI_pred, if_pos rfl, kend (by omega)]
      exact ⟨_, _, _, rfl, hR⟩
theorem jn_16 {β : Type} {A : Int32 → Option β} {s : Nat} (hs : s < 2) : (jn A fun k216 => if nI s = 0 then (k216 0) else (k216 16384)) = A (nI (16384 * s)) := by
  have : s = 0 ∨ s = 1 := by omega
  rw [jn_d]
  rcases this with rfl | rfl
  · rw [if_pos (show nI 0 = (0 : Int32) from rfl)]
    rfl
  · rw [if_neg (show ¬ nI 1 = (0 : Int32) by decide)]
    rfl
theorem pv1B_n {S : St} {G : Gt} {nt nv u c w s a b d : Nat} {M : Lt} (h : RQ (S, G, nt, nv) M) (hu : u < nv) (hc3 : c < 3) (hw3 : w < 3) (hs : s < 2) (ha8 : a < 8) (hb8 : b < 8) (hd8 : d < 8) (ha : G u 1 = nI a) (hbk : G u 2 = nI b) (hd : G u 3 = nI d) : OKq (pv1B (nI u) (nI c) (nI w) (nI b) (nI a) (nI d) ((S, G, nt, nv), M, 0) (nI s)) := by
  obtain ⟨hb3, hb10⟩ := h.b
  have h61 : M 6 1 = nI nv := h.2.1.2.2.1
  have r1 : ∀ (f : Nat → Option (Int32 × Tt)), rd 1 7 f = f 1 := fun f => rd_n (j := 1) (by decide) (by decide)
  have h1 := bI01 hs
  unfold pv1B
  rw [r1, kcall (by omega) (show k_select (M 6 1) (nI c) (nI w) (nI s) (S, G, nt, nv) = _ by rw [h61]; exact ksel_o h (Or.inr (Int32.le_refl _)) h1), if_pos rfl, kcall (by omega) (ksel_c h hu h1 cCol_6), if_pos rfl, kcall (by omega) (ksel_c h hu h1 cCol_m), if_pos rfl, kcall (by omega) (ksel_v h hu h1 (by omega) cVal_10), if_pos rfl, kcall (by omega) (ksel_v h hu h1 (by omega) cVal_m), if_pos rfl]
  cases hb : bt (G u 1) c
  · rw [if_pos (by rw [← ha, bt_f, hb]), kcall (by omega) (ksel_c h hu h1 (by rw [cCol (by omega), hb]; rfl)), if_pos rfl, kend (by omega)]
    exact ⟨_, _, _, rfl, h⟩
  · rw [if_neg (by rw [← ha, bt_f, hb]; decide), r1]
    show OKq (if M 6 1 = 10 then _ else _)
    rw [h61]
    by_cases h10 : nv = 10
    · subst h10
      rw [if_pos h10f.2, kcall (by omega) (ksel_x h hu h1 (by omega) hb (by omega)), if_pos rfl, kend (by omega)]
      exact ⟨_, _, _, rfl, h⟩
    · have hnv : nv < 10 := by omega
      obtain ⟨S', G', e1, hR⟩ := ksel_i h hu hnv hs hc3 hb hw3 ha8 hb8 hd8 ha hbk hd
      rw [if_neg (h10n hnv).2, r1, jn_16 hs, hp1, h61, rd_n hnv (by decide), lt_d, wd1 ha8 hb8 hd8, htw, r1, r1, lt_d, htw, hp1, w3_n (by decide), h61, nI_1, kcall (by omega) e1, r1, hp1, w3_e, nI_pred, if_pos rfl, kend (by omega)]
      exact ⟨_, _, _, rfl, hR⟩
theorem pv2_n {S : St} {G : Gt} {nt nv u c w a b d : Nat} {M : Lt} (h : RQ (S, G, nt, nv) M) (hu : u < nv) (hc3 : c < 3) (hw3 : w < 3) (ha8 : a < 8) (hb8 : b < 8) (hd8 : d < 8) (ha : G u 1 = nI a) (hbk : G u 2 = nI b) (hd : G u 3 = nI d) : OKq (pv2 (nI u) (nI c) (nI w) (nI b) (nI a) (nI d) ((S, G, nt, nv), M, 0)) := by
  obtain ⟨hb3, hb10⟩ := h.b
  have h61 : M 6 1 = nI nv := h.2.1.2.2.1
  have r1 : ∀ (f : Nat → Option (Int32 × Tt)), rd 1 7 f = f 1 := fun f => rd_n (j := 1) (by decide) (by decide)
  have ho3 : o3 (G u 1) := ⟨a, ha8, ha⟩
  have c3 : d1_isColumn 3 (G u 1 &&& (G u 2 ^^^ (-1))) = some 0 := by
    have := cCol (s := G u 1 &&& (G u 2 ^^^ (-1))) (c := 3) (by decide)
    rw [bt_and (by decide), o3_hi ho3 (by decide) (by decide)] at this
    exact this
  unfold pv2
  rw [r1, kcall (by omega) (show k_drop (M 6 1) (nI c) (nI w) (S, G, nt, nv) = _ by rw [h61]; exact kdrp_o h (Or.inr (Int32.le_refl _))), if_pos rfl, kcall (by omega) (kdrp_v h hu (by omega) cVal_10), if_pos rfl, kcall (by omega) (kdrp_c h hu c3), if_pos rfl]
  cases hb : bt (G u 1 &&& (G u 2 ^^^ (-1))) c
  · rw [if_pos (by rw [← ha, ← hbk, bt_f, hb]), kcall (by omega) (kdrp_c h hu (by rw [cCol (by omega), hb]; rfl)), if_pos rfl, kend (by omega)]
    exact ⟨_, _, _, rfl, h⟩
  · rw [if_neg (by rw [← ha, ← hbk, bt_f, hb]; decide), r1]
    show OKq (if M 6 1 = 10 then _ else _)
    rw [h61]
    by_cases h10 : nv = 10
    · subst h10
      rw [if_pos h10f.2, kcall (by omega) (kdrp_x h hu (by omega) hb (by omega)), if_pos rfl, kend (by omega)]
      exact ⟨_, _, _, rfl, h⟩
    · have hnv : nv < 10 := by omega
      obtain ⟨q1, q2⟩ := drp8 ⟨a, ha8⟩ ⟨c, hc3⟩
      dsimp only at q1 q2
      obtain ⟨S', G', e1, hR⟩ := kdrp_i h hu hnv hc3 hb hw3 q2 hb8 hd8 (by rw [ha]; exact q1) hbk hd
      rw [if_neg (h10n hnv).2, r1, hp1, h61, rd_n hnv (by decide), lt_d, q1, wd2 q2 hb8 hd8, htw, r1, r1, lt_d, htw, hp1, w3_n (by decide), h61, nI_1, kcall (by omega) e1, r1, hp1, w3_e, nI_pred, if_pos rfl, kend (by omega)]
      exact ⟨_, _, _, rfl, hR⟩
theorem pv3B_n {S : St} {G : Gt} {nt nv u w a b d : Nat} {M : Lt} (h : RQ (S, G, nt, nv) M) (hu : u < nv) (hw : w < nv) (ha8 : a < 8) (hb8 : b < 8) (hd8 : d < 8) (hd0 : d ≠ 0) (ha : G u 1 = nI a) (hbk : G u 2 = nI b) (hd : G u 3 = nI d) : OKq (pv3B (nI u) (nI w) (nI b) (nI a) (nI d) ((S, G, nt, nv), M, 0)) := by
  obtain ⟨hb3, hb10⟩ := h.b
  have h61 : M 6 1 = nI nv := h.2.1.2.2.1
  have hK := h.st.2.2.2.1
  have r1 : ∀ (f : Nat → Option (Int32 × Tt)), rd 1 7 f = f 1 := fun f => rd_n (j := 1) (by decide) (by decide)
  have hself : ¬ ((G u 3) &&& (G u 3)) = 0 := by
    rw [hd, nI_and, Nat.and_self]
    exact nI_ne0 (by omega) (by omega)
  obtain ⟨dw, -, hdw8, hdw, -⟩ := mask_3 h hw
  obtain ⟨aw, haw8, haw⟩ := (h.2.1.2.2.2.1 w hw).2.1.1
  have haw : G w 1 = nI aw := haw
  have w7 : ((M 1 w >>> ((21 : Int32) &&& 31)) &&& 7) = G w 3 := (hK w hw).2.2.1
  have hmk : ((M 1 w >>> ((21 : Int32) &&& 31)) &&& nI d) = ((G u 3) &&& (G w 3)) := by
    rw [and78 hd8, w7, ← hd, Int32.and_comm]
  have hbad : ∀ (hbb : ¬ ((G u 3) &&& (G w 3)) = 0 ∨ ¬ ((G w 2) &&& ((G u 1) ^^^ (-1))) = 0), OKq (gd ((((S, G, nt, nv), M, 0 + 1 + 1 + 1) : Tt).2.2 + 1 ≤ 16) <| cb2 (k_join (nI u) (nI w) (((S, G, nt, nv), M, 0 + 1 + 1 + 1) : Tt).1) fun (z62 : Int32) (C64 : Cs) => lt (tc ((S, G, nt, nv), M, 0 + 1 + 1 + 1) C64) fun (S65 : Tt) => if z62 = (-7200) then (gd (S65.2.2 ≤ 16) <| some ((1 : Int32), S65)) else (gd (S65.2.2 ≤ 16) <| some ((0 : Int32), S65))) := by
    intro hbb
    rw [kcall (by omega) (kjn_r h hu hw hbb), if_pos rfl, kend (by omega)]
    exact ⟨_, _, _, rfl, h⟩
  unfold pv3B
  rw [r1, kcall (by omega) (show k_join (nI u) (M 6 1) (S, G, nt, nv) = _ by rw [h61]; exact (kjn_o h hu (Or.inr (Int32.le_refl _))).1), if_pos rfl, kcall (by omega) (kjn_o h hu (Or.inl neg1)).2, if_pos rfl, kcall (by omega) (kjn_r h hu hu (Or.inl hself)), if_pos rfl, rd_n (by omega) (by decide), jn_d]
  show OKq (if ((M 1 w >>> ((21 : Int32) &&& 31)) &&& nI d) = 0 then _ else _)
  rw [hmk]
  by_cases h1 : ((G u 3) &&& (G w 3)) = 0
  · rw [if_pos h1, kown (by omega) (key_n (hK w hw) (by omega)), ← ha]
    by_cases h2 : ((G w 2) &&& ((G u 1) ^^^ (-1))) = 0
    · rw [if_pos h2, r1]
      show OKq (if M 6 1 = 10 then _ else _)
      rw [h61]
      by_cases h10 : nv = 10
      · subst h10
        rw [if_pos h10f.2, kcall (by omega) (kjn_x h hu hw h1 h2), if_pos rfl, kend (by omega)]
        exact ⟨_, _, _, rfl, h⟩
      · have hnv : nv < 10 := by omega
        obtain ⟨q1, q2⟩ := or8 ⟨a, ha8⟩ ⟨aw, haw8⟩
        obtain ⟨q3, q4⟩ := or8 ⟨d, hd8⟩ ⟨dw, hdw8⟩
        dsimp only at q1 q2 q3 q4
        obtain ⟨S', G', e1, hR⟩ := kjn_i h hu hw hnv h1 h2 q2 hb8 q4 (by rw [ha, haw]; exact q1) hbk (by rw [hd, hdw]; exact q3)
        rw [if_neg (h10n hnv).2, r1, kown (by omega) (cols_n (hK w hw) (by omega)), rd_n (by omega) (by decide), hp1, h61, rd_n hnv (by decide), lt_d, w7, ha, haw, hdw, q1, q3, wd3 q2 hb8 q4, htw, r1, r1, lt_d, htw, hp1, w3_n (by decide), h61, nI_1, kcall (by omega) e1, r1, hp1, w3_e, nI_pred, if_pos rfl, kend (by omega)]
        exact ⟨_, _, _, rfl, hR⟩
    · rw [if_neg h2]
      exact hbad (Or.inr h2)
  · rw [if_neg h1]
    exact hbad (Or.inl h1)
theorem pv3_n {S : St} {G : Gt} {nt nv u a b d : Nat} {M : Lt} {x4 : Int32} (h : RQ (S, G, nt, nv) M) (hu : u < nv) (ha8 : a < 8) (hb8 : b < 8) (hd8 : d < 8) (hd0 : d ≠ 0) (ha : G u 1 = nI a) (hbk : G u 2 = nI b) (hd : G u 3 = nI d) : OKq (pv3 x4 (nI u) (nI b) (nI a) (nI d) ((S, G, nt, nv), M, 0)) := by
  obtain ⟨hb3, hb10⟩ := h.b
  have h61 : M 6 1 = nI nv := h.2.1.2.2.1
  have hK := h.st.2.2.2.1
  have r1 : ∀ (f : Nat → Option (Int32 × Tt)), rd 1 7 f = f 1 := fun f => rd_n (j := 1) (by decide) (by decide)
  obtain ⟨w0, hw0, ew⟩ := low_n x4 (n := nv) (by omega) (by omega)
  have ew' : l_low x4 (M 6 1) = some (nI w0) := by rw [h61]; exact ew
  unfold pv3
  rw [r1, kown (by omega) ew']
  refine lq2 (Q := OKq) (fun d (a b : Int32) => ∃ w i, i + d = nv ∧ a = nI w ∧ b = nI i ∧ w < nv) ?_ _ nv _ _ (FU_lt (by omega)) ⟨w0, 0, by omega, rfl, rfl, hw0⟩
  rintro d2 x y g ⟨w, i, hi, rfl, rfl, hw⟩ ih
  have hgo := pv3B_n h hu hw ha8 hb8 hd8 hd0 ha hbk hd
  rw [r1, jn_d]
  show OKq (if M 6 1 ≤ nI i then _ else _)
  by_cases h0 : d2 = 0
  · rw [if_pos (by rw [h61]; exact nI_le (by omega) (by omega))]
    exact hgo
  · rw [if_neg (by rw [h61]; exact nI_ge (by omega) (by omega)), rd_n (by omega) (by decide), jn_d]
    have hnx : OKq (rd 1 7 fun (j111 : Nat) => dv ((((S, G, nt, nv), M, 0) : Tt).2.1 6 j111) <| lt ((nI w + 1) - (nI w + 1) / ((((S, G, nt, nv), M, 0) : Tt).2.1 6 j111) * ((((S, G, nt, nv), M, 0) : Tt).2.1 6 j111)) fun (x114 : Int32) => g x114 (nI i + 1)) := by
      rw [r1]
      show OKq (dv (M 6 1) <| lt ((nI w + 1) - (nI w + 1) / (M 6 1) * (M 6 1)) fun (x114 : Int32) => g x114 (nI i + 1))
      unfold dv
      rw [h61, if_neg (nI_ne0 (by omega) (by omega)), nI_1, nI_1, show nI (w + 1) - nI (w + 1) / nI nv * nI nv = nI ((w + 1) % nv) from pk_rem (d := nv) (by omega) (by omega) (by omega), lt_d]
      exact ih (d2 - 1) _ _ (by omega) ⟨(w + 1) % nv, i + 1, by omega, rfl, rfl, Nat.mod_lt _ (by omega)⟩
    by_cases h1 : ((M 1 w >>> ((21 : Int32) &&& 31)) &&& nI d) = 0
    · show OKq (if ((M 1 w >>> ((21 : Int32) &&& 31)) &&& nI d) = 0 then _ else _)
      rw [if_pos h1, kown (by omega) (key_n (hK w hw) (by omega))]
      by_cases h2 : ((G w 2) &&& (nI a ^^^ (-1))) = 0
      · rw [if_pos h2]
        exact hgo
      · rw [if_neg h2]
        exact hnx
    · show OKq (if ((M 1 w >>> ((21 : Int32) &&& 31)) &&& nI d) = 0 then _ else _)
      rw [if_neg h1]
      exact hnx
theorem views_n {S : St} {G : Gt} {nt nv : Nat} {M : Lt} {x2 x3 x4 : Int32} (h : RQ (S, G, nt, nv) M) (hx : x2 = 0 ∨ x2 = 1 ∨ x2 = 2 ∨ x2 = 3) : OKq (p_views x2 x3 x4 ((S, G, nt, nv), M, 0)) := by
  obtain ⟨hb3, hb10⟩ := h.b
  have h61 : M 6 1 = nI nv := h.2.1.2.2.1
  have hK := h.st.2.2.2.1
  have r1 : ∀ (f : Nat → Option (Int32 × Tt)), rd 1 7 f = f 1 := fun f => rd_n (j := 1) (by decide) (by decide)
  rw [pvw_d, r1, jn_d]
  show OKq (if M 6 1 = 0 then _ else _)
  by_cases hx0 : x2 = 0
  · rw [if_pos hx0]
    by_cases h0 : M 6 1 = 0
    · rw [if_pos h0, if_pos (by rw [hx0]; decide)]
      exact pv0_n h
    · rw [if_neg h0]
      exact pv0_n h
  · have hxl : ¬ x2 ≤ 0 := by
      rcases hx with e | e | e | e
      · exact absurd e hx0
      · rw [e]; decide
      · rw [e]; decide
      · rw [e]; decide
    by_cases h0 : nv = 0
    · subst h0
      rw [if_pos (show M 6 1 = 0 from h61), if_neg hxl, kcall (by omega) (ksel_o h (Or.inr (by decide)) (Or.inr rfl)), if_pos rfl, kcall (by omega) (kdrp_o h (Or.inr (by decide))), if_pos rfl, kcall (by omega) (kjn_0 h), if_pos rfl, kend (by omega)]
      exact ⟨_, _, _, rfl, h⟩
    · rw [if_neg (by rw [h61]; exact nI_ne0 (by omega) (by omega)), if_neg hx0, r1]
      obtain ⟨u, hu, eu⟩ := low_n x3 (n := nv) (by omega) (by omega)
      have eu' : l_low x3 (M 6 1) = some (nI u) := by rw [h61]; exact eu
      obtain ⟨c, hc, ec⟩ := low_n x4 (n := 3) (by decide) (by decide)
      have ec' : l_low x4 3 = some (nI c) := ec
      obtain ⟨w, hw, ew⟩ := low_n (x4 >>> ((3 : Int32) &&& 31)) (n := 3) (by decide) (by decide)
      have ew' : l_low (x4 >>> ((3 : Int32) &&& 31)) 3 = some (nI w) := ew
      obtain ⟨⟨a, ha8, ha⟩, ⟨b, hb8, hbk⟩, -⟩ := (h.2.1.2.2.2.1 u hu).2.1
      have ha : G u 1 = nI a := ha
      have hbk : G u 2 = nI b := hbk
      obtain ⟨d, hd0, hd8, hd, -⟩ := mask_3 h hu
      have w7 : ((M 1 u >>> ((21 : Int32) &&& 31)) &&& 7) = nI d := (hK u hu).2.2.1.trans hd
      rw [kown (by omega) eu', kown (by omega) ec', kown (by omega) ew', kown (by omega) (key_n (hK u hu) (by omega)), kown (by omega) (cols_n (hK u hu) (by omega)), rd_n (by omega) (by decide), lt_d, w7, ha, hbk]
      by_cases h1 : x2 = 1
      · rw [if_pos h1]
        unfold pv1
        rw [jn_d]
        by_cases h256 : (x4 &&& 768) ≤ 256
        · rw [if_pos h256]
          exact pv1B_n (s := 0) h hu hc hw (by decide) ha8 hb8 hd8 ha hbk hd
        · rw [if_neg h256]
          exact pv1B_n (s := 1) h hu hc hw (by decide) ha8 hb8 hd8 ha hbk hd
      · rw [if_neg h1]
        by_cases h2 : x2 = 2
        · rw [if_pos h2]
          exact pv2_n h hu hc hw ha8 hb8 hd8 ha hbk hd
        · rw [if_neg h2]
          exact pv3_n h hu ha8 hb8 hd8 (by omega) ha hbk hd
