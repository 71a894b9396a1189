/-! ===== a view is passed on, in both; all that is below a view ===== -/
theorem gl_app1 {l : List Nat} {a b j : Nat} : gl (l ++ [a, b]) l.length = a ∧ gl (l ++ [a, b]) (l.length + 1) = b := by
  unfold gl
  constructor
  · simp [List.getD_eq_getElem?_getD]
  · simp [List.getD_eq_getElem?_getD]
theorem Wn3.fr {G : Gt} {nv w : Nat} {Tb : Nat → List Nat} {S S' : St} {M M' : Lt} (h : Wn3 G nv Tb S M w) (h1 : M' 3 w = M 3 w) (h2 : Rw S (23 + 2 * w) (ms (M 3 w)) → Rw S' (23 + 2 * w) (ms (M 3 w))) : Wn3 G nv Tb S' M' w := by
  obtain ⟨q1, q2, q3, q4⟩ := h
  unfold Wn3
  rw [h1]
  exact ⟨q1, q2, h2 q3, q4⟩
theorem Wn3.new {G : Gt} {nv w : Nat} {Tb : Nat → List Nat} {S : St} {M : Lt} {l : List Nat} (hw : w < nv) (hI : Is (M 3 w) l) (hR : Rw S (23 + 2 * w) l) (hk : okW G (VV G Tb w) w l) : Wn3 G nv Tb S M w := by
  obtain ⟨i1, i2⟩ := hI
  exact ⟨hw, i1, by rw [i2]; exact hR, by rw [i2]; exact hk⟩
/-- what passing on leaves and makes -/
def PsO (G : Gt) (Tb : Nat → List Nat) (v : Nat) (M M' : Lt) : Prop :=
  (G v 6 = 6 → M' 4 (vt G v) = M 3 v ∧ ∀ t, t ≠ vt G v → M' 4 t = M 4 t) ∧ (G v 6 ≠ 6 → M' 4 = M 4) ∧ (∀ w, w ∉ kids G v → M' 3 w = M 3 w) ∧
  (G v 6 = 4 → ms (M' 3 (vl G v)) = paS G (VV G Tb (vl G v)) v (ms (M 3 v))) ∧ (G v 6 = 1 → ms (M' 3 (vl G v)) = paD G (VV G Tb (vl G v)) v (ms (M 3 v))) ∧
  (G v 6 = 2 → ms (M' 3 (vr G v)) = paR G (VV G Tb (vr G v)) v (ms (M 3 v)) ∧ ms (M' 3 (vl G v)) = paL G (VV G Tb (vl G v)) (paR G (VV G Tb (vr G v)) v (ms (M 3 v))) v (ms (M 3 v)))
theorem pass3 {G : Gt} {nt nv v : Nat} {Tb : Nat → List Nat} {S0 S : St} {M0 M : Lt} {P : Nat → Prop} {rest : List Nat} (hC : PC3 G nt nv Tb S0 M0) (hR : Re3 G nt nv Tb S0 M0 P S M) (hW : Wn3 G nv Tb S M v) (hun : unl (G v 2) (ms (M 3 v))) (h12 : G v 6 = 6 → (ms (M 3 v)).length ≤ 12) (hst : Stk3 M rest) (hv7 : M 7 rest.length = nI v) (hb : v + rest.length ≤ 9) : ∃ S' M', vd (G v 6) (d2_passOn G nt nv v S) (d3_passOn G nt nv v S) (d5_passOn G nt nv v S) (d7_passOn G nt nv v S) = some S' ∧ (∀ g, ptP g (nI (rest.length + 1)) rest.length M M = g (nI (rest ++ kids G v).length) M') ∧ Re3 G nt nv Tb S0 M0 (fun w => P w ∨ w ∈ kids G v) S' M' ∧ Stk3 M' (rest ++ kids G v) ∧ M' 6 = M 6 ∧ PsO G Tb v M M' := by
  have hSt := hC.st hR
  obtain ⟨hv, hok3, hSv, hok⟩ := hW
  have hO := hSt.1
  have hT := hSt.2.1
  have hG := hO.1
  have hA := hO.2.1 v hv
  have h3 := hG.1.1
  have hn10 : rest.length < 10 := by omega
  have hold : ∀ w, P w → Wn3 G nv Tb S M w := hR.2.2.2.2.2.2
  rcases hG.K hv with k6 | k6 | k6 | k6
  · have hlv := (hG.L' hv (ne6_1 k6)).2
    have hk : kids G v = [vl G v] := by
      unfold kids
      rw [if_neg (ne6_1 k6), if_neg (show ¬ G v 6 = 2 by rw [k6]; decide)]
    obtain ⟨S1, e1, s1, f1⟩ := pass2_n (nt := nt) (nv := nv) hSv (hC.rs hR (show vl G v < nv by omega)) hA k6 hlv
    obtain ⟨T, -, t1, t2, t3⟩ := pt_1 (g := fun _ _ => none) hSt hv hv7 hn10 k6 hok3 hok.2
    have hnew := paD_ok hO hT hv k6 hok
    have he : ∀ g, ptP g (nI (rest.length + 1)) rest.length M M = g (nI (rest.length + 1)) (w3 T 7 rest.length (nI (vl G v))) := fun g => by
      obtain ⟨T2, q1, q2, q3, q4⟩ := pt_1 (g := g) hSt hv hv7 hn10 k6 hok3 hok.2
      rw [q1]
      congr 2
      funext k
      by_cases hk3 : k = 3
      · subst hk3
        funext q
        by_cases hq : q = vl G v
        · subst hq
          exact q4.uniq t3
        · rw [q3 q hq, t2 q hq]
      · rw [q2 k hk3, t1 k hk3]
    rw [vd1 k6, hk]
    have m3 : (w3 T 7 rest.length (nI (vl G v))) 3 = T 3 := w3_n (by decide)
    refine ⟨S1, w3 T 7 rest.length (nI (vl G v)), e1, fun g => by rw [he, List.length_append, List.length_singleton], hR.upd h3 (fun k hk2 => ⟨f1.1 k (fun z => hk2 (by omega)), f1.2 k (fun z => hk2 (by omega))⟩) (fun k a b => (w3_n b).trans (t1 k a)) (fun w hw => ?_), fun j hj => ?_, (w3_n (by decide)).trans (t1 6 (by decide)), fun z => absurd (k6.symm.trans z) (by decide), fun _ => (w3_n (by decide)).trans (t1 4 (by decide)), fun w hw => ?_, fun z => absurd (k6.symm.trans z) (by decide), fun _ => by rw [m3]; exact t3.2, fun z => absurd (k6.symm.trans z) (by decide)⟩
    · rw [List.mem_singleton] at hw
      by_cases hwe : w = vl G v
      · subst hwe
        exact Wn3.new (by omega) (by rw [m3]; exact t3) s1 hnew
      · exact (hold w (hw.resolve_right hwe)).fr (by rw [m3]; exact t2 w hwe) (fun q => Rw_fr q f1 (by omega))
    · rw [List.length_append, List.length_singleton] at hj
      by_cases e : j = rest.length
      · subst e
        rw [w3_e, gl_append_at]
      · rw [w3_o e, t1 7 (by decide), gl_append_l (by omega)]
        exact hst j (by omega)
    · rw [hk, List.mem_singleton] at hw
      rw [m3]
      exact t2 w hw
  · have hlv := (hG.L' hv (ne6_2 k6)).2
    have hrv := (hG.R' hv k6).2
    have hk : kids G v = [vl G v, vr G v] := by
      unfold kids
      rw [if_neg (ne6_2 k6), if_pos k6]
    have hne := kids_ne hO hv k6
    have hFl := FV_n hO hT (show vl G v < nv by omega)
    have hFr := FV_n hO hT (show vr G v < nv by omega)
    have okR := wPr_ok hO hT hv k6 hok
    have okL := wPl_ok hO hT hv k6 hok
    obtain ⟨S1, e1, s1r, s1l, f1⟩ := pass3_n (nt := nt) (nv := nv) hSv (hC.rs hR (show vl G v < nv by omega)) (hC.rs hR (show vr G v < nv by omega)) hlv hrv hne okR.1 okL.1 hFr.2.1 hFr.2.2.2 hFl.2.1 hFl.2.2.2
    obtain ⟨y1, y2, -, i1, i2⟩ := pt_2 (g := fun _ _ => none) hSt hv hv7 hn10 k6 hok3
    have he : ∀ g, ptP g (nI (rest.length + 1)) rest.length M M = g (nI (rest.length + 2)) (w3 (w3 (w3 (w3 M 3 (vr G v) y1) 3 (vl G v) y2) 7 rest.length (nI (vl G v))) 7 (rest.length + 1) (nI (vr G v))) := fun g => by
      obtain ⟨z1, z2, q1, q2, q3⟩ := pt_2 (g := g) hSt hv hv7 hn10 k6 hok3
      rw [q1, q2.uniq i1, q3.uniq i2]
    have m3 : (w3 (w3 (w3 (w3 M 3 (vr G v) y1) 3 (vl G v) y2) 7 rest.length (nI (vl G v))) 7 (rest.length + 1) (nI (vr G v))) 3 = (w3 (w3 M 3 (vr G v) y1) 3 (vl G v) y2) 3 := (w3_n (by decide)).trans (w3_n (by decide))
    have ml : (w3 (w3 M 3 (vr G v) y1) 3 (vl G v) y2) 3 (vl G v) = y2 := w3_e
    have mr : (w3 (w3 M 3 (vr G v) y1) 3 (vl G v) y2) 3 (vr G v) = y1 := (w3_o (by omega)).trans w3_e
    have mo : ∀ k, k ≠ 3 → k ≠ 7 → (w3 (w3 (w3 (w3 M 3 (vr G v) y1) 3 (vl G v) y2) 7 rest.length (nI (vl G v))) 7 (rest.length + 1) (nI (vr G v))) k = M k := fun k a b => by rw [w3_n b, w3_n b, w3_n a, w3_n a]
    rw [vd2 k6, hk]
    refine ⟨S1, _, e1, fun g => by rw [he, List.length_append]; rfl, hR.upd h3 (fun k hk2 => f1 k (fun z => hk2 (by omega)) (fun z => hk2 (by omega))) mo (fun w hw => ?_), fun j hj => ?_, mo 6 (by decide) (by decide), fun z => absurd (k6.symm.trans z) (by decide), fun _ => mo 4 (by decide) (by decide), fun w hw => ?_, fun z => absurd (k6.symm.trans z) (by decide), fun z => absurd (k6.symm.trans z) (by decide), fun _ => ⟨by rw [m3, mr]; exact i1.2, by rw [m3, ml]; exact i2.2⟩⟩
    · have hw2 : P w ∨ w = vl G v ∨ w = vr G v := by simpa using hw
      by_cases hwl : w = vl G v
      · subst hwl
        exact Wn3.new (by omega) (by rw [m3, ml]; exact i2) s1l (paL_ok hO hT hv k6 hok)
      · by_cases hwr : w = vr G v
        · subst hwr
          exact Wn3.new (by omega) (by rw [m3, mr]; exact i1) s1r (paR_ok hO hT hv k6 hok)
        · have hPw : P w := by
            rcases hw2 with q | q | q
            · exact q
            · exact absurd q hwl
            · exact absurd q hwr
          refine (hold w hPw).fr (by rw [m3, w3_o hwl, w3_o hwr]) (fun q => q.fr (f1 _ (by omega) (by omega)).1 (f1 _ (by omega) (by omega)).2)
    · rw [List.length_append] at hj
      have hj2 : j < rest.length + 2 := hj
      by_cases e : j = rest.length + 1
      · subst e
        rw [w3_e, (gl_app1 (j := 0)).2]
      · rw [w3_o e]
        by_cases e2 : j = rest.length
        · subst e2
          rw [w3_e, (gl_app1 (j := 0)).1]
        · rw [w3_o e2, w3_n (by decide), w3_n (by decide), gl_append_l (by omega)]
          exact hst j (by omega)
    · have hw2 : ¬ (w = vl G v ∨ w = vr G v) := by rw [hk] at hw; simpa using hw
      rw [m3, w3_o (fun z => hw2 (Or.inl z)), w3_o (fun z => hw2 (Or.inr z))]
  · have hlv := (hG.L' hv (ne6_4 k6)).2
    have hk : kids G v = [vl G v] := by
      unfold kids
      rw [if_neg (ne6_4 k6), if_neg (show ¬ G v 6 = 2 by rw [k6]; decide)]
    obtain ⟨S1, e1, s1, f1⟩ := pass5_n (nt := nt) (nv := nv) hSv (hC.rs hR (show vl G v < nv by omega)) hA k6 hlv (paS_c hO hT hv k6 hok)
    obtain ⟨y, -, i1⟩ := pt_4 (g := fun _ _ => none) hSt hv hv7 hn10 k6 hok3
    have he : ∀ g, ptP g (nI (rest.length + 1)) rest.length M M = g (nI (rest.length + 1)) (w3 (w3 M 3 (vl G v) y) 7 rest.length (nI (vl G v))) := fun g => by
      obtain ⟨z1, q1, q2⟩ := pt_4 (g := g) hSt hv hv7 hn10 k6 hok3
      rw [q1, q2.uniq i1]
    have m3 : (w3 (w3 M 3 (vl G v) y) 7 rest.length (nI (vl G v))) 3 = (w3 M 3 (vl G v) y) 3 := w3_n (by decide)
    have mo : ∀ k, k ≠ 3 → k ≠ 7 → (w3 (w3 M 3 (vl G v) y) 7 rest.length (nI (vl G v))) k = M k := fun k a b => by rw [w3_n b, w3_n a]
    rw [vd4 k6, hk]
    refine ⟨S1, _, e1, fun g => by rw [he, List.length_append, List.length_singleton], hR.upd h3 (fun k hk2 => ⟨f1.1 k (fun z => hk2 (by omega)), f1.2 k (fun z => hk2 (by omega))⟩) mo (fun w hw => ?_), fun j hj => ?_, mo 6 (by decide) (by decide), fun z => absurd (k6.symm.trans z) (by decide), fun _ => mo 4 (by decide) (by decide), fun w hw => ?_, fun _ => by rw [m3, w3_e]; exact i1.2, fun z => absurd (k6.symm.trans z) (by decide), fun z => absurd (k6.symm.trans z) (by decide)⟩
    · rw [List.mem_singleton] at hw
      by_cases hwe : w = vl G v
      · subst hwe
        exact Wn3.new (by omega) (by rw [m3, w3_e]; exact i1) s1 (paS_ok hO hT hv k6 hok)
      · exact (hold w (hw.resolve_right hwe)).fr (by rw [m3, w3_o hwe]) (fun q => Rw_fr q f1 (by omega))
    · rw [List.length_append, List.length_singleton] at hj
      by_cases e : j = rest.length
      · subst e
        rw [w3_e, gl_append_at]
      · rw [w3_o e, w3_n (by decide), gl_append_l (by omega)]
        exact hst j (by omega)
    · rw [hk, List.mem_singleton] at hw
      rw [m3, w3_o hw]
  · have ht := (hG.T' hv k6).2
    have hk : kids G v = [] := by
      unfold kids
      rw [if_pos k6]
    obtain ⟨S1, e1, s1, f1⟩ := pass7_n (G := G) (nt := nt) (nv := nv) hSv (h12 k6) (show vt G v < 3 by omega)
    have he := fun g => pt_6 (g := g) hSt hv hv7 hn10 k6
    obtain ⟨a1, a2, a3⟩ := hA.1 k6
    have m3 : (w3 M 4 (vt G v) (M 3 v)) 3 = M 3 := w3_n (by decide)
    have hFT : FT G (vt G v) (ms (M 3 v)) := ⟨h12 k6, ms_srt _, fun r hr => by rw [← a1]; exact hok.2 r hr, by rw [← a2]; exact hun⟩
    rw [vd6 k6, hk]
    obtain ⟨h1, h2, h3', h4, h5, h6, h7⟩ := hR
    refine ⟨S1, w3 M 4 (vt G v) (M 3 v), e1, fun g => by rw [he, List.append_nil], ⟨h1.tr ⟨fun k hk2 => f1.1 k (fun z => hk2 (by unfold scr; omega)), fun k _ hk2 => f1.2 k (fun z => hk2 (by unfold scr; omega))⟩, fun k a b c d => (w3_n b).trans (h2 k a b c d), fun j a b => by rw [w3_n (by decide)]; exact h3' j a b, ?_, fun t ht2 => ?_, fun t ht2 => ?_, fun w hw => ?_⟩, fun j hj => ?_, w3_n (by decide), fun _ => ⟨w3_e, fun t htn => w3_o htn⟩, fun z => absurd k6 z, fun w _ => by rw [m3], fun z => absurd (k6.symm.trans z) (by decide), fun z => absurd (k6.symm.trans z) (by decide), fun z => absurd (k6.symm.trans z) (by decide)⟩
    · unfold CQ
      rw [w3_n (by decide), f1.1 46 (by omega), f1.1 47 (by omega), f1.1 48 (by omega)]
      exact h4
    · by_cases e : t = vt G v
      · subst e
        rw [w3_e]
        exact ⟨hok3, s1, hFT⟩
      · rw [w3_o e]
        obtain ⟨q1, q2, q3⟩ := h5 t ht2
        exact ⟨q1, Rw_fr q2 f1 (by omega), q3⟩
    · rw [w3_o (by omega)]
      exact h6 t ht2
    · rcases hw with hw | hw
      · exact (h7 w hw).fr (by rw [m3]) (fun q => Rw_fr q f1 (by omega))
      · cases hw
    · rw [List.append_nil] at hj ⊢
      rw [w3_n (by decide)]
      exact hst j hj
def gLq (k : Nat) (x : Int32) (M : Lt) : Option Lt := lp (fun _ _ => none) ptF k x M
theorem gLq_s {k : Nat} {x : Int32} {M : Lt} : gLq (k + 1) x M = ptF (gLq k) x M := rfl
def djm (a b : Int32) : Prop := ∀ c, c < 32 → bt a c = true → bt b c = false
theorem kid_mask {G : Gt} {nt nv v u : Nat} (hO : OKG G nt nv) (hv : v < nv) (hu : u ∈ kids G v) : u < v ∧ ∀ c, c < 32 → bt (G u 3) c = true → bt (G v 3) c = true := by
  unfold kids at hu
  rcases hO.1.K hv with k6 | k6 | k6 | k6
  · rw [if_neg (ne6_1 k6), if_neg (show ¬ G v 6 = 2 by rw [k6]; decide), List.mem_singleton] at hu
    obtain ⟨-, -, a3, -⟩ := (hO.2.1 v hv).2.2.1 k6
    rw [hu]
    exact ⟨(hO.1.L' hv (ne6_1 k6)).2, fun c _ h => by rw [a3]; exact h⟩
  · rw [if_neg (ne6_2 k6), if_pos k6] at hu
    obtain ⟨-, -, a3, -⟩ := (hO.2.1 v hv).2.2.2 k6
    have hu2 : u = vl G v ∨ u = vr G v := by simpa using hu
    rcases hu2 with e | e
    · rw [e]
      exact ⟨(hO.1.L' hv (ne6_2 k6)).2, fun c hc h => by rw [a3, bt_or hc, h]; rfl⟩
    · rw [e]
      exact ⟨(hO.1.R' hv k6).2, fun c hc h => by rw [a3, bt_or hc, h, Bool.or_true]⟩
  · rw [if_neg (ne6_4 k6), if_neg (show ¬ G v 6 = 2 by rw [k6]; decide), List.mem_singleton] at hu
    obtain ⟨-, -, a3, -⟩ := (hO.2.1 v hv).2.1 k6
    rw [hu]
    exact ⟨(hO.1.L' hv (ne6_4 k6)).2, fun c _ h => by rw [a3]; exact h⟩
  · rw [if_pos k6] at hu
    cases hu
theorem dj_kid {G : Gt} {nt nv v w : Nat} (hO : OKG G nt nv) (hv : v < nv) (hw : w < nv) (hd : djm (G w 3) (G v 3)) : w ∉ kids G v ∧ ∀ u, u ∈ kids G v → djm (G w 3) (G u 3) := by
  constructor
  · intro hk
    obtain ⟨-, h2⟩ := kid_mask hO hv hk
    obtain ⟨c, hc, hb⟩ := mask_ne hO _ w (Nat.lt_succ_self _) hw
    have := hd c hc hb
    rw [h2 c hc hb] at this
    cases this
  · intro u hu c hc hb
    cases hb2 : bt (G u 3) c
    · rfl
    · have := hd c hc hb
      rw [(kid_mask hO hv hu).2 c hc hb2] at this
      cases this
theorem dj_lr {G : Gt} {nt nv v : Nat} (hO : OKG G nt nv) (hv : v < nv) (k6 : G v 6 = 2) : djm (G (vl G v) 3) (G (vr G v) 3) := by
  obtain ⟨-, -, -, -, a5, -⟩ := (hO.2.1 v hv).2.2.2 k6
  intro c hc hb
  cases hb2 : bt (G (vr G v) 3) c
  · rfl
  · have h1 : bt (G (vl G v) 3 &&& G (vr G v) 3) c = false := by rw [a5, bt_0 hc]
    rw [bt_and hc, hb, hb2] at h1
    cases h1
theorem gl_last {l : List Nat} {a : Nat} : gl (l ++ [a]) l.length = a := gl_append_at
theorem down3 {G : Gt} {nt nv : Nat} {Tb : Nat → List Nat} {S0 : St} {M0 : Lt} (hC : PC3 G nt nv Tb S0 M0) : ∀ b v, v < b → v < nv → ∀ (P : Nat → Prop) (S : St) (M : Lt) (rest : List Nat) (n d : Nat), Re3 G nt nv Tb S0 M0 P S M → P v → Stk3 M (rest ++ [v]) → v + rest.length ≤ 9 → d + v ≤ 9 → v + 1 < n → M 6 4 = 0 → ∃ S1 M1 c, c ≤ cn v ∧ d10_passDown G nt nv n (some v) (nI d) S = some S1 ∧ Re3 G nt nv Tb S0 M0 P S1 M1 ∧
    ((M1 6 4 = 0 ∧ Stk3 M1 rest ∧ (∀ k, gLq (k + c) (nI (rest.length + 1)) M = gLq k (nI rest.length) M1) ∧ (∀ t, t < nt → bt (G v 3) t = false → M1 4 t = M 4 t) ∧ (∀ w, w < nv → djm (G w 3) (G v 3) → M1 3 w = M 3 w) ∧ VV G (fun t => ms (M1 4 t)) v = ms (M 3 v)) ∨
     (¬ M1 6 4 = 0 ∧ ∀ k, gLq (k + c + 1) (nI (rest.length + 1)) M = some M1)) := by
  intro b
  induction b with
  | zero => intro v h; omega
  | succ b ih =>
    intro v hb hv P S M rest n d hR hPv hst hvr hdv hn h64
    have hSt := hC.st hR
    have hO := hSt.1
    have hG := hO.1
    have h3 := hG.1.1
    have hnv := hG.1.2
    obtain ⟨n, rfl⟩ : ∃ m, n = m + 1 := ⟨n - 1, by omega⟩
    have hCQ := hR.2.2.2.1
    have h65 : M 6 5 = 0 := by
      rcases hCQ.2.2.2 with q | q
      · exact q.2
      · rw [h64] at q
        exact absurd (Int32.le_refl 0) q
    have h46 : S.1 46 = 0 := hCQ.1.trans h64
    have hWv := hR.2.2.2.2.2.2 v hPv
    obtain ⟨-, hok3, hSv, hok⟩ := id hWv
    have hv7 : M 7 rest.length = nI v := by
      have := hst rest.length (by rw [List.length_append, List.length_singleton]; omega)
      rw [gl_append_at] at this
      exact this
    have hstr : Stk3 M rest := fun j hj => by
      have := hst j (by rw [List.length_append, List.length_singleton]; omega)
      rw [gl_append_l hj] at this
      exact this
    have hgf : ∀ k, gLq (k + 1) (nI (rest.length + 1)) M = cb2 (l_hinders (nI v) (M 3 v) M) fun (z40 : Int32) (S41 : Lt) => if z40 = 0 then ptP (gLq k) (nI (rest.length + 1)) rest.length M S41 else (some S41) := fun k => by
      rw [gLq_s]
      unfold ptF
      rw [if_neg (nI_le0 (by omega) (by omega)), pk_m1, rd_n (by omega) (by decide), hv7, rd_n (by omega) (by decide)]
    have hKr : G v 6 = 2 → KW G M (vr G v) := fun h2 => hSt.2.2.1 _ (by have := (hG.R' hv h2).2; omega)
    rw [pd_s, gd_t hv, if_neg (show ¬ (10 : Int32) ≤ nI d from nI_ge (b := 10) (by omega) (by decide)), told0 h46, cb_s, if_pos z00]
    rcases hind_n (nt := nt) (nv := nv) hSv h46 h64 h65 (hSt.2.2.1 v hv) hKr (hSt.2.2.2.1 v hv) hO hv (hC.2.2 v hv) hok.2 with ⟨e1, e2, hun, h12, hsel, hj3⟩ | ⟨c, x, y, M', hcp, e1, e2, hcr⟩
    · obtain ⟨S2, M2, e3, e4, hR2, hst2, h62, hps⟩ := pass3 hC hR hWv hun h12 hstr hv7 hvr
      obtain ⟨p6, p6n, pw, p4, p1, p2⟩ := hps
      have hz2 : M2 6 4 = 0 := by rw [h62]; exact h64
      have hgo : ∀ k, gLq (k + 1) (nI (rest.length + 1)) M = gLq k (nI (rest ++ kids G v).length) M2 := fun k => by rw [hgf, cb2_t e2, if_pos rfl, e4]
      rw [e1, cb_s, told0 h46, cb_s, if_pos z00, e3, cb_s, lt_d]
      obtain ⟨n, rfl⟩ : ∃ m, n = m + 1 := ⟨n - 1, by omega⟩
      by_cases k2 : G v 6 = 2
      · obtain ⟨l4, hlv⟩ := hG.L' hv (ne6_2 k2)
        obtain ⟨r5, hrv⟩ := hG.R' hv k2
        have hne := kids_ne hO hv k2
        have n6 : G v 6 ≠ 6 := ne6_2 k2
        have hk : kids G v = [vl G v, vr G v] := by
          unfold kids
          rw [if_neg (ne6_2 k2), if_pos k2]
        have hkl : vl G v ∈ kids G v := by rw [hk]; simp
        have hkr : vr G v ∈ kids G v := by rw [hk]; simp
        have hst2' : Stk3 M2 ((rest ++ [vl G v]) ++ [vr G v]) := by
          rw [List.append_assoc]
          rw [hk] at hst2
          exact hst2
        have hlen : (rest ++ [vl G v]).length = rest.length + 1 := by rw [List.length_append, List.length_singleton]
        have hlen2 : (rest ++ kids G v).length = (rest ++ [vl G v]).length + 1 := by rw [hk, hlen, List.length_append]; rfl
        rw [hlen2] at hgo
        obtain ⟨S3, M3, c3, hc3, e5, hR3, hx3⟩ := ih (vr G v) (by omega) (by omega) _ S2 M2 (rest ++ [vl G v]) (n + 1) (d + 1) hR2 (Or.inr hkr) hst2' (by omega) (by omega) (by omega) hz2
        rw [r5, oid_nI (by omega), nI_1, e5, cb_s, lt_d, l4, oid_nI (by omega)]
        rcases hx3 with ⟨hz3, hst3, hg3, ft3, fw3, fv3⟩ | ⟨hz3, hg3⟩
        · rw [hlen] at hg3
          obtain ⟨S4, M4, c4, hc4, e6, hR4, hx4⟩ := ih (vl G v) (by omega) (by omega) _ S3 M3 rest (n + 1) (d + 1) hR3 (Or.inr hkl) hst3 (by omega) (by omega) (by omega) hz3
          rw [e6, cb_s]
          have hcn := cn_2 hlv hrv hne
          refine ⟨S4, M4, c4 + (c3 + 1), by omega, rfl, hR4.mono (fun w hw => Or.inl hw), ?_⟩
          rcases hx4 with ⟨hz4, hst4, hg4, ft4, fw4, fv4⟩ | ⟨hz4, hg4⟩
          · refine Or.inl ⟨hz4, hst4, fun k => ?_, fun t ht hbt => ?_, fun w hw hd => ?_, ?_⟩
            · rw [show k + (c4 + (c3 + 1)) = (k + c4) + c3 + 1 by omega, hgo, hlen, hg3, hg4]
            · have hml := (kid_mask hO hv hkl).2 t (by omega)
              have hmr := (kid_mask hO hv hkr).2 t (by omega)
              rw [ft4 t ht (by
                cases q : bt (G (vl G v) 3) t
                · rfl
                · rw [hml q] at hbt; cases hbt), ft3 t ht (by
                cases q : bt (G (vr G v) 3) t
                · rfl
                · rw [hmr q] at hbt; cases hbt), p6n n6]
            · obtain ⟨d1, d2⟩ := dj_kid hO hv hw hd
              rw [fw4 w hw (d2 _ hkl), fw3 w hw (d2 _ hkr), pw w d1]
            · have hFT4 : ∀ t, t < nt → FT G t (ms (M4 4 t)) := fun t ht => (hR4.2.2.2.2.1 t ht).2.2
              have e7 : VV G (fun t => ms (M4 4 t)) (vr G v) = VV G (fun t => ms (M3 4 t)) (vr G v) := VV_mask hO _ _ (Nat.lt_succ_self _) (by omega) (fun t ht hbt => by
                rw [ft4 t ht (by
                  cases q : bt (G (vl G v) 3) t
                  · rfl
                  · have := dj_lr hO hv k2 t (by omega) q
                    rw [hbt] at this
                    cases this)])
              have e8 : M3 3 (vl G v) = M2 3 (vl G v) := fw3 _ (by omega) (dj_lr hO hv k2)
              exact lens_2 (VL := VV G Tb (vl G v)) (VR := VV G Tb (vr G v)) hO hFT4 hv k2 (by rw [fv4, e8]; exact (p2 k2).2) (by rw [e7, fv3]; exact (p2 k2).1) hok.2 (hj3 k2) (ms_srt _)
          · refine Or.inr ⟨hz4, fun k => ?_⟩
            rw [show k + (c4 + (c3 + 1)) + 1 = (k + c4 + 1) + c3 + 1 by omega, hgo, hlen, hg3, hg4]
        · have h46' : ¬ S3.1 46 = 0 := by rw [hR3.2.2.2.1.1]; exact hz3
          have e6 : d10_passDown G nt nv (n + 1) (some (vl G v)) (nI (d + 1)) S3 = some S3 := by
            rw [pd_s, gd_t (show vl G v < nv by omega), if_neg (show ¬ (10 : Int32) ≤ nI (d + 1) from nI_ge (b := 10) (by omega) (by decide)), told1 h46', cb_s, if_neg z10]
          rw [e6, cb_s]
          have hcn := cn_1 hrv
          refine ⟨S3, M3, c3 + 1, by omega, rfl, hR3.mono (fun w hw => Or.inl hw), Or.inr ⟨hz3, fun k => ?_⟩⟩
          rw [show k + (c3 + 1) + 1 = (k + c3 + 1) + 1 by omega, hgo, hg3]
      · rw [hG.no5 hv k2, oid_m1, pd_o, cb_s, lt_d]
        by_cases k6 : G v 6 = 6
        · have hk : kids G v = [] := by
            unfold kids
            rw [if_pos k6]
          have hgo2 : ∀ k, gLq (k + 1) (nI (rest.length + 1)) M = gLq k (nI rest.length) M2 := fun k => by rw [hgo, hk, List.append_nil]
          rw [hk, List.append_nil] at hst2
          rw [hG.no4 hv k6, oid_m1, pd_o, cb_s]
          obtain ⟨-, -, a3⟩ := (hO.2.1 v hv).1 k6
          have ht := (hG.T' hv k6).2
          refine ⟨S2, M2, 1, (cn_up v).2, rfl, hR2.mono (fun w hw => Or.inl hw), Or.inl ⟨hz2, hst2, hgo2, fun t ht2 hbt => (p6 k6).2 t (fun e => ?_), fun w _ _ => pw w (by rw [hk]; simp), ?_⟩⟩
          · rw [a3, e, bt_one (by omega) (by omega)] at hbt
            simp at hbt
          · rw [VV_tab hO (fun t ht => (hR2.2.2.2.2.1 t ht).2.2) hv k6, (p6 k6).1]
        · obtain ⟨l4, hlv⟩ := hG.L' hv k6
          have hk : kids G v = [vl G v] := by
            unfold kids
            rw [if_neg k6, if_neg k2]
          have hkl : vl G v ∈ kids G v := by rw [hk]; simp
          have hlen2 : (rest ++ kids G v).length = rest.length + 1 := by rw [hk, List.length_append]; rfl
          rw [hlen2] at hgo
          have hst2' : Stk3 M2 (rest ++ [vl G v]) := by
            rw [hk] at hst2
            exact hst2
          obtain ⟨S4, M4, c4, hc4, e6, hR4, hx4⟩ := ih (vl G v) (by omega) (by omega) _ S2 M2 rest (n + 1) (d + 1) hR2 (Or.inr hkl) hst2' (by omega) (by omega) (by omega) hz2
          rw [l4, oid_nI (by omega), nI_1, e6, cb_s]
          have hcn := cn_1 hlv
          refine ⟨S4, M4, c4 + 1, by omega, rfl, hR4.mono (fun w hw => Or.inl hw), ?_⟩
          rcases hx4 with ⟨hz4, hst4, hg4, ft4, fw4, fv4⟩ | ⟨hz4, hg4⟩
          · refine Or.inl ⟨hz4, hst4, fun k => ?_, fun t ht hbt => ?_, fun w hw hd => ?_, ?_⟩
            · rw [show k + (c4 + 1) = (k + c4) + 1 by omega, hgo, hg4]
            · have hml := (kid_mask hO hv hkl).2 t (by omega)
              rw [ft4 t ht (by
                cases q : bt (G (vl G v) 3) t
                · rfl
                · rw [hml q] at hbt; cases hbt), p6n k6]
            · obtain ⟨d1, d2⟩ := dj_kid hO hv hw hd
              rw [fw4 w hw (d2 _ hkl), pw w d1]
            · have hFT4 : ∀ t, t < nt → FT G t (ms (M4 4 t)) := fun t ht => (hR4.2.2.2.2.1 t ht).2.2
              rcases hG.K hv with k | k | k | k
              · exact lens_1 (V := VV G Tb (vl G v)) hO hFT4 hv k (by rw [fv4]; exact p1 k) hok.2 (ms_srt _)
              · exact absurd k k2
              · exact lens_4 (V := VV G Tb (vl G v)) hO hFT4 hv k (by rw [fv4]; exact p4 k) (hsel k) (ms_srt _)
              · exact absurd k k6
          · refine Or.inr ⟨hz4, fun k => ?_⟩
            rw [show k + (c4 + 1) + 1 = (k + c4 + 1) + 1 by omega, hgo, hg4]
    · have hc0 : ¬ c = 0 := fun z => hcp (by rw [z]; decide)
      rw [e1, cb_s, told1 (by rw [apC_46]; exact hc0), cb_s, if_neg z10]
      refine ⟨_, M', 0, Nat.zero_le _, rfl, hR.tell h3 hnv hcp hcr, Or.inr ⟨by rw [hcr.2.2.1]; exact hc0, fun k => ?_⟩⟩
      rw [Nat.add_zero, hgf, cb2_t e2, if_neg (by decide)]
