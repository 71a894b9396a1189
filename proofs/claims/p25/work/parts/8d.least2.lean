/-! ===== the sets tried, the least ===== -/
theorem xs3_bt {c m i : Nat} (hi : i < 32) : ∀ k, (∀ j, j < k → R3 c j < 32) → (bt (xs3 c m k) i = true ↔ ∃ j, j < k ∧ bq (nI m) j = true ∧ R3 c j = i) := by
  intro k
  induction k with
  | zero =>
    intro _
    show bt 0 i = true ↔ _
    rw [bt_0 hi]
    exact ⟨fun h => (by cases h), fun ⟨j, h, _⟩ => absurd h (Nat.not_lt_zero _)⟩
  | succ k ih =>
    intro hR
    have h1 := ih fun j hj => hR j (by omega)
    rw [ex_succ, ← h1]
    show bt (if bq (nI m) k = true then _ else _) i = true ↔ _
    cases hb : bq (nI m) k
    · rw [if_neg (by decide)]
      exact ⟨fun h => Or.inl h, fun h => h.resolve_right fun z => by cases z.1⟩
    · rw [if_pos rfl, bt_set (hR k (Nat.lt_succ_self k)) hi, Bool.or_eq_true, decide_eq_true_eq]
      exact ⟨fun h => h.imp id fun z => ⟨rfl, z.symm⟩, fun h => h.imp id fun z => z.2.symm⟩
def BB (A : Nat → Prop) (f : Nat → Option Nat) (b : Int32) : Prop := (b = -1 ∧ ∀ m, A m → f m = none) ∨ ∃ d, d < 2 ^ 31 ∧ b = nI d ∧ (∃ m, A m ∧ f m = some d) ∧ ∀ m e, A m → f m = some e → d ≤ e
theorem BB.u {A : Nat → Prop} {f : Nat → Option Nat} {b c : Int32} (h1 : BB A f b) (h2 : BB A f c) : b = c := by
  rcases h1 with ⟨rfl, h1⟩ | ⟨d, hd, rfl, ⟨m, a1, a2⟩, a3⟩
  · rcases h2 with ⟨rfl, -⟩ | ⟨e, -, -, ⟨m, b1, b2⟩, -⟩
    · rfl
    · rw [h1 m b1] at b2
      cases b2
  · rcases h2 with ⟨-, h2⟩ | ⟨e, he, rfl, ⟨m2, b1, b2⟩, b3⟩
    · rw [h2 m a1] at a2
      cases a2
    · have := a3 m2 e b1 b2
      have := b3 m d a1 a2
      rw [show d = e by omega]
theorem BB.no {A B : Nat → Prop} {f : Nat → Option Nat} {b : Int32} {n : Nat} (h : BB A f b) (hB : ∀ m, B m ↔ A m ∨ m = n) (hn : f n = none) : BB B f b := by
  rcases h with ⟨rfl, h1⟩ | ⟨d, hd, rfl, ⟨m, a1, a2⟩, a3⟩
  · refine Or.inl ⟨rfl, fun m hm => ?_⟩
    rcases (hB m).mp hm with z | rfl
    · exact h1 m z
    · exact hn
  · refine Or.inr ⟨d, hd, rfl, ⟨m, (hB m).mpr (Or.inl a1), a2⟩, fun q e hq he => ?_⟩
    rcases (hB q).mp hq with z | rfl
    · exact a3 q e z he
    · rw [hn] at he
      cases he
theorem BB.yes {A B : Nat → Prop} {f : Nat → Option Nat} {b : Int32} {n d : Nat} (h : BB A f b) (hB : ∀ m, B m ↔ A m ∨ m = n) (hn : f n = some d) (hd : d < 2 ^ 31) : BB B f (if b < 0 then nI d else if b ≤ nI d then b else nI d) ∧ (if b = -1 then nI d else if nI d < b then nI d else b) = (if b < 0 then nI d else if b ≤ nI d then b else nI d) := by
  rcases h with ⟨rfl, h1⟩ | ⟨e, he, rfl, ⟨m, a1, a2⟩, a3⟩
  · rw [if_pos (by decide), if_pos rfl]
    refine ⟨Or.inr ⟨d, hd, rfl, ⟨n, (hB n).mpr (Or.inr rfl), hn⟩, fun q g hq hg => ?_⟩, rfl⟩
    rcases (hB q).mp hq with z | rfl
    · rw [h1 q z] at hg
      cases hg
    · rw [hn] at hg
      cases hg
      exact Nat.le_refl _
  · rw [if_neg (nI_pos he), if_neg (nm1 he)]
    by_cases hle : e ≤ d
    · rw [if_pos (nI_le hle hd), if_neg (nI_nlt hle hd)]
      refine ⟨Or.inr ⟨e, he, rfl, ⟨m, (hB m).mpr (Or.inl a1), a2⟩, fun q g hq hg => ?_⟩, rfl⟩
      rcases (hB q).mp hq with z | rfl
      · exact a3 q g z hg
      · rw [hn] at hg
        cases hg
        exact hle
    · rw [if_neg (nI_ge (by omega) he), if_pos (nI_lt (by omega) he)]
      refine ⟨Or.inr ⟨d, hd, rfl, ⟨n, (hB n).mpr (Or.inr rfl), hn⟩, fun q g hq hg => ?_⟩, rfl⟩
      rcases (hB q).mp hq with z | rfl
      · have := a3 q g z hg
        omega
      · rw [hn] at hg
        cases hg
        exact Nat.le_refl _
theorem bst_BB {f : Nat → Option Nat} (hf : ∀ m d, f m = some d → d < 2 ^ 31) : ∀ n, BB (fun m => m < n) f (bst f n) := by
  intro n
  induction n with
  | zero => exact Or.inl ⟨rfl, fun m hm => absurd hm (Nat.not_lt_zero _)⟩
  | succ n ih =>
    have hB : ∀ m, m < n + 1 ↔ m < n ∨ m = n := fun m => by omega
    cases h : f n with
    | none =>
      rw [bst_o h]
      exact ih.no hB h
    | some d =>
      obtain ⟨h1, h2⟩ := ih.yes hB h (hf n d h)
      rw [bst_s h, h2]
      exact h1
theorem dif_le {L H : List Nat} {m : Nat} : dif L H m ≤ L.length := by
  unfold dif
  have : ∀ n, sumN (fun i => if bq (nI m) i = decide (gl L i ∈ H) then 0 else 1) n ≤ n := by
    intro n
    induction n with
    | zero => exact Nat.le_refl 0
    | succ n ih =>
      show sumN _ n + (if bq (nI m) n = decide (gl L n ∈ H) then 0 else 1) ≤ n + 1
      split <;> omega
  exact this _
/-- unlike keys, by counting -/
theorem cnt_parts {x z s : Int32} (hx : okS x) (hz : ∀ i, i < 32 → (bt z i = true ↔ ∃ r, r < 27 ∧ bt x r = true ∧ p3 s r = i)) : okS z ∧ (cnt z = cnt x ↔ unl s (ms x)) := by
  have hok : okS z := fun i h1 h2 => by
    cases hb : bt z i
    · rfl
    · obtain ⟨r, hr, -, he⟩ := (hz i h2).mp hb
      have := p3_lt (s := s) hr
      omega
  refine ⟨hok, ?_⟩
  have hm : ∀ a, a ∈ ms z ↔ a ∈ (ms x).map (pt s) := by
    intro a
    rw [mem_ms, List.mem_map]
    constructor
    · rintro ⟨i, hi, hb, rfl⟩
      obtain ⟨r, hr, hbr, rfl⟩ := (hz i (by omega)).mp hb
      exact ⟨nm r, (nm_ms hr).mpr hbr, pt_nm hr⟩
    · rintro ⟨q, hq, rfl⟩
      obtain ⟨r, hr, hbr, rfl⟩ := mem_ms.mp hq
      have := p3_lt (s := s) hr
      exact ⟨p3 s r, this, (hz _ (by omega)).mpr ⟨r, hr, hbr, rfl⟩, pt_nm hr⟩
  rw [← ms_len, ← ms_len]
  have hdz := Srt_nodup (ms_srt z)
  have hdx := Srt_nodup (ms_srt x)
  have hle := sub_len hdz fun a ha => (hm a).mp ha
  rw [List.length_map] at hle
  constructor
  · intro he q hq q2 hq2 hpp
    by_cases hqq : q = q2
    · exact hqq
    · exfalso
      have h1 := sub_len (l2 := (rem q2 (ms x)).map (pt s)) hdz fun a ha => by
        obtain ⟨b, hb, rfl⟩ := List.mem_map.mp ((hm a).mp ha)
        by_cases hb2 : b = q2
        · rw [hb2, ← hpp]
          exact List.mem_map.mpr ⟨q, rem_mem.mpr ⟨hq, hqq⟩, rfl⟩
        · exact List.mem_map.mpr ⟨b, rem_mem.mpr ⟨hb, hb2⟩, rfl⟩
      rw [List.length_map] at h1
      have h2 := rem_lt hq2
      omega
  · intro hu
    have hn : ((ms x).map (pt s)).Nodup := by
      refine List.pairwise_map.mpr ?_
      have hp : (ms x).Pairwise (· ≠ ·) := hdx
      exact hp.imp_of_mem fun {a b} ha hb hab he => hab (hu a ha b hb he)
    have := sub_len (l2 := ms z) hn fun a ha => (hm a).mpr ha
    rw [List.length_map] at this
    omega
