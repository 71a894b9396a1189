/-! ===== the reference's joins ===== -/
def stW (cm rs : Int32) (r : Nat) (acc : List Nat) (q : Nat) : List Nat := if pt cm r = pt cm q then insR (r + pt rs q) acc else acc
theorem stW_le {cm rs : Int32} {r : Nat} (acc : List Nat) (q : Nat) : (stW cm rs r acc q).length ≤ acc.length + 1 := by
  unfold stW
  split
  · exact insR_le
  · omega
theorem fold_takeA {f : List Nat → Nat → List Nat} {l acc : List Nat} {k : Nat} (h : k < l.length) : (l.take (k + 1)).foldl f acc = f ((l.take k).foldl f acc) (gl l k) := by
  rw [take_gl h, List.foldl_append]
  rfl