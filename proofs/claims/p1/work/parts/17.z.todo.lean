/-! YET TO DO -/
theorem w_c12 {xs : Nat → Int32} {m : zM} {Q : Option Value → zM → Prop} (H : w_ok 6 xs 168 63950 w_T0 m) (hQ : ∀ N S T m, w_ok 6 xs N S T m → N ≤ 600039 → S ≤ 7302250 → Q (some (.int 1)) m) : z_W 1000 1000 494 [(0, .ref 0), (1, .ref 39), (2, .ref 143), (3, .int (0 : Int32))] [] m Q := by sorry
