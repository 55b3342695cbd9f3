def M0 : Mm := (fun _ _ => 0, fun _ _ => 0)
theorem law_pure (xs : Nat → Int32) (L : Nat) (hL : L ≤ 3072) : lpN (b_law xs L) 600 (0, M0) = some true := by
  sorry
