theorem pure_law (B L : Nat) (xs : Nat → Int32) (hL : L ≤ 3072) : ∃ r : hS, f_L_law ((B, 0, fun _ => (15, 0), fun _ _ => 0, fun _ _ => none) : hS) (L, xs) = some (1, r) ∧ r.1 ≤ B + 600000 ∧ r.2.1 ≤ 7302250 := by
  sorry
