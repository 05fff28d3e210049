theorem law_pure (b0 L : Nat) (xs : Nat → Int32) (hL : L ≤ 3072) : ∃ F, z_L_law F L xs ((fun _ _ => none, fun _ => (0, 0), b0)) (fun _ _ => 0) = some () := sorry
