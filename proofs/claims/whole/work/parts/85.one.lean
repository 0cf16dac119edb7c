theorem law_one : ∀ (sL : Nat) (sx : Nat → Int32) (n : Nat), sL ≤ 3072 → f_L_law (fun _ => none) sL sx (n, fun _ _ => 0, fun _ _ => 0, fun _ _ => none) = some 1 := sorry
