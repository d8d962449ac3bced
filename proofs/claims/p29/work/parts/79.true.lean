theorem law_true {z : Nat} (hz : 0 < z) (L : Nat) (xs : Nat → Int32) : ∃ τ, f_L_law_b L xs (ini_B (fun _ _ => 0, fun _ _ => 0) z) z = some (1, τ) := sorry
