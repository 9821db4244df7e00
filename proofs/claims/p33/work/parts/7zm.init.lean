/-! class and reference at the start -/
def row0 : Nat → Int := (up (up (up (up (up (up (up (up (up (up (up (up (up (up (up (up (up (up (up (up (up (up (up (up (up (up (up (up (fun _ => 0) 0 4) 1 1) 4 1) 101 (-1)) 5 (-1)) 9 (-1)) 13 (-1)) 17 (-1)) 21 (-1)) 25 (-1)) 29 (-1)) 33 (-1)) 37 (-1)) 41 (-1)) 45 (-1)) 49 (-1)) 53 (-1)) 57 (-1)) 61 (-1)) 65 (-1)) 69 (-1)) 73 (-1)) 77 (-1)) 81 (-1)) 85 (-1)) 89 (-1)) 93 (-1)) 97 (-1))
theorem row0_ok : ∀ b, b < 24 → (∀ t, t < 4 → ck (row0 (5 + 4 * b + t))) ∧ row0 (5 + 4 * b) < 0 := by decide +kernel
