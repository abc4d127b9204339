/-! THE PURE PART: what the law's function answers -/
theorem pure_law (L : Nat) (xs : Nat → Int32) (hL : L ≤ 384) : ∃ τ : Mem, f_L_law L xs M0 = some (1, τ) := by
  sorry
