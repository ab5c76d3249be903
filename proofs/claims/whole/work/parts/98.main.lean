/-- the pure claim: whatever the script, the law's loop over the memory that the constructors leave ends with 1 -/
theorem pure_main (Ln : Nat) (xs : Nat → Int32) (hL : Ln ≤ 4096) (σ : Mem) : ∃ (N : Nat) (res : Int32 × Mem), L_law_l18 N Ln xs N 0 (g_all σ) = some res ∧ res.1 = 1 := by
  sorry
