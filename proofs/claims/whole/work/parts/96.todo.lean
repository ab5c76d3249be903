theorem st_law {N : Nat} (hN : 70000 ≤ N) : St_law N := by
  sorry
