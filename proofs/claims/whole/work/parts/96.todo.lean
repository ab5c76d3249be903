theorem st_law {N : Nat} (hN : 70000 ≤ N) : St_law N := by
  sorry
theorem st_sale {N : Nat} (hN : 70000 ≤ N) : St_sale N := by
  sorry
