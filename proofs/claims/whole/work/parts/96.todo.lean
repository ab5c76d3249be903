theorem st_law {N : Nat} (hN : 70000 ≤ N) : St_law N := by
  sorry
theorem st_move {N : Nat} (hN : 70000 ≤ N) : St_move N := by
  sorry
theorem st_cast {N : Nat} (hN : 70000 ≤ N) : St_cast N := by
  sorry
theorem st_led {N : Nat} (hN : 70000 ≤ N) : St_led N := by
  sorry
theorem st_longest {N : Nat} (hN : 70000 ≤ N) : St_longest N := by
  sorry
theorem st_donkey {N : Nat} (hN : 70000 ≤ N) : St_donkey N := by
  sorry
theorem st_strip {N : Nat} (hN : 70000 ≤ N) : St_strip N := by
  sorry
theorem st_walk {N : Nat} (hN : 70000 ≤ N) : St_walk N := by
  sorry
theorem st_sale {N : Nat} (hN : 70000 ≤ N) : St_sale N := by
  sorry
theorem st_kept {N : Nat} (hN : 70000 ≤ N) : St_kept N := by
  sorry
theorem st_happy {N : Nat} (hN : 70000 ≤ N) : St_happy N := by
  sorry
theorem st_storey {N : Nat} (hN : 70000 ≤ N) : St_storey N := by
  sorry
theorem st_bestAwning {N : Nat} (hN : 70000 ≤ N) : St_bestAwning N := by
  sorry
theorem st_hat {N : Nat} (hN : 70000 ≤ N) : St_hat N := by
  sorry
theorem st_takenDown {N : Nat} (hN : 70000 ≤ N) : St_takenDown N := by
  sorry
theorem st_noon {N : Nat} (hN : 70000 ≤ N) : St_noon N := by
  sorry
theorem st_years {N : Nat} (hN : 70000 ≤ N) : St_years N := by
  sorry
theorem st_days {N : Nat} (hN : 70000 ≤ N) : St_days N := by
  sorry
theorem st_odds {N : Nat} (hN : 70000 ≤ N) : St_odds N := by
  sorry
theorem st_check {N : Nat} (hN : 70000 ≤ N) : St_check N := by
  sorry
