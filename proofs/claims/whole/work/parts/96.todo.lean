theorem st_feed : St_feed NN := by
  sorry
theorem st_law : St_law NN := by
  sorry
theorem st_caster : St_caster NN := by
  sorry
theorem st_awning : St_awning NN := by
  sorry
theorem st_move : St_move NN := by
  sorry
theorem st_sun : St_sun NN := by
  sorry
theorem st_shade : St_shade NN := by
  sorry
theorem st_price : St_price NN := by
  sorry
theorem st_cast : St_cast NN := by
  sorry
theorem st_led : St_led NN := by
  sorry
theorem st_longest : St_longest NN := by
  sorry
theorem st_donkey : St_donkey NN := by
  sorry
theorem st_strip : St_strip NN := by
  sorry
theorem st_walk : St_walk NN := by
  sorry
theorem st_buyer : St_buyer NN := by
  sorry
theorem st_worth : St_worth NN := by
  sorry
theorem st_sale : St_sale NN := by
  sorry
theorem st_wish : St_wish NN := by
  sorry
theorem st_kept : St_kept NN := by
  sorry
theorem st_happy : St_happy NN := by
  sorry
theorem st_storey : St_storey NN := by
  sorry
theorem st_bestAwning : St_bestAwning NN := by
  sorry
theorem st_hat : St_hat NN := by
  sorry
theorem st_takenDown : St_takenDown NN := by
  sorry
theorem st_noon : St_noon NN := by
  sorry
theorem st_years : St_years NN := by
  sorry
theorem st_days : St_days NN := by
  sorry
theorem st_odds : St_odds NN := by
  sorry
theorem st_keep : St_keep NN := by
  sorry
theorem st_undo : St_undo NN := by
  sorry
theorem st_check : St_check NN := by
  sorry
theorem st_count : St_count NN := by
  sorry
