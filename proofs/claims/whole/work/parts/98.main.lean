theorem all_steps : AllSteps NN := ⟨st_feed, st_law, st_caster, st_awning, st_down, st_move, st_season, st_casterIs, st_sun, st_shade, st_price, st_cast, st_led, st_longest, st_donkey, st_strip, st_walk, st_buyer, st_worth, st_sale, st_wish, st_kept, st_happy, st_storey, st_bestAwning, st_hat, st_takenDown, st_noon, st_years, st_days, st_purse, st_odds, st_seed, st_keep, st_undo, st_check, st_count⟩
/-- the pure claim: whatever the script, the law's loop over the memory that the constructors leave ends with 1 -/
theorem pure_main (Ln : Nat) (xs : Nat → Int32) (hL : Ln ≤ 4096) (σ : Mem) : ∃ (N : Nat) (res : Int32 × Mem), L_law_l18 N Ln xs N 0 (g_all σ) = some res ∧ res.1 = 1 := by
  obtain ⟨res, h1, h2⟩ := law_run (xs := xs) all_steps hL 512 NN 0 (g_all σ) (inv_start σ) (by omega) (by omega) (by decide)
  exact ⟨NN, res, h1, h2⟩
