theorem all_steps {N : Nat} (hN : 70000 ≤ N) : AllSteps N := ⟨st_feed hN, st_law hN, st_caster hN, st_awning hN, st_down hN, st_move hN, st_season hN, st_casterIs hN, st_sun hN, st_shade hN, st_price hN, st_cast hN, st_led hN, st_longest hN, st_donkey hN, st_strip hN, st_walk hN, st_buyer hN, st_worth hN, st_sale hN, st_wish hN, st_kept hN, st_happy hN, st_storey hN, st_bestAwning hN, st_hat hN, st_takenDown hN, st_noon hN, st_years hN, st_days hN, st_purse hN, st_odds hN, st_seed hN, st_keep hN, st_undo hN, st_check hN, st_count hN⟩
/-- the pure claim: whatever the script, the law's loop over the memory that the constructors leave ends with 1 -/
theorem pure_main (Ln : Nat) (xs : Nat → Int32) (hL : Ln ≤ 4096) (σ : Mem) : ∃ (N : Nat) (res : Int32 × Mem), L_law_l18 N Ln xs N 0 (g_all σ) = some res ∧ res.1 = 1 := by
  obtain ⟨N, hN⟩ : ∃ N : Nat, 70000 ≤ N := ⟨70000, Nat.le_refl _⟩
  obtain ⟨res, h1, h2⟩ := law_run (xs := xs) (all_steps hN) hL 512 N 0 (g_all σ) (inv_start N σ) (by omega) (by omega) (by omega)
  exact ⟨N, res, h1, h2⟩
