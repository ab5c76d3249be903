-- ===== what each call must keep: both answers are one, and the invariant stands behind it =====
def St_feed (N : Nat) : Prop := ∀ (σ : Mem) (a1 a2 a3 a4 a5 : Int32), Inv N σ → ∃ (r : Int32) (σ1 : Mem) (σ2 : Mem), f_Sh_feed N σ a1 a2 a3 a4 a5 = some (r, σ1) ∧ f_Mo_feed N σ1 a1 a2 a3 a4 a5 = some (r, σ2) ∧ Inv N σ2
def St_law (N : Nat) : Prop := ∀ (σ : Mem) (a1 : Int32), Inv N σ → ∃ (r : Int32) (σ1 : Mem) (σ2 : Mem), f_Sh_law N σ a1 = some (r, σ1) ∧ f_Mo_law N σ1 a1 = some (r, σ2) ∧ Inv N σ2
def St_caster (N : Nat) : Prop := ∀ (σ : Mem) (a1 a2 a3 a4 a5 : Int32), Inv N σ → ∃ (r : Int32) (σ1 : Mem) (σ2 : Mem), f_Sh_caster N σ a1 a2 a3 a4 a5 = some (r, σ1) ∧ f_Mo_caster N σ1 a1 a2 a3 a4 a5 = some (r, σ2) ∧ Inv N σ2
def St_awning (N : Nat) : Prop := ∀ (σ : Mem) (a1 a2 a3 a4 a5 : Int32), Inv N σ → ∃ (r : Int32) (σ1 : Mem) (σ2 : Mem), f_Sh_awning σ a1 a2 a3 a4 a5 = some (r, σ1) ∧ f_Mo_awning σ1 a1 a2 a3 a4 a5 = some (r, σ2) ∧ Inv N σ2
def St_down (N : Nat) : Prop := ∀ (σ : Mem) (a1 : Int32), Inv N σ → ∃ (r : Int32) (σ1 : Mem) (σ2 : Mem), f_Sh_down σ a1 = some (r, σ1) ∧ f_Mo_down σ1 a1 = some (r, σ2) ∧ Inv N σ2
def St_move (N : Nat) : Prop := ∀ (σ : Mem) (a1 a2 a3 : Int32), Inv N σ → ∃ (r : Int32) (σ1 : Mem) (σ2 : Mem), f_Sh_move N σ a1 a2 a3 = some (r, σ1) ∧ f_Mo_move N σ1 a1 a2 a3 = some (r, σ2) ∧ Inv N σ2
def St_season (N : Nat) : Prop := ∀ (σ : Mem) (a1 : Int32), Inv N σ → ∃ (r : Int32) (σ1 : Mem) (σ2 : Mem), f_Sh_season σ a1 = some (r, σ1) ∧ f_Mo_season σ1 a1 = some (r, σ2) ∧ Inv N σ2
def St_casterIs (N : Nat) : Prop := ∀ (σ : Mem) (a1 a2 : Int32), Inv N σ → ∃ (r : Int32), f_Sh_casterIs σ a1 a2 = some r ∧ f_Mo_casterIs σ a1 a2 = some r ∧ Inv N σ
def St_sun (N : Nat) : Prop := ∀ (σ : Mem) (a1 a2 : Int32), Inv N σ → ∃ (r : Int32) (σ1 : Mem) (σ2 : Mem), f_Sh_sun N σ a1 a2 = some (r, σ1) ∧ f_Mo_sun N σ1 a1 a2 = some (r, σ2) ∧ Inv N σ2
def St_shade (N : Nat) : Prop := ∀ (σ : Mem) (a1 a2 a3 : Int32), Inv N σ → ∃ (r : Int32) (σ1 : Mem) (σ2 : Mem), f_Sh_shade N σ a1 a2 a3 = some (r, σ1) ∧ f_Mo_shade N σ1 a1 a2 a3 = some (r, σ2) ∧ Inv N σ2
def St_price (N : Nat) : Prop := ∀ (σ : Mem) (a1 a2 a3 : Int32), Inv N σ → ∃ (r : Int32) (σ1 : Mem) (σ2 : Mem), f_Sh_price N σ a1 a2 a3 = some (r, σ1) ∧ f_Mo_price N σ1 a1 a2 a3 = some (r, σ2) ∧ Inv N σ2
def St_cast (N : Nat) : Prop := ∀ (σ : Mem) (a1 a2 : Int32), Inv N σ → ∃ (r : Int32) (σ1 : Mem) (σ2 : Mem), f_Sh_cast N σ a1 a2 = some (r, σ1) ∧ f_Mo_cast N σ1 a1 a2 = some (r, σ2) ∧ Inv N σ2
def St_led (N : Nat) : Prop := ∀ (σ : Mem) (a1 a2 : Int32), Inv N σ → ∃ (r : Int64) (σ1 : Mem) (σ2 : Mem), f_Sh_led N σ a1 a2 = some (r, σ1) ∧ f_Mo_led N σ1 a1 a2 = some (r, σ2) ∧ Inv N σ2
def St_longest (N : Nat) : Prop := ∀ (σ : Mem) (a1 a2 a3 : Int32), Inv N σ → ∃ (r : Int32) (σ1 : Mem) (σ2 : Mem), f_Sh_longest N σ a1 a2 a3 = some (r, σ1) ∧ f_Mo_longest N σ1 a1 a2 a3 = some (r, σ2) ∧ Inv N σ2
def St_donkey (N : Nat) : Prop := ∀ (σ : Mem) (a1 : Int32), Inv N σ → ∃ (r : Int32) (σ1 : Mem) (σ2 : Mem), f_Sh_donkey N σ a1 = some (r, σ1) ∧ f_Mo_donkey N σ1 a1 = some (r, σ2) ∧ Inv N σ2
def St_strip (N : Nat) : Prop := ∀ (σ : Mem) (a1 a2 a3 : Int32), Inv N σ → ∃ (r : Int32) (σ1 : Mem) (σ2 : Mem), f_Sh_strip N σ a1 a2 a3 = some (r, σ1) ∧ f_Mo_strip N σ1 a1 a2 a3 = some (r, σ2) ∧ Inv N σ2
def St_walk (N : Nat) : Prop := ∀ (σ : Mem) (a1 a2 a3 a4 : Int32), Inv N σ → ∃ (r : Int32) (σ1 : Mem) (σ2 : Mem), f_Sh_walk N σ a1 a2 a3 a4 = some (r, σ1) ∧ f_Mo_walk N σ1 a1 a2 a3 a4 = some (r, σ2) ∧ Inv N σ2
def St_buyer (N : Nat) : Prop := ∀ (σ : Mem) (a1 a2 a3 : Int32), Inv N σ → ∃ (r : Int32) (σ1 : Mem) (σ2 : Mem), f_Sh_buyer σ a1 a2 a3 = some (r, σ1) ∧ f_Mo_buyer σ1 a1 a2 a3 = some (r, σ2) ∧ Inv N σ2
def St_worth (N : Nat) : Prop := ∀ (σ : Mem) (a1 a2 a3 a4 : Int32), Inv N σ → ∃ (r : Int32) (σ1 : Mem) (σ2 : Mem), f_Sh_worth N σ a1 a2 a3 a4 = some (r, σ1) ∧ f_Mo_worth N σ1 a1 a2 a3 a4 = some (r, σ2) ∧ Inv N σ2
def St_sale (N : Nat) : Prop := ∀ (σ : Mem) (a1 a2 a3 : Int32), Inv N σ → ∃ (r : Int32) (σ1 : Mem) (σ2 : Mem), f_Sh_sale N σ a1 a2 a3 = some (r, σ1) ∧ f_Mo_sale N σ1 a1 a2 a3 = some (r, σ2) ∧ Inv N σ2
def St_wish (N : Nat) : Prop := ∀ (σ : Mem) (a1 a2 a3 a4 a5 a6 a7 : Int32), Inv N σ → (a6 = 0 ∨ a6 = 1) → ∃ (r : Int32) (σ1 : Mem) (σ2 : Mem), f_Sh_wish σ a1 a2 a3 a4 a5 a6 a7 = some (r, σ1) ∧ f_Mo_wish σ1 a1 a2 a3 a4 a5 a6 a7 = some (r, σ2) ∧ Inv N σ2
def St_kept (N : Nat) : Prop := ∀ (σ : Mem) (a1 : Int32), Inv N σ → ∃ (r : Int32) (σ1 : Mem) (σ2 : Mem), f_Sh_kept N σ a1 = some (r, σ1) ∧ f_Mo_kept N σ1 a1 = some (r, σ2) ∧ Inv N σ2
def St_happy (N : Nat) : Prop := ∀ (σ : Mem), Inv N σ → ∃ (r : Int32) (σ1 : Mem) (σ2 : Mem), f_Sh_happy N σ = some (r, σ1) ∧ f_Mo_happy N σ1 = some (r, σ2) ∧ Inv N σ2
def St_storey (N : Nat) : Prop := ∀ (σ : Mem) (a1 a2 : Int32), Inv N σ → ∃ (r : Int32) (σ1 : Mem) (σ2 : Mem), f_Sh_storey N σ a1 a2 = some (r, σ1) ∧ f_Mo_storey N σ1 a1 a2 = some (r, σ2) ∧ Inv N σ2
def St_bestAwning (N : Nat) : Prop := ∀ (σ : Mem) (a1 a2 : Int32), Inv N σ → ∃ (r : Int32) (σ1 : Mem) (σ2 : Mem), f_Sh_bestAwning N σ a1 a2 = some (r, σ1) ∧ f_Mo_bestAwning N σ1 a1 a2 = some (r, σ2) ∧ Inv N σ2
def St_hat (N : Nat) : Prop := ∀ (σ : Mem) (a1 a2 a3 a4 : Int32), Inv N σ → ∃ (r : Int32) (σ1 : Mem) (σ2 : Mem), f_Sh_hat N σ a1 a2 a3 a4 = some (r, σ1) ∧ f_Mo_hat N σ1 a1 a2 a3 a4 = some (r, σ2) ∧ Inv N σ2
def St_takenDown (N : Nat) : Prop := ∀ (σ : Mem), Inv N σ → ∃ (r : Int32) (σ1 : Mem) (σ2 : Mem), f_Sh_takenDown N σ = some (r, σ1) ∧ f_Mo_takenDown N σ1 = some (r, σ2) ∧ Inv N σ2
def St_noon (N : Nat) : Prop := ∀ (σ : Mem) (a1 a2 : Int32), Inv N σ → ∃ (r : Int32) (σ1 : Mem) (σ2 : Mem), f_Sh_noon N σ a1 a2 = some (r, σ1) ∧ f_Mo_noon N σ1 a1 a2 = some (r, σ2) ∧ Inv N σ2
def St_years (N : Nat) : Prop := ∀ (σ : Mem) (a1 : Int32), Inv N σ → ∃ (r : Int32) (σ1 : Mem) (σ2 : Mem), f_Sh_years N σ a1 = some (r, σ1) ∧ f_Mo_years N σ1 a1 = some (r, σ2) ∧ Inv N σ2
def St_days (N : Nat) : Prop := ∀ (σ : Mem) (a1 : Int32), Inv N σ → ∃ (r : Int32) (σ1 : Mem) (σ2 : Mem), f_Sh_days N σ a1 = some (r, σ1) ∧ f_Mo_days N σ1 a1 = some (r, σ2) ∧ Inv N σ2
def St_purse (N : Nat) : Prop := ∀ (σ : Mem) (a1 : Int32), Inv N σ → ∃ (r : Int32), f_Sh_purse σ a1 = some r ∧ f_Mo_purse σ a1 = some r ∧ Inv N σ
def St_odds (N : Nat) : Prop := ∀ (σ : Mem) (a1 a2 a3 : Int32), Inv N σ → ∃ (r : Int64) (σ1 : Mem) (σ2 : Mem), f_Sh_odds N σ a1 a2 a3 = some (r, σ1) ∧ f_Mo_odds N σ1 a1 a2 a3 = some (r, σ2) ∧ Inv N σ2
def St_seed (N : Nat) : Prop := ∀ (σ : Mem) (a1 : Int32), Inv N σ → ∃ (r : Int32) (σ1 : Mem) (σ2 : Mem), f_Sh_seed σ a1 = some (r, σ1) ∧ f_Mo_seed σ1 a1 = some (r, σ2) ∧ Inv N σ2
def St_keep (N : Nat) : Prop := ∀ (σ : Mem), Inv N σ → ∃ (r : Int32) (σ1 : Mem) (σ2 : Mem), f_Sh_keep σ = some (r, σ1) ∧ f_Mo_keep N σ1 = some (r, σ2) ∧ Inv N σ2
def St_undo (N : Nat) : Prop := ∀ (σ : Mem), Inv N σ → ∃ (r : Int32) (σ1 : Mem) (σ2 : Mem), f_Sh_undo σ = some (r, σ1) ∧ f_Mo_undo N σ1 = some (r, σ2) ∧ Inv N σ2
def St_check (N : Nat) : Prop := ∀ (σ : Mem) (a1 a2 a3 : Int32), Inv N σ → ∃ (r : Int32) (σ1 : Mem) (σ2 : Mem), f_Sh_check N σ a1 a2 a3 = some (r, σ1) ∧ f_Mo_check N σ1 a1 a2 a3 = some (r, σ2) ∧ Inv N σ2
def St_count (N : Nat) : Prop := ∀ (σ : Mem) (a1 : Int32), Inv N σ → ∃ (r : Int32) (σ1 : Mem) (σ2 : Mem), f_Sh_count N σ a1 = some (r, σ1) ∧ f_Mo_count N σ1 a1 = some (r, σ2) ∧ Inv N σ2
def AllSteps (N : Nat) : Prop := St_feed N ∧ St_law N ∧ St_caster N ∧ St_awning N ∧ St_down N ∧ St_move N ∧ St_season N ∧ St_casterIs N ∧ St_sun N ∧ St_shade N ∧ St_price N ∧ St_cast N ∧ St_led N ∧ St_longest N ∧ St_donkey N ∧ St_strip N ∧ St_walk N ∧ St_buyer N ∧ St_worth N ∧ St_sale N ∧ St_wish N ∧ St_kept N ∧ St_happy N ∧ St_storey N ∧ St_bestAwning N ∧ St_hat N ∧ St_takenDown N ∧ St_noon N ∧ St_years N ∧ St_days N ∧ St_purse N ∧ St_odds N ∧ St_seed N ∧ St_keep N ∧ St_undo N ∧ St_check N ∧ St_count N
