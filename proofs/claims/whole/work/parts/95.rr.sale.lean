-- part rr: the sale
def saleR (N : Nat) (σ : Mem) (a1 a2 a3 y3 y25 : Int32) : Option (Int32 × Mem) :=
  bnd1 (f_Sh_isHour a1) fun r46 =>
  bnd1 ((if r46 = 0 then (some 0) else (if a2 < 1 then (some 0) else (if 255 < a2 then (some 0) else (if a3 = (-1) then (some 1) else (if y25 = 0 then (some 0) else (some 1)))))) : Option (Nat)) fun t49b =>
  if t49b = 0 then (some ((-3), σ)) else
  (bnd1 (f_Ma_areTold σ a2) fun r82 =>
  if r82 = 0 then (some ((-2), σ)) else
    (bnd1 (f_Sh_today N σ) fun σ96 =>
    bnd1 (f_Ma_sell N σ96 a1 a2) fun σ101 =>
    if a3 = (-1) then (bnd1 (f_Ma_together σ101) fun r113 => some (r113, σ101))
    else (if a3 < 10 then (bnd1 (f_Ma_squareOf σ101 y3) fun r141 => some (r141, σ101)) else (bnd1 (f_Ma_pays N σ101 y3) fun r129 => some (r129, σ101)))))
def saleQ (N : Nat) (σ : Mem) (a1 a2 a3 y2 : Int32) : Option (Int32 × Mem) :=
  bnd1 (f_Mo_isHour a1) fun r53 =>
  if r53 = 0 then (some ((-3), σ)) else
    (bnd1 (f_Mo_in a2 1 255) fun r64 =>
    if r64 = 0 then (some ((-3), σ)) else
      (if y2 = 0 then (some ((-3), σ)) else
        (if (a2 &&& ((mI σ 65 47) ^^^ (-1))) = 0 then
          (bnd1 (f_Mo_laysDay N σ) fun σ93 =>
          bnd1 (f_Mo_laysSale N σ93 a1 a2) fun σ99 =>
          if a3 = (-1) then (some (mI σ99 65 53, σ99)) else
            (bnd1 ((if 10 ≤ a3 then (some (a3 - 10)) else (some a3)) : Option (Int32)) fun y115_s0 =>
            grd (inb y115_s0 8) <|
            grd (decide (¬ (mL σ99 97 (y115_s0.toNatClampNeg)) = 0)) <|
            letv ((((mL σ99 65 54) / (mL σ99 97 (y115_s0.toNatClampNeg))) - ((mL σ99 65 54) / (mL σ99 97 (y115_s0.toNatClampNeg))) / 145 * 145).toInt32) fun v145 =>
            if 10 ≤ a3 then
              (bnd1 ((if v145 = 144 then (some (0, σ99)) else (bnd2 (f_Mo_worthOf N σ99 y115_s0 v145 a1) fun r174 σ174 => some (r174, σ174))) : Option (Int32 × Mem)) fun s161 =>
              q2 s161 fun y161_s0 σ161_ =>
              letv ((mI σ161_ 65 53) - y161_s0) fun v186 =>
              bnd2 (f_Mo_saleWithout N σ161_ a1 a2 y115_s0) fun r193 σ193 => some (r193 - v186, σ193))
            else (some (v145, σ99))))
        else (some ((-2), σ)))))
theorem sale_pre (a2 a3 : Int32) : (a3 = -1 ∧ ∀ N σ a1, f_Sh_sale N σ a1 a2 a3 = saleR N σ a1 a2 a3 (-1) 0 ∧ f_Mo_sale N σ a1 a2 a3 = saleQ N σ a1 a2 a3 1) ∨ (∃ b : Nat, b < 8 ∧ (a3 = nI b ∨ a3 = nI (10 + b)) ∧ ∀ N σ a1, f_Sh_sale N σ a1 a2 a3 = saleR N σ a1 a2 a3 (nI b) (if stands a2 b = true then 1 else 0) ∧ f_Mo_sale N σ a1 a2 a3 = saleQ N σ a1 a2 a3 (if stands a2 b = true then 1 else 0)) ∨ (a3 ≠ -1 ∧ ∃ y, ∀ N σ a1, f_Sh_sale N σ a1 a2 a3 = saleR N σ a1 a2 a3 y 0 ∧ f_Mo_sale N σ a1 a2 a3 = saleQ N σ a1 a2 a3 0) := by
  have hst : ∀ b : Nat, ((a2 >>> (nI b &&& 31)) &&& 1 = 1) ↔ stands a2 b = true := fun b => by unfold stands; simp
  rcases ask_cases a3 with rfl | ⟨b, hb, rfl⟩ | ⟨b, hb, rfl⟩ | ⟨h1, h2, h3, h4⟩
  · exact Or.inl ⟨rfl, fun N σ a1 => ⟨rfl, rfl⟩⟩
  · refine Or.inr (Or.inl ⟨b, hb, Or.inl rfl, fun N σ a1 => ⟨?_, ?_⟩⟩)
    · unfold f_Sh_sale saleR f_Ma_isNumber
      rw [if_pos (show nI b < 10 from nI_lt (b := 10) (by omega) (by decide))]
      simp only [bnd1_s]
      rw [if_neg (nI_pos (by omega)), if_neg (show ¬ ((8 : Int32) ≤ nI b) from nI_ge (b := 8) hb (by decide))]
      simp only [bnd1_s, if_neg ne10]
      by_cases c : stands a2 b = true
      · rw [if_pos ((hst b).mpr c), if_pos c]; rfl
      · rw [if_neg (fun z => c ((hst b).mp z)), if_neg c]; rfl
    · unfold f_Mo_sale saleQ
      have e7 : f_Mo_in (nI b) 0 7 = some 1 := by
        unfold f_Mo_in; rw [if_neg (nI_pos (by omega)), if_neg (show ¬ (7 : Int32) < nI b from fun z => absurd ((nI_ltI (a := 7) (by decide) (by omega)).mp z) (by omega))]
      have e10 : f_Mo_in (nI b) 10 17 = some 0 := by
        unfold f_Mo_in; rw [if_pos (show nI b < 10 from nI_lt (b := 10) (by omega) (by decide))]
      rw [if_neg (nIm1 (by omega)), e7, e10, mo_has]
      simp only [bnd1_s, if_neg ne10]
      by_cases c : stands a2 b = true
      · simp only [if_pos c, if_neg ne10, bnd1_s, if_true]
      · simp only [if_neg c, if_true, bnd1_s, if_neg (show ¬ (1 = 0) by decide)]
  · refine Or.inr (Or.inl ⟨b, hb, Or.inr rfl, fun N σ a1 => ⟨?_, ?_⟩⟩)
    · unfold f_Sh_sale saleR f_Ma_isNumber
      rw [if_neg (show ¬ nI (10 + b) < 10 from fun z => absurd ((nI_ltI (b := 10) (by omega) (by decide)).mp z) (by omega)), show nI (10 + b) - 10 = nI b from (pk_sub (b := 10) (by omega)).trans (by rw [show 10 + b - 10 = b by omega])]
      simp only [bnd1_s]
      rw [if_neg (nI_pos (by omega)), if_neg (show ¬ ((8 : Int32) ≤ nI b) from nI_ge (b := 8) hb (by decide))]
      simp only [bnd1_s, if_neg ne10]
      by_cases c : stands a2 b = true
      · rw [if_pos ((hst b).mpr c), if_pos c]; rfl
      · rw [if_neg (fun z => c ((hst b).mp z)), if_neg c]; rfl
    · unfold f_Mo_sale saleQ
      have e7 : f_Mo_in (nI (10 + b)) 0 7 = some 0 := by
        unfold f_Mo_in; rw [if_neg (nI_pos (by omega)), if_pos (show (7 : Int32) < nI (10 + b) from nI_lt (a := 7) (by omega) (by omega))]
      have e10 : f_Mo_in (nI (10 + b)) 10 17 = some 1 := by
        unfold f_Mo_in; rw [if_neg (show ¬ nI (10 + b) < 10 from fun z => absurd ((nI_ltI (b := 10) (by omega) (by decide)).mp z) (by omega)), if_neg (show ¬ (17 : Int32) < nI (10 + b) from fun z => absurd ((nI_ltI (a := 17) (by decide) (by omega)).mp z) (by omega))]
      rw [if_neg (nIm1 (by omega)), e7, e10, show nI (10 + b) - 10 = nI b from (pk_sub (b := 10) (by omega)).trans (by rw [show 10 + b - 10 = b by omega]), mo_has a2 b]
      simp only [bnd1_s, if_neg ne10, if_true, if_neg (show ¬ (1 = 0) by decide)]
      by_cases c : stands a2 b = true
      · simp only [if_pos c, if_neg ne10, bnd1_s, if_neg (show ¬ (1 = 0) by decide)]
      · simp only [if_neg c, if_true, bnd1_s]
  · refine Or.inr (Or.inr ⟨h1, ?_⟩)
    have hm : ∀ N σ a1, f_Mo_sale N σ a1 a2 a3 = saleQ N σ a1 a2 a3 0 := fun N σ a1 => by
      unfold f_Mo_sale saleQ
      rw [if_neg h1, h2, h3]
      simp only [bnd1_s, if_true, if_neg (show ¬ (1 = 0) by decide)]
    rcases h4 with ⟨g1, g2⟩ | ⟨g1, g2⟩
    · refine ⟨a3, fun N σ a1 => ⟨?_, hm N σ a1⟩⟩
      unfold f_Sh_sale saleR
      rw [if_pos g1]
      simp only [bnd1_s]
      rw [g2]
      simp only [bnd1_s, if_true]
    · refine ⟨a3 - 10, fun N σ a1 => ⟨?_, hm N σ a1⟩⟩
      unfold f_Sh_sale saleR
      rw [if_neg g1]
      simp only [bnd1_s]
      rw [g2]
      simp only [bnd1_s, if_true]
