-- part tt: st_sale
theorem st_sale {N : Nat} (hN : 70000 ≤ N) : St_sale N := by
  intro σ a1 a2 a3 hI
  have hpre : ∃ y3 v q : Int32, (∀ s, f_Sh_sale N s a1 a2 a3 = saleR N s a1 a2 a3 y3 v ∧ f_Mo_sale N s a1 a2 a3 = saleQ N s a1 a2 a3 q) ∧ ((a3 = -1 ∧ q = 1) ∨ (a3 ≠ -1 ∧ v = q ∧ (q = 0 ∨ (q = 1 ∧ ∃ b : Nat, b < 8 ∧ y3 = nI b ∧ (a3 = nI b ∨ a3 = nI (10 + b)) ∧ stands a2 b = true)))) := by
    rcases sale_pre a2 a3 with ⟨h1, h2⟩ | ⟨b, hb, h1, h2⟩ | ⟨h1, y, h2⟩
    · exact ⟨-1, 0, 1, fun s => h2 N s a1, Or.inl ⟨h1, rfl⟩⟩
    · refine ⟨nI b, _, _, fun s => h2 N s a1, Or.inr ⟨?_, rfl, ?_⟩⟩
      · rcases h1 with z | z <;> rw [z] <;> exact nIm1 (by omega)
      · by_cases c : stands a2 b = true
        · rw [if_pos c]; exact Or.inr ⟨rfl, b, hb, rfl, h1, c⟩
        · rw [if_neg c]; exact Or.inl rfl
    · exact ⟨y, 0, 0, fun s => h2 N s a1, Or.inr ⟨h1, rfl, Or.inl rfl⟩⟩
  obtain ⟨y3, v, q, hp, hrel⟩ := hpre
  rcases hour_cases a1 with h | ⟨h, hr, hh, rfl⟩
  · refine ⟨-3, σ, σ, ?_, ?_, hI⟩
    · rw [(hp σ).1]; unfold saleR; rw [h]; rfl
    · rw [(hp σ).2]; unfold saleQ; rw [mo_isHour, h]; rfl
  by_cases c1 : a2 < 1
  · refine ⟨-3, σ, σ, ?_, ?_, hI⟩
    · rw [(hp σ).1]; unfold saleR; rw [h]; simp only [bnd1_s, if_neg ne10, if_pos c1, if_true]
    · rw [(hp σ).2]; unfold saleQ f_Mo_in; rw [mo_isHour, h]; simp only [bnd1_s, if_neg ne10, if_pos c1, if_true]
  by_cases c2 : 255 < a2
  · refine ⟨-3, σ, σ, ?_, ?_, hI⟩
    · rw [(hp σ).1]; unfold saleR; rw [h]; simp only [bnd1_s, if_neg ne10, if_neg c1, if_pos c2, if_true]
    · rw [(hp σ).2]; unfold saleQ f_Mo_in; rw [mo_isHour, h]; simp only [bnd1_s, if_neg ne10, if_neg c1, if_pos c2, if_true]
  obtain ⟨m, hm, rfl⟩ := nI_of (x := a2) (fun z => c1 (Int32.lt_trans z (by decide)))
  have hm' : m < 256 := by
    refine Classical.byContradiction fun z => c2 (nI_lt (a := 255) (by omega) hm)
  by_cases c3 : a3 ≠ -1 ∧ q = 0
  · have hv : v = 0 := by
      rcases hrel with ⟨z, -⟩ | ⟨-, z, -⟩
      · exact absurd z c3.1
      · rw [z, c3.2]
    refine ⟨-3, σ, σ, ?_, ?_, hI⟩
    · rw [(hp σ).1]; unfold saleR; rw [h, hv]; simp only [bnd1_s, if_neg ne10, if_neg c1, if_neg c2, if_neg c3.1, if_true]
    · rw [(hp σ).2]; unfold saleQ f_Mo_in; rw [mo_isHour, h, c3.2]; simp only [bnd1_s, if_neg ne10, if_neg c1, if_neg c2, if_true]
  have hq : q = 1 := by
    rcases hrel with ⟨-, z⟩ | ⟨z1, -, z | ⟨z, -⟩⟩
    · exact z
    · exact absurd ⟨z1, z⟩ c3
    · exact z
  subst hq
  have hR : ∀ s, saleR N s (nI hr) (nI m) a3 y3 v = (bnd1 (f_Ma_areTold s (nI m)) fun r82 => if r82 = 0 then (some ((-2), s)) else (bnd1 (f_Sh_today N s) fun σ96 => bnd1 (f_Ma_sell N σ96 (nI hr) (nI m)) fun σ101 => if a3 = (-1) then (bnd1 (f_Ma_together σ101) fun r113 => some (r113, σ101)) else (if a3 < 10 then (bnd1 (f_Ma_squareOf σ101 y3) fun r141 => some (r141, σ101)) else (bnd1 (f_Ma_pays N σ101 y3) fun r129 => some (r129, σ101))))) := fun s => by
    unfold saleR
    rw [h]
    rcases hrel with ⟨z, -⟩ | ⟨z1, z2, -⟩
    · simp only [bnd1_s, if_neg ne10, if_neg c1, if_neg c2, if_pos z, if_neg (show ¬ (1 = 0) by decide)]
    · rw [z2]
      simp only [bnd1_s, if_neg ne10, if_neg c1, if_neg c2, if_neg z1, if_neg (show ¬ (1 = 0) by decide)]
  obtain ⟨⟨t, ht, e1, e2⟩, -⟩ := hI.2.2.2.1
  by_cases c4 : nI m &&& (nI t ^^^ (-1)) = 0
  · obtain ⟨σ1, t1, I1, R1⟩ := today_ok hN hI
    have F0 := fm_Sh_today t1
    obtain ⟨W, L1⟩ := I1.dayL R1
    obtain ⟨σ2, σ3, σ4, k1, k2, k3, I4, k4, k5⟩ := sale_core hN I1 R1 L1 hh hm'
    have F2 := fm_Ma_sell k1
    have e47 : mI σ2 65 47 = nI t := (F2.I 65 47 (by decide) (by decide)).trans ((F0.I 65 47 (by decide) (by decide)).trans e2)
    have hin : f_Mo_in (nI m) 1 255 = some 1 := by unfold f_Mo_in; rw [if_neg c1, if_neg c2]
    have hA : f_Ma_areTold σ (nI m) = some 1 := by unfold f_Ma_areTold; rw [e1, if_pos c4]
    rcases hrel with ⟨z, -⟩ | ⟨z1, z2, z3 | ⟨-, b, hb, rfl, z4, z5⟩⟩
    · refine ⟨mI σ4 65 53, σ2, σ4, ?_, ?_, I4⟩
      · rw [(hp σ).1, hR, hA]
        simp only [bnd1_s, if_neg ne10]
        rw [t1]
        simp only [bnd1_s]
        rw [k1]
        simp only [bnd1_s, if_pos z]
        rw [k4]
        rfl
      · rw [(hp σ2).2]
        unfold saleQ
        rw [mo_isHour, h, hin]
        simp only [bnd1_s, if_neg ne10]
        rw [e47, if_pos c4, k2]
        simp only [bnd1_s]
        rw [k3]
        simp only [bnd1_s, if_pos z]
    · exact absurd z3 (by decide)
    · rw [stands_bit (by omega) (by omega)] at z5
      obtain ⟨x, x1, x2, x3, σ5, own, x4, σ6, p, x5, I6, x6⟩ := k5 b hb z5
      have gb := inb_j hb (show 8 < 2 ^ 31 by decide)
      rcases z4 with rfl | rfl
      · have l10 : nI b < 10 := nI_lt (b := 10) (by omega) (by decide)
        refine ⟨nI x, σ2, σ4, ?_, ?_, I4⟩
        · rw [(hp σ).1, hR, hA]
          simp only [bnd1_s, if_neg ne10]
          rw [t1]
          simp only [bnd1_s]
          rw [k1]
          simp only [bnd1_s, if_neg z1, if_pos l10]
          rw [x1]
          rfl
        · rw [(hp σ2).2]
          unfold saleQ
          rw [mo_isHour, h, hin]
          simp only [bnd1_s, if_neg ne10]
          rw [e47, if_pos c4, k2]
          simp only [bnd1_s]
          rw [k3]
          simp only [bnd1_s, if_neg z1, if_neg (Int32.not_le.mpr l10), grd_t gb, nI_clamp (show b < 2 ^ 31 by omega), letv]
          rw [grd_t (by simp [x2]), x3]
      · have l10 : ¬ nI (10 + b) < 10 := fun z => absurd ((nI_ltI (b := 10) (by omega) (by decide)).mp z) (by omega)
        refine ⟨p - (mI σ5 65 53 - own), σ2, σ6, ?_, ?_, I6⟩
        · rw [(hp σ).1, hR, hA]
          simp only [bnd1_s, if_neg ne10]
          rw [t1]
          simp only [bnd1_s]
          rw [k1]
          simp only [bnd1_s, if_neg z1, if_neg l10]
          rw [x6]
          rfl
        · rw [(hp σ2).2]
          unfold saleQ
          rw [mo_isHour, h, hin]
          simp only [bnd1_s, if_neg ne10]
          rw [e47, if_pos c4, k2]
          simp only [bnd1_s]
          rw [k3]
          simp only [bnd1_s, if_neg z1, if_pos (Int32.not_lt.mp l10)]
          rw [show nI (10 + b) - 10 = nI b from (pk_sub (b := 10) (by omega)).trans (by rw [show 10 + b - 10 = b by omega])]
          simp only [grd_t gb, nI_clamp (show b < 2 ^ 31 by omega), letv]
          rw [grd_t (by simp [x2]), x3, x4]
          simp only [bnd1_s, q2]
          rw [x5]
          rfl
  · refine ⟨-2, σ, σ, ?_, ?_, hI⟩
    · rw [(hp σ).1, hR]; unfold f_Ma_areTold; rw [e1, if_neg c4]; rfl
    · rw [(hp σ).2]; unfold saleQ f_Mo_in; rw [mo_isHour, h]; simp only [bnd1_s, if_neg ne10, if_neg c1, if_neg c2]; rw [e2, if_neg c4]
