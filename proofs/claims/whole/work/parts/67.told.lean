-- ===== buyers and wishes are told =====
theorem or_bit {t i k : Nat} (ht : t < 2 ^ k) (hi : i < k) (hk : k ≤ 30) : ∃ u : Nat, u < 2 ^ k ∧ nI t ||| ((1 : Int32) <<< (nI i &&& 31)) = nI u := by
  refine ⟨t ||| 2 ^ i, Nat.or_lt_two_pow ht (Nat.pow_lt_pow_right (by decide) hi), ?_⟩
  rw [one_shl i (by omega), fa_or]
theorem in1_cases (a : Int32) (lo hi : Nat) (hlo : lo < 2 ^ 31) (h : hi + 1 < 2 ^ 31) : f_Mo_in a (nI lo) (nI hi) = some 0 ∨ (f_Mo_in a (nI lo) (nI hi) = some 1 ∧ ∃ j : Nat, lo ≤ j ∧ j ≤ hi ∧ a = nI j) := by
  rw [mo_in]
  by_cases h1 : a < nI lo
  · exact Or.inl (by rw [if_pos h1])
  · by_cases h2 : nI hi < a
    · exact Or.inl (by rw [if_neg h1, if_pos h2])
    · refine Or.inr ⟨by rw [if_neg h1, if_neg h2], ?_⟩
      rcases pk_ix a (n := hi + 1) h with q | q | ⟨j, hj, rfl⟩
      · exact absurd (Int32.lt_of_lt_of_le q (nI_pos' hlo)) h1
      · exact absurd ((le_succ h a).mp q) h2
      · rcases Nat.lt_or_ge j lo with z | z
        · exact absurd (nI_lt z hlo) h1
        · exact ⟨j, z, by omega, rfl⟩
theorem st_buyer {N : Nat} (hN : 70000 ≤ N) : St_buyer N := by
  intro σ a1 a2 a3 hI
  unfold f_Sh_buyer f_Mo_buyer
  rw [ma_isNumber, mo_isIn, sh_inTown]
  rcases in_cases a1 7 (by decide) with h | ⟨h, i, hi, rfl⟩
  · refine ⟨0, σ, σ, ?_, ?_, hI⟩
    · rw [show f_Mo_in a1 0 7 = some 0 from h]; simp only [bnd1_s, if_true]
    · rw [show f_Mo_in a1 0 7 = some 0 from h]; simp only [bnd1_s, if_true]
  · have h' : f_Mo_in (nI i) 0 7 = some 1 := h
    by_cases hT : inT a2 a3 = true
    · obtain ⟨x, y, hx, hy, ex, ey, es⟩ := inT_sq hT
      obtain ⟨k0, k1, k2, ⟨⟨t, ht, t1, t2⟩, k3⟩, k4, k5, k6⟩ := hI
      obtain ⟨u, hu, eu⟩ := or_bit (t := t) (i := i) (k := 8) ht (by omega) (by decide)
      have g : inb (nI i) 8 = true := inb_j (by omega) (by decide)
      have hc : (nI i).toNatClampNeg = i := nI_clamp (by omega)
      refine ⟨1, sI (sI σ 48 i (12 * a3 + a2)) 47 1 (nI u), sI (sI (sI (sI σ 48 i (12 * a3 + a2)) 47 1 (nI u)) 94 i (12 * a3 + a2)) 65 47 (nI u), ?_, ?_, ?_⟩
      · unfold f_Ma_tell
        rw [ma_isNumber, h']
        simp only [bnd1_s, if_neg ne10, hT, if_true, grd_t g, letv, hc]
        rw [show mI (sI σ 48 i (12 * a3 + a2)) 47 1 = nI t from (sI_n _ _ (by omega)).trans t1, eu]
      · rw [h']
        simp only [bnd1_s, if_neg ne10, hT, if_true, grd_t g, letv, hc]
        rw [show mI (sI (sI (sI σ 48 i (12 * a3 + a2)) 47 1 (nI u)) 94 i (12 * a3 + a2)) 65 47 = nI t from (sI_n _ _ (by omega)).trans ((sI_n _ _ (by omega)).trans ((sI_n _ _ (by omega)).trans t2)), eu]
      · have F : Fr [48, 94] [(47, 1), (65, 47)] σ (sI (sI (sI (sI σ 48 i (12 * a3 + a2)) 47 1 (nI u)) 94 i (12 * a3 + a2)) 65 47 (nI u)) := ((((Fr.rf _ _ σ).aI (σ2 := sI σ 48 i (12 * a3 + a2)) rfl (by decide)).fI (σ2 := sI (sI σ 48 i (12 * a3 + a2)) 47 1 (nI u)) rfl (by decide)).aI (σ2 := sI (sI (sI σ 48 i (12 * a3 + a2)) 47 1 (nI u)) 94 i (12 * a3 + a2)) rfl (by decide)).fI rfl (by decide)
        refine ⟨k0.k (F.keeps (by decide)), k1.k (F.keeps (by decide)), k2.k (F.keeps (by decide)), ⟨⟨u, hu, ?_, sI_s _ _ _ _⟩, fun j hj => ?_⟩, k4.k (F.keeps (by decide)), k5.k (F.keeps (by decide)), k6.k (F.keeps (by decide))⟩
        · rw [sI_n _ _ (by omega), sI_n _ _ (by omega), sI_s]
        · rw [sI_n _ _ (show ¬ (48 = 65 ∧ j = 47) by omega), sI_n _ _ (show ¬ (48 = 94 ∧ j = i) by omega), sI_n _ _ (show ¬ (48 = 47 ∧ j = 1) by omega), sI_n _ _ (show ¬ (94 = 65 ∧ j = 47) by omega)]
          by_cases e : j = i
          · subst e
            exact ⟨12 * y + x, by omega, by rw [sI_s]; exact es, by rw [sI_s]; exact es⟩
          · obtain ⟨p, hp, p1, p2⟩ := k3 j hj
            exact ⟨p, hp, by rw [sI_n _ _ (by omega)]; exact p1, by rw [sI_n _ _ (by omega), sI_n _ _ (by omega), sI_n _ _ (by omega)]; exact p2⟩
    · have hT' : inT a2 a3 = false := by simpa using hT
      have f10 : ¬ (false = true) := by decide
      refine ⟨0, σ, σ, ?_, ?_, hI⟩
      · rw [h']; simp only [bnd1_s, if_neg ne10, hT', if_neg f10, if_true]
      · rw [h']; simp only [bnd1_s, if_neg ne10, hT', if_neg f10, if_true]
/-- hours from f on, behind them t: both sides' tests -/
theorem hours_cases (f t : Int32) : (f_Sh_areHours f t 24 = some 0 ∧ (f_Mo_isHour f = some 0 ∨ (f_Mo_isHour f = some 1 ∧ f_Mo_in t (f + 1) 24 = some 0))) ∨ (f_Sh_areHours f t 24 = some 1 ∧ f_Mo_isHour f = some 1 ∧ f_Mo_in t (f + 1) 24 = some 1 ∧ ∃ a b : Nat, a < b ∧ b ≤ 24 ∧ f = nI a ∧ t = nI b) := by
  unfold f_Sh_areHours f_Mo_isHour
  rcases pk_ix f (n := 24) (by decide) with q | q | ⟨a, ha, rfl⟩
  · exact Or.inl ⟨by rw [if_pos q], Or.inl (by rw [if_pos q])⟩
  · have q0 : ¬ f < 0 := fun z => by
      have h1 := Int32.lt_of_le_of_lt q z
      exact absurd h1 (by decide)
    have q1 : (24 : Int32) ≤ f := q
    refine Or.inl ⟨?_, Or.inl (by rw [if_neg q0, if_pos q1])⟩
    rw [if_neg q0]
    by_cases h1 : t ≤ f
    · rw [if_pos h1]
    · rw [if_neg h1, if_pos (Int32.lt_of_le_of_lt q1 (Int32.not_le.mp h1))]
  · have q0 : ¬ nI a < 0 := nI_pos (by omega)
    have q1 : ¬ (24 : Int32) ≤ nI a := nI_ge (b := 24) ha (by decide)
    rw [if_neg q0, if_neg q0, if_neg q1, nI_1]
    rcases in1_cases t (a + 1) 24 (by omega) (by decide) with h | ⟨h, b, hb1, hb2, rfl⟩
    · refine Or.inl ⟨?_, Or.inr ⟨rfl, h⟩⟩
      rw [mo_in] at h
      by_cases h1 : t ≤ nI a
      · rw [if_pos h1]
      · rw [if_neg h1]
        by_cases h2 : (24 : Int32) < t
        · rw [if_pos h2]
        · have h3 : ¬ t < nI (a + 1) := fun z => h1 (Int32.not_lt.mp (fun w => by
            have w2 := (le_succ (n := a) (by omega) t).mpr w
            exact absurd z (Int32.not_lt.mpr w2)))
          rw [if_neg h3, if_neg (show ¬ nI 24 < t from h2)] at h
          exact absurd h (by decide)
    · refine Or.inr ⟨?_, rfl, h, a, b, by omega, hb2, rfl, rfl⟩
      have e1 : ¬ nI b ≤ nI a := nI_ge (by omega) (by omega)
      have e2 : ¬ (24 : Int32) < nI b := nI_nlt (a := 24) hb2 (by decide)
      have e3 : ¬ (24 : Int32) < nI b - nI a := by
        rw [pk_sub (by omega)]
        exact nI_nlt (a := 24) (by omega) (by decide)
      rw [if_neg e1, if_neg e2, if_neg e3]
theorem st_wish {N : Nat} (hN : 70000 ≤ N) : St_wish N := by
  intro σ a1 a2 a3 a4 a5 a6 a7 hI h6
  unfold f_Sh_wish f_Mo_wish
  rw [wi_isNumber, mo_isIn, sh_inTown]
  rcases in_cases a1 15 (by decide) with h | ⟨h, i, hi, rfl⟩
  · refine ⟨0, σ, σ, ?_, ?_, hI⟩
    · rw [show f_Mo_in a1 0 15 = some 0 from h]; simp only [bnd1_s, if_true]
    · rw [show f_Mo_in a1 0 15 = some 0 from h]; simp only [bnd1_s, if_true]
  · have h' : f_Mo_in (nI i) 0 15 = some 1 := h
    rw [h']
    by_cases hT : inT a2 a3 = true
    · obtain ⟨x, y, hx, hy, ex, ey, es⟩ := inT_sq hT
      rcases hours_cases a4 a5 with ⟨z1, z2⟩ | ⟨z1, z2, z3, f, t, hft, ht, rfl, rfl⟩
      · refine ⟨0, σ, σ, ?_, ?_, hI⟩
        · rw [z1]; simp only [bnd1_s, if_neg ne10, hT, if_true]
        · rcases z2 with z2 | ⟨z2, z3⟩
          · rw [z2]; simp only [bnd1_s, if_neg ne10, hT, if_true]
          · rw [z2, z3]; simp only [bnd1_s, if_neg ne10, hT, if_true]
      · rw [z1, z2, z3]
        rcases in1_cases a7 1 99 (by decide) (by decide) with w | ⟨w, v, hv1, hv2, rfl⟩
        · have w' : f_Mo_in a7 1 99 = some 0 := w
          refine ⟨0, σ, σ, ?_, ?_, hI⟩
          · simp only [bnd1_s, if_neg ne10, hT, if_true]
            rw [mo_in] at w
            by_cases c1 : a7 < 1
            · rw [if_pos c1]
            · rw [if_neg c1]
              by_cases c2 : a7 ≤ 99
              · rw [if_neg (show ¬ a7 < nI 1 from c1), if_neg (show ¬ nI 99 < a7 from Int32.not_lt.mpr c2)] at w
                exact absurd w (by decide)
              · rw [if_neg c2]
          · rw [w']; simp only [bnd1_s, if_neg ne10, hT, if_true]
        · have w' : f_Mo_in (nI v) 1 99 = some 1 := w
          rw [w']
          obtain ⟨k0, k1, k2, k3, ⟨⟨o, ho, o1, o2⟩, k4⟩, k5, k6⟩ := hI
          obtain ⟨u, hu, eu⟩ := or_bit (t := o) (i := i) (k := 16) ho (by omega) (by decide)
          have g : inb (nI i) 16 = true := inb_j (by omega) (by decide)
          have hc : (nI i).toNatClampNeg = i := nI_clamp (by omega)
          have n1 : ¬ nI v < 1 := nI_nlt (b := 1) hv1 (by omega)
          have n2 : nI v ≤ 99 := nI_le (b := 99) hv2 (by decide)
          obtain ⟨b6, hb6, eb6⟩ : ∃ b : Nat, b < 2 ∧ a6 &&& 1 = nI b := by
            rcases h6 with rfl | rfl
            · exact ⟨0, by decide, by decide⟩
            · exact ⟨1, by decide, by decide⟩
          refine ⟨1, sI (sI (sI (sI (sI (sI σ 56 0 (nI u)) 57 i (12 * a3 + a2)) 58 i (nI f)) 59 i (nI t)) 60 i (nI b6)) 61 i (nI v), sI (sI (sI (sI (sI (sI (sI (sI (sI (sI (sI (sI σ 56 0 (nI u)) 57 i (12 * a3 + a2)) 58 i (nI f)) 59 i (nI t)) 60 i (nI b6)) 61 i (nI v)) 99 i (12 * a3 + a2)) 100 i (nI f)) 101 i (nI t)) 103 i (nI b6)) 102 i (nI v)) 65 55 (nI u), ?_, ?_, ?_⟩
          · unfold f_Wi_tell
            rw [wi_isNumber, h']
            simp only [bnd1_s, if_neg ne10, hT, if_true, if_neg n1, if_pos n2, grd_t g, letv, hc, eb6]
            rw [o1, eu]
          · simp only [bnd1_s, if_neg ne10, hT, if_true, grd_t g, letv, hc, eb6]
            have e : mI (sI (sI (sI (sI (sI (sI (sI (sI (sI (sI (sI σ 56 0 (nI u)) 57 i (12 * a3 + a2)) 58 i (nI f)) 59 i (nI t)) 60 i (nI b6)) 61 i (nI v)) 99 i (12 * a3 + a2)) 100 i (nI f)) 101 i (nI t)) 103 i (nI b6)) 102 i (nI v)) 65 55 = nI o := by
              repeat rw [sI_n _ _ (by omega)]
              exact o2
            rw [e, eu]
          · have F : Fr [57, 58, 59, 60, 61, 99, 100, 101, 102, 103] [(56, 0), (65, 55)] σ (sI (sI (sI (sI (sI (sI (sI (sI (sI (sI (sI (sI σ 56 0 (nI u)) 57 i (12 * a3 + a2)) 58 i (nI f)) 59 i (nI t)) 60 i (nI b6)) 61 i (nI v)) 99 i (12 * a3 + a2)) 100 i (nI f)) 101 i (nI t)) 103 i (nI b6)) 102 i (nI v)) 65 55 (nI u)) := by
              refine Fr.fI ?_ rfl (by decide)
              refine Fr.aI ?_ rfl (by decide)
              refine Fr.aI ?_ rfl (by decide)
              refine Fr.aI ?_ rfl (by decide)
              refine Fr.aI ?_ rfl (by decide)
              refine Fr.aI ?_ rfl (by decide)
              refine Fr.aI ?_ rfl (by decide)
              refine Fr.aI ?_ rfl (by decide)
              refine Fr.aI ?_ rfl (by decide)
              refine Fr.aI ?_ rfl (by decide)
              refine Fr.aI ?_ rfl (by decide)
              exact (Fr.rf _ _ σ).fI rfl (by decide)
            refine ⟨k0.k (F.keeps (by decide)), k1.k (F.keeps (by decide)), k2.k (F.keeps (by decide)), k3.k (F.keeps (by decide)), ⟨⟨u, hu, ?_, sI_s _ _ _ _⟩, fun j hj => ?_⟩, k5.k (F.keeps (by decide)), k6.k (F.keeps (by decide))⟩
            · repeat rw [sI_n _ _ (by omega)]
              exact sI_s _ _ _ _
            · by_cases e : j = i
              · subst e
                refine ⟨12 * y + x, f, t, v, b6, by omega, by omega, by omega, by omega, hb6, ?_, ?_, ?_, ?_, ?_, ?_, ?_, ?_, ?_, ?_⟩
                all_goals
                  repeat rw [sI_n _ _ (by omega)]
                  first | exact sI_s _ _ _ _ | exact (sI_s _ _ _ _).trans es
              · obtain ⟨p, f', t', w', s', b1, b2, b3, b4, b5, c1, c2, c3, c4, c5, c6, c7, c8, c9, c10⟩ := k4 j hj
                refine ⟨p, f', t', w', s', b1, b2, b3, b4, b5, ?_, ?_, ?_, ?_, ?_, ?_, ?_, ?_, ?_, ?_⟩
                all_goals
                  repeat rw [sI_n _ _ (by omega)]
                  assumption
    · have hT' : inT a2 a3 = false := by simpa using hT
      have f10 : ¬ (false = true) := by decide
      refine ⟨0, σ, σ, ?_, ?_, hI⟩
      · simp only [bnd1_s, if_neg ne10, hT', if_neg f10, if_true]
      · simp only [bnd1_s, if_neg ne10, hT', if_neg f10, if_true]
