set_option maxRecDepth 100000 in
theorem inv_start (N : Nat) (σ : Mem) : Inv N (g_all σ) := by
  have z0 : (0 : Int32) = nI 0 := rfl
  refine ⟨⟨?_, ?_⟩, Or.inl ⟨rfl, rfl⟩, ⟨0, by decide, rfl, rfl, fun j h => absurd h (Nat.not_lt_zero j)⟩, ⟨⟨0, by decide, rfl, rfl⟩, fun i _ => ⟨0, by decide, rfl, rfl⟩⟩, ⟨⟨0, by decide, rfl, rfl⟩, fun k _ => ⟨0, 0, 0, 0, 0, by decide, by decide, by decide, by decide, by decide, rfl, rfl, rfl, rfl, rfl, rfl, rfl, rfl, rfl, rfl⟩⟩, Or.inl ⟨rfl, rfl⟩, ⟨0, fun _ => 0, fun _ _ => 0, fun _ _ => 0, ⟨by decide, fun _ _ => Or.inl rfl⟩, ⟨rfl, fun q h => absurd h (Nat.not_lt_zero q), fun _ _ q h => absurd h (Nat.not_lt_zero q)⟩, ⟨rfl, fun q h => absurd h (Nat.not_lt_zero q), fun _ _ q h => absurd h (Nat.not_lt_zero q)⟩, IDay.off rfl rfl⟩⟩
  · exact ⟨rfl, rfl, rfl, rfl, fun c _ => ⟨rfl, rfl, rfl, rfl, rfl⟩, fun w _ => rfl⟩
  · exact ⟨0, 0, by decide, by decide, rfl, rfl, ⟨0, by decide, rfl⟩, ⟨1, by decide, rfl⟩, fun c h => absurd h (Nat.not_lt_zero c)⟩
-- ===== the calls that only read or write single places =====
theorem mo_in (v a b : Int32) : f_Mo_in v a b = some (if v < a then 0 else if b < v then 0 else 1) := by
  unfold f_Mo_in
  by_cases h : v < a
  · rw [if_pos h, if_pos h]
  · rw [if_neg h, if_neg h]
    by_cases h2 : b < v
    · rw [if_pos h2, if_pos h2]
    · rw [if_neg h2, if_neg h2]
theorem st_seed {N : Nat} (hN : 70000 ≤ N) : St_seed N := by
  intro σ a1 hI
  obtain ⟨⟨h1, h2⟩, hR⟩ := hI
  unfold f_Sh_seed f_Mo_seed
  rw [mo_in]
  by_cases c1 : a1 < 0
  · refine ⟨0, σ, σ, ?_, ?_, ⟨h1, h2⟩, hR⟩
    · rw [if_pos c1]
    · simp only [bnd1_s, if_pos c1, if_true]
  · by_cases c2 : a1 ≤ 65535
    · have c3 : ¬ (65535 : Int32) < a1 := Int32.not_lt.mpr c2
      refine ⟨1, sI σ 19 9 a1, sI (sI σ 19 9 a1) 65 3 a1, ?_, ?_, ?_⟩
      · rw [if_neg c1, if_pos c2]; rfl
      · simp only [bnd1_s, if_neg c1, if_neg c3]; rfl
      · obtain ⟨x, hx, ex⟩ := nI_of2 (M := 65535) (n := 65535) (by decide) c1 c2
        have F : Fr [] [(19, 9), (65, 3)] σ (sI (sI σ 19 9 a1) 65 3 a1) := ((Fr.rf _ _ σ).fI (σ2 := sI σ 19 9 a1) rfl (by decide)).fI rfl (by decide)
        obtain ⟨k1, k2, k3, k4, k5, k6⟩ := hR
        refine ⟨⟨?_, ?_⟩, k1.k (F.keeps (by decide)), k2.k (F.keeps (by decide)), k3.k (F.keeps (by decide)), k4.k (F.keeps (by decide)), k5.k (F.keeps (by decide)), k6.k (F.keeps (by decide))⟩
        · obtain ⟨q1, q2, q3, q4, q5, q6⟩ := h1
          exact ⟨q1, q2, q3, rfl, q5, q6⟩
        · obtain ⟨n, s, q1, q2, q3, q4, q5, q6, q7⟩ := h2
          exact ⟨n, s, q1, q2, q3, q4, q5, ⟨x, by omega, ex⟩, q7⟩
    · have c3 : (65535 : Int32) < a1 := Int32.not_le.mp c2
      refine ⟨0, σ, σ, ?_, ?_, ⟨h1, h2⟩, hR⟩
      · rw [if_neg c1, if_neg c2]
      · simp only [bnd1_s, if_neg c1, if_pos c3, if_true]
theorem st_season {N : Nat} (hN : 70000 ≤ N) : St_season N := by
  intro σ a1 hI
  obtain ⟨⟨h1, h2⟩, hR⟩ := hI
  unfold f_Sh_season f_Mo_season f_Da_forgetSky
  rw [mo_in]
  by_cases c1 : a1 < 0
  · refine ⟨0, σ, σ, ?_, ?_, ⟨h1, h2⟩, hR⟩
    · rw [if_pos c1]
    · simp only [bnd1_s, if_pos c1, if_true]
  · by_cases c2 : a1 ≤ 3
    · have c3 : ¬ (3 : Int32) < a1 := Int32.not_lt.mpr c2
      refine ⟨1, sI (sI (sI σ 19 8 a1) 33 6 0) 33 9 0, sI (sI (sI (sI σ 19 8 a1) 33 6 0) 33 9 0) 65 2 a1, ?_, ?_, ?_⟩
      · rw [if_neg c1, if_pos c2]; rfl
      · simp only [bnd1_s, if_neg c1, if_neg c3]; rfl
      · obtain ⟨x, hx, ex⟩ := nI_of2 (M := 3) (n := 3) (by decide) c1 c2
        have F : Fr [] [(19, 8), (33, 6), (33, 9), (65, 2)] σ (sI (sI (sI (sI σ 19 8 a1) 33 6 0) 33 9 0) 65 2 a1) := ((((Fr.rf _ _ σ).fI (σ2 := sI σ 19 8 a1) rfl (by decide)).fI (σ2 := sI (sI σ 19 8 a1) 33 6 0) rfl (by decide)).fI (σ2 := sI (sI (sI σ 19 8 a1) 33 6 0) 33 9 0) rfl (by decide)).fI rfl (by decide)
        obtain ⟨k1, k2, k3, k4, k5, k6⟩ := hR
        refine ⟨⟨?_, ?_⟩, k1.k (F.keeps (by decide)), k2.k (F.keeps (by decide)), k3.k (F.keeps (by decide)), k4.k (F.keeps (by decide)), k5.k (F.keeps (by decide)), k6.off (F.keeps (by decide)) rfl rfl⟩
        · obtain ⟨q1, q2, q3, q4, q5, q6⟩ := h1
          exact ⟨q1, q2, rfl, q4, q5, q6⟩
        · obtain ⟨n, s, q1, q2, q3, q4, q5, q6, q7⟩ := h2
          exact ⟨n, s, q1, q2, q3, q4, ⟨x, by omega, ex⟩, q6, q7⟩
    · have c3 : (3 : Int32) < a1 := Int32.not_le.mp c2
      refine ⟨0, σ, σ, ?_, ?_, ⟨h1, h2⟩, hR⟩
      · rw [if_neg c1, if_neg c2]
      · simp only [bnd1_s, if_neg c1, if_pos c3, if_true]
theorem st_purse {N : Nat} (hN : 70000 ≤ N) : St_purse N := by
  intro σ a1 hI
  have hI' := hI
  obtain ⟨⟨⟨-, -, -, -, -, h6⟩, -⟩, -⟩ := hI'
  unfold f_Sh_purse f_Mo_purse f_Sh_isOwner
  rw [mo_in]
  by_cases c1 : a1 < 0
  · refine ⟨-1, ?_, ?_, hI⟩
    · simp only [if_pos c1, bnd1_s, if_true]
    · simp only [if_pos c1, bnd1_s, if_true]
  · by_cases c2 : 6 ≤ a1
    · have c3 : (5 : Int32) < a1 := Int32.lt_of_lt_of_le (by decide) c2
      refine ⟨-1, ?_, ?_, hI⟩
      · simp only [if_neg c1, if_pos c2, bnd1_s, if_true]
      · simp only [if_neg c1, if_pos c3, bnd1_s, if_true]
    · obtain ⟨j, hj, ej⟩ : ∃ j : Nat, j < 6 ∧ a1 = nI j := by
        rcases pk_ix a1 (n := 6) (by decide) with q | q | q
        · exact absurd q c1
        · exact absurd q c2
        · exact q
      have c3 : ¬ (5 : Int32) < a1 := by
        rw [ej]
        exact nI_nlt (a := 5) (b := j) (by omega) (by decide)
      have g : inb a1 6 = true := by
        rw [ej]
        simp only [inb, Bool.and_eq_true, decide_eq_true_eq]
        exact ⟨nI_pos (by omega), by rw [nI_clamp (by omega)]; exact hj⟩
      have e1 : ¬ ((1 : Int32) = 0) := by decide
      refine ⟨mI σ 25 (a1.toNatClampNeg), ?_, ?_, hI⟩
      · simp only [if_neg c1, if_neg c2, bnd1_s, if_neg e1, grd_t g]
      · simp only [if_neg c1, if_neg c3, bnd1_s, if_neg e1, grd_t g]
        rw [ej, nI_clamp (by omega)]
        exact congrArg some (h6 j hj).symm
