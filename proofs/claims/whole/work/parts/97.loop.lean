theorem lg_cmp_s (x : Int64) : lg_cmp x x = 0 := by simp [lg_cmp]
theorem inb_t {i : Int32} {n j : Nat} (h : i = nI j) (hj : j < n) (hn : n < 2 ^ 31) : inb i n = true := by
  subst h
  simp only [inb, Bool.and_eq_true, decide_eq_true_eq]
  exact ⟨nI_pos (by omega), by rw [nI_clamp (by omega)]; exact hj⟩
set_option maxHeartbeats 4000000 in
set_option maxRecDepth 100000 in
theorem law_body {N Ln : Nat} {xs : Nat → Int32} (hS : AllSteps N) (hL : Ln ≤ 4096) {rec : Int32 → Mem → Option (Int32 × Mem)} {i : Nat} {σ : Mem} (hI : Inv N σ) (hi : i + 8 ≤ Ln) (hrec : ∀ σ', Inv N σ' → ∃ res, rec (nI (i + 8)) σ' = some res ∧ res.1 = 1) : ∃ res, B_law_l18 N Ln xs rec (nI i) σ = some res ∧ res.1 = 1 := by
  obtain ⟨s_feed, s_law, s_caster, s_awning, s_down, s_move, s_season, s_casterIs, s_sun, s_shade, s_price, s_cast, s_led, s_longest, s_donkey, s_strip, s_walk, s_buyer, s_worth, s_sale, s_wish, s_kept, s_happy, s_storey, s_bestAwning, s_hat, s_takenDown, s_noon, s_years, s_days, s_purse, s_odds, s_seed, s_keep, s_undo, s_check, s_count⟩ := hS
  have e8 : nI i + 8 = nI (i + 8) := nI_add i 8
  have g0 : inb (nI i) Ln = true := inb_t rfl (by omega) (by omega)
  have g1 : inb (nI i + 1) Ln = true := inb_t (nI_add i 1) (by omega) (by omega)
  have g2 : inb (nI i + 2) Ln = true := inb_t (nI_add i 2) (by omega) (by omega)
  have g3 : inb (nI i + 3) Ln = true := inb_t (nI_add i 3) (by omega) (by omega)
  have g4 : inb (nI i + 4) Ln = true := inb_t (nI_add i 4) (by omega) (by omega)
  have g5 : inb (nI i + 5) Ln = true := inb_t (nI_add i 5) (by omega) (by omega)
  have g6 : inb (nI i + 6) Ln = true := inb_t (nI_add i 6) (by omega) (by omega)
  have g7 : inb (nI i + 7) Ln = true := inb_t (nI_add i 7) (by omega) (by omega)
  have hx : ¬ (Int32.ofNat Ln - 8 < nI i) := by
    have h1 : Int32.ofNat Ln - 8 = nI (Ln - 8) := pk_sub (a := Ln) (b := 8) (by omega)
    rw [h1]
    exact nI_nlt (by omega) (by omega)
  unfold B_law_l18
  rw [if_neg hx, grd_t g0]
  simp only [letv]
  generalize (xs ((nI i).toNatClampNeg)) &&& 63 = v
  by_cases h0 : v = 0
  · rw [if_pos h0]
    obtain ⟨r, σ1, σ2, q1, q2, q3⟩ := s_feed σ (xs ((nI i + 1).toNatClampNeg)) (xs ((nI i + 2).toNatClampNeg)) (xs ((nI i + 3).toNatClampNeg)) (xs ((nI i + 4).toNatClampNeg)) (xs ((nI i + 5).toNatClampNeg)) hI
    simp only [grd_t g1, grd_t g2, grd_t g3, grd_t g4, grd_t g5, q1, q2, bnd2_s, bnd2_s, letv, if_true, e8]
    exact hrec σ2 q3
  rw [if_neg h0]
  by_cases h1 : v = 1
  · rw [if_pos h1]
    obtain ⟨r, σ1, σ2, q1, q2, q3⟩ := s_law σ (xs ((nI i + 1).toNatClampNeg)) hI
    simp only [grd_t g1, q1, q2, bnd2_s, bnd2_s, letv, if_true, e8]
    exact hrec σ2 q3
  rw [if_neg h1]
  by_cases h2 : v = 2
  · rw [if_pos h2]
    obtain ⟨r, σ1, σ2, q1, q2, q3⟩ := s_caster σ (xs ((nI i + 1).toNatClampNeg)) (xs ((nI i + 2).toNatClampNeg)) (xs ((nI i + 3).toNatClampNeg)) (xs ((nI i + 4).toNatClampNeg)) (xs ((nI i + 5).toNatClampNeg)) hI
    simp only [grd_t g1, grd_t g2, grd_t g3, grd_t g4, grd_t g5, q1, q2, bnd2_s, bnd2_s, letv, if_true, e8]
    exact hrec σ2 q3
  rw [if_neg h2]
  by_cases h3 : v = 3
  · rw [if_pos h3]
    obtain ⟨r, σ1, σ2, q1, q2, q3⟩ := s_awning σ (xs ((nI i + 1).toNatClampNeg)) (xs ((nI i + 2).toNatClampNeg)) (xs ((nI i + 3).toNatClampNeg)) (xs ((nI i + 4).toNatClampNeg)) (xs ((nI i + 5).toNatClampNeg)) hI
    simp only [grd_t g1, grd_t g2, grd_t g3, grd_t g4, grd_t g5, q1, q2, bnd2_s, bnd2_s, letv, if_true, e8]
    exact hrec σ2 q3
  rw [if_neg h3]
  by_cases h4 : v = 4
  · rw [if_pos h4]
    obtain ⟨r, σ1, σ2, q1, q2, q3⟩ := s_down σ (xs ((nI i + 1).toNatClampNeg)) hI
    simp only [grd_t g1, q1, q2, bnd2_s, bnd2_s, letv, if_true, e8]
    exact hrec σ2 q3
  rw [if_neg h4]
  by_cases h5 : v = 5
  · rw [if_pos h5]
    obtain ⟨r, σ1, σ2, q1, q2, q3⟩ := s_move σ (xs ((nI i + 1).toNatClampNeg)) (xs ((nI i + 2).toNatClampNeg)) (xs ((nI i + 3).toNatClampNeg)) hI
    simp only [grd_t g1, grd_t g2, grd_t g3, q1, q2, bnd2_s, bnd2_s, letv, if_true, e8]
    exact hrec σ2 q3
  rw [if_neg h5]
  by_cases h6 : v = 6
  · rw [if_pos h6]
    obtain ⟨r, σ1, σ2, q1, q2, q3⟩ := s_season σ (xs ((nI i + 1).toNatClampNeg)) hI
    simp only [grd_t g1, q1, q2, bnd2_s, bnd2_s, letv, if_true, e8]
    exact hrec σ2 q3
  rw [if_neg h6]
  by_cases h7 : v = 7
  · rw [if_pos h7]
    obtain ⟨r, q1, q2, q3⟩ := s_casterIs σ (xs ((nI i + 1).toNatClampNeg)) (xs ((nI i + 2).toNatClampNeg)) hI
    simp only [grd_t g1, grd_t g2, q1, q2, bnd1_s, bnd1_s, letv, if_true, e8]
    exact hrec σ q3
  rw [if_neg h7]
  by_cases h8 : v = 8
  · rw [if_pos h8]
    obtain ⟨r, σ1, σ2, q1, q2, q3⟩ := s_sun σ (xs ((nI i + 1).toNatClampNeg)) (xs ((nI i + 2).toNatClampNeg)) hI
    simp only [grd_t g1, grd_t g2, q1, q2, bnd2_s, bnd2_s, letv, if_true, e8]
    exact hrec σ2 q3
  rw [if_neg h8]
  by_cases h9 : v = 9
  · rw [if_pos h9]
    obtain ⟨r, σ1, σ2, q1, q2, q3⟩ := s_shade σ (xs ((nI i + 1).toNatClampNeg)) (xs ((nI i + 2).toNatClampNeg)) (xs ((nI i + 3).toNatClampNeg)) hI
    simp only [grd_t g1, grd_t g2, grd_t g3, q1, q2, bnd2_s, bnd2_s, letv, if_true, e8]
    exact hrec σ2 q3
  rw [if_neg h9]
  by_cases h10 : v = 10
  · rw [if_pos h10]
    obtain ⟨r, σ1, σ2, q1, q2, q3⟩ := s_price σ (xs ((nI i + 1).toNatClampNeg)) (xs ((nI i + 2).toNatClampNeg)) (xs ((nI i + 3).toNatClampNeg)) hI
    simp only [grd_t g1, grd_t g2, grd_t g3, q1, q2, bnd2_s, bnd2_s, letv, if_true, e8]
    exact hrec σ2 q3
  rw [if_neg h10]
  by_cases h11 : v = 11
  · rw [if_pos h11]
    obtain ⟨r, σ1, σ2, q1, q2, q3⟩ := s_cast σ (xs ((nI i + 1).toNatClampNeg)) (xs ((nI i + 2).toNatClampNeg)) hI
    simp only [grd_t g1, grd_t g2, q1, q2, bnd2_s, bnd2_s, letv, if_true, e8]
    exact hrec σ2 q3
  rw [if_neg h11]
  by_cases h12 : v = 12
  · rw [if_pos h12]
    obtain ⟨r, σ1, σ2, q1, q2, q3⟩ := s_led σ (xs ((nI i + 1).toNatClampNeg)) (xs ((nI i + 2).toNatClampNeg)) hI
    simp only [grd_t g1, grd_t g2, q1, q2, bnd2_s, bnd2_s, letv, if_true, lg_cmp_s, e8]
    exact hrec σ2 q3
  rw [if_neg h12]
  by_cases h13 : v = 13
  · rw [if_pos h13]
    obtain ⟨r, σ1, σ2, q1, q2, q3⟩ := s_longest σ (xs ((nI i + 1).toNatClampNeg)) (xs ((nI i + 2).toNatClampNeg)) (xs ((nI i + 3).toNatClampNeg)) hI
    simp only [grd_t g1, grd_t g2, grd_t g3, q1, q2, bnd2_s, bnd2_s, letv, if_true, e8]
    exact hrec σ2 q3
  rw [if_neg h13]
  by_cases h14 : v = 14
  · rw [if_pos h14]
    obtain ⟨r, σ1, σ2, q1, q2, q3⟩ := s_donkey σ (xs ((nI i + 1).toNatClampNeg)) hI
    simp only [grd_t g1, q1, q2, bnd2_s, bnd2_s, letv, if_true, e8]
    exact hrec σ2 q3
  rw [if_neg h14]
  by_cases h15 : v = 15
  · rw [if_pos h15]
    obtain ⟨r, σ1, σ2, q1, q2, q3⟩ := s_strip σ (xs ((nI i + 1).toNatClampNeg)) (xs ((nI i + 2).toNatClampNeg)) (xs ((nI i + 3).toNatClampNeg)) hI
    simp only [grd_t g1, grd_t g2, grd_t g3, q1, q2, bnd2_s, bnd2_s, letv, if_true, e8]
    exact hrec σ2 q3
  rw [if_neg h15]
  by_cases h16 : v = 16
  · rw [if_pos h16]
    obtain ⟨r, σ1, σ2, q1, q2, q3⟩ := s_walk σ (xs ((nI i + 1).toNatClampNeg)) (xs ((nI i + 2).toNatClampNeg)) (xs ((nI i + 3).toNatClampNeg)) (xs ((nI i + 4).toNatClampNeg)) hI
    simp only [grd_t g1, grd_t g2, grd_t g3, grd_t g4, q1, q2, bnd2_s, bnd2_s, letv, if_true, e8]
    exact hrec σ2 q3
  rw [if_neg h16]
  by_cases h17 : v = 17
  · rw [if_pos h17]
    obtain ⟨r, σ1, σ2, q1, q2, q3⟩ := s_buyer σ (xs ((nI i + 1).toNatClampNeg)) (xs ((nI i + 2).toNatClampNeg)) (xs ((nI i + 3).toNatClampNeg)) hI
    simp only [grd_t g1, grd_t g2, grd_t g3, q1, q2, bnd2_s, bnd2_s, letv, if_true, e8]
    exact hrec σ2 q3
  rw [if_neg h17]
  by_cases h18 : v = 18
  · rw [if_pos h18]
    obtain ⟨r, σ1, σ2, q1, q2, q3⟩ := s_worth σ (xs ((nI i + 1).toNatClampNeg)) (xs ((nI i + 2).toNatClampNeg)) (xs ((nI i + 3).toNatClampNeg)) (xs ((nI i + 4).toNatClampNeg)) hI
    simp only [grd_t g1, grd_t g2, grd_t g3, grd_t g4, q1, q2, bnd2_s, bnd2_s, letv, if_true, e8]
    exact hrec σ2 q3
  rw [if_neg h18]
  by_cases h19 : v = 19
  · rw [if_pos h19]
    obtain ⟨r, σ1, σ2, q1, q2, q3⟩ := s_sale σ (xs ((nI i + 1).toNatClampNeg)) (xs ((nI i + 2).toNatClampNeg)) (xs ((nI i + 3).toNatClampNeg)) hI
    simp only [grd_t g1, grd_t g2, grd_t g3, q1, q2, bnd2_s, bnd2_s, letv, if_true, e8]
    exact hrec σ2 q3
  rw [if_neg h19]
  by_cases h20 : v = 20
  · rw [if_pos h20]
    obtain ⟨y, hy, hy2⟩ : ∃ y : Int32, (if xs ((nI i + 6).toNatClampNeg) = 0 then some 0 else some 1 : Option Int32) = some y ∧ (y = 0 ∨ y = 1) := by
      by_cases hz : xs ((nI i + 6).toNatClampNeg) = 0
      · exact ⟨0, if_pos hz, Or.inl rfl⟩
      · exact ⟨1, if_neg hz, Or.inr rfl⟩
    obtain ⟨r, σ1, σ2, q1, q2, q3⟩ := s_wish σ (xs ((nI i + 1).toNatClampNeg)) (xs ((nI i + 2).toNatClampNeg)) (xs ((nI i + 3).toNatClampNeg)) (xs ((nI i + 4).toNatClampNeg)) (xs ((nI i + 5).toNatClampNeg)) y (xs ((nI i + 7).toNatClampNeg)) hI hy2
    simp only [grd_t g1, grd_t g2, grd_t g3, grd_t g4, grd_t g5, grd_t g6, grd_t g7, hy, bnd1_s, q1, q2, bnd2_s, bnd2_s, letv, if_true, e8]
    exact hrec σ2 q3
  rw [if_neg h20]
  by_cases h21 : v = 21
  · rw [if_pos h21]
    obtain ⟨r, σ1, σ2, q1, q2, q3⟩ := s_kept σ (xs ((nI i + 1).toNatClampNeg)) hI
    simp only [grd_t g1, q1, q2, bnd2_s, bnd2_s, letv, if_true, e8]
    exact hrec σ2 q3
  rw [if_neg h21]
  by_cases h22 : v = 22
  · rw [if_pos h22]
    obtain ⟨r, σ1, σ2, q1, q2, q3⟩ := s_happy σ  hI
    simp only [q1, q2, bnd2_s, bnd2_s, letv, if_true, e8]
    exact hrec σ2 q3
  rw [if_neg h22]
  by_cases h23 : v = 23
  · rw [if_pos h23]
    obtain ⟨r, σ1, σ2, q1, q2, q3⟩ := s_storey σ (xs ((nI i + 1).toNatClampNeg)) (xs ((nI i + 2).toNatClampNeg)) hI
    simp only [grd_t g1, grd_t g2, q1, q2, bnd2_s, bnd2_s, letv, if_true, e8]
    exact hrec σ2 q3
  rw [if_neg h23]
  by_cases h24 : v = 24
  · rw [if_pos h24]
    obtain ⟨r, σ1, σ2, q1, q2, q3⟩ := s_bestAwning σ (xs ((nI i + 1).toNatClampNeg)) (xs ((nI i + 2).toNatClampNeg)) hI
    simp only [grd_t g1, grd_t g2, q1, q2, bnd2_s, bnd2_s, letv, if_true, e8]
    exact hrec σ2 q3
  rw [if_neg h24]
  by_cases h25 : v = 25
  · rw [if_pos h25]
    obtain ⟨r, σ1, σ2, q1, q2, q3⟩ := s_hat σ (xs ((nI i + 1).toNatClampNeg)) (xs ((nI i + 2).toNatClampNeg)) (xs ((nI i + 3).toNatClampNeg)) (xs ((nI i + 4).toNatClampNeg)) hI
    simp only [grd_t g1, grd_t g2, grd_t g3, grd_t g4, q1, q2, bnd2_s, bnd2_s, letv, if_true, e8]
    exact hrec σ2 q3
  rw [if_neg h25]
  by_cases h26 : v = 26
  · rw [if_pos h26]
    obtain ⟨r, σ1, σ2, q1, q2, q3⟩ := s_takenDown σ  hI
    simp only [q1, q2, bnd2_s, bnd2_s, letv, if_true, e8]
    exact hrec σ2 q3
  rw [if_neg h26]
  by_cases h27 : v = 27
  · rw [if_pos h27]
    obtain ⟨r, σ1, σ2, q1, q2, q3⟩ := s_noon σ (xs ((nI i + 1).toNatClampNeg)) (xs ((nI i + 2).toNatClampNeg)) hI
    simp only [grd_t g1, grd_t g2, q1, q2, bnd2_s, bnd2_s, letv, if_true, e8]
    exact hrec σ2 q3
  rw [if_neg h27]
  by_cases h28 : v = 28
  · rw [if_pos h28]
    obtain ⟨r, σ1, σ2, q1, q2, q3⟩ := s_years σ (xs ((nI i + 1).toNatClampNeg)) hI
    simp only [grd_t g1, q1, q2, bnd2_s, bnd2_s, letv, if_true, e8]
    exact hrec σ2 q3
  rw [if_neg h28]
  by_cases h29 : v = 29
  · rw [if_pos h29]
    obtain ⟨r, σ1, σ2, q1, q2, q3⟩ := s_days σ (xs ((nI i + 1).toNatClampNeg)) hI
    simp only [grd_t g1, q1, q2, bnd2_s, bnd2_s, letv, if_true, e8]
    exact hrec σ2 q3
  rw [if_neg h29]
  by_cases h30 : v = 30
  · rw [if_pos h30]
    obtain ⟨r, q1, q2, q3⟩ := s_purse σ (xs ((nI i + 1).toNatClampNeg)) hI
    simp only [grd_t g1, q1, q2, bnd1_s, bnd1_s, letv, if_true, e8]
    exact hrec σ q3
  rw [if_neg h30]
  by_cases h31 : v = 31
  · rw [if_pos h31]
    obtain ⟨r, σ1, σ2, q1, q2, q3⟩ := s_odds σ (xs ((nI i + 1).toNatClampNeg)) (xs ((nI i + 2).toNatClampNeg)) (xs ((nI i + 3).toNatClampNeg)) hI
    simp only [grd_t g1, grd_t g2, grd_t g3, q1, q2, bnd2_s, bnd2_s, letv, if_true, lg_cmp_s, e8]
    exact hrec σ2 q3
  rw [if_neg h31]
  by_cases h32 : v = 32
  · rw [if_pos h32]
    obtain ⟨r, σ1, σ2, q1, q2, q3⟩ := s_seed σ (xs ((nI i + 1).toNatClampNeg)) hI
    simp only [grd_t g1, q1, q2, bnd2_s, bnd2_s, letv, if_true, e8]
    exact hrec σ2 q3
  rw [if_neg h32]
  by_cases h33 : v = 33
  · rw [if_pos h33]
    obtain ⟨r, σ1, σ2, q1, q2, q3⟩ := s_keep σ  hI
    simp only [q1, q2, bnd2_s, bnd2_s, letv, if_true, e8]
    exact hrec σ2 q3
  rw [if_neg h33]
  by_cases h34 : v = 34
  · rw [if_pos h34]
    obtain ⟨r, σ1, σ2, q1, q2, q3⟩ := s_undo σ  hI
    simp only [q1, q2, bnd2_s, bnd2_s, letv, if_true, e8]
    exact hrec σ2 q3
  rw [if_neg h34]
  by_cases h35 : v = 35
  · rw [if_pos h35]
    obtain ⟨r, σ1, σ2, q1, q2, q3⟩ := s_check σ (xs ((nI i + 1).toNatClampNeg)) (xs ((nI i + 2).toNatClampNeg)) (xs ((nI i + 3).toNatClampNeg)) hI
    simp only [grd_t g1, grd_t g2, grd_t g3, q1, q2, bnd2_s, bnd2_s, letv, if_true, e8]
    exact hrec σ2 q3
  rw [if_neg h35]
  by_cases h36 : v = 36
  · rw [if_pos h36]
    obtain ⟨r, σ1, σ2, q1, q2, q3⟩ := s_count σ (xs ((nI i + 1).toNatClampNeg)) hI
    simp only [grd_t g1, q1, q2, bnd2_s, bnd2_s, letv, if_true, e8]
    exact hrec σ2 q3
  rw [if_neg h36]
  rw [e8]
  exact hrec σ hI
theorem law_run {N Ln : Nat} {xs : Nat → Int32} (hS : AllSteps N) (hL : Ln ≤ 4096) : ∀ (m k i : Nat) (σ : Mem), Inv N σ → Ln < i + 8 * m + 8 → i ≤ 5000 → m < k → ∃ res, L_law_l18 N Ln xs k (nI i) σ = some res ∧ res.1 = 1 := by
  intro m
  induction m with
  | zero =>
    intro k i σ hI h1 h3 h2
    obtain ⟨k, rfl⟩ : ∃ z, k = z + 1 := ⟨k - 1, by omega⟩
    have hx : Int32.ofNat Ln - 8 < nI i := by
      rcases Nat.lt_or_ge Ln 8 with q | q
      · have h4 := pk_sneg (a := Ln) (b := 8) (by decide) q
        exact Int32.lt_of_lt_of_le h4 (nI_pos' (by omega))
      · have h1 : Int32.ofNat Ln - 8 = nI (Ln - 8) := pk_sub (a := Ln) (b := 8) q
        rw [h1]
        exact nI_lt (by omega) (by omega)
    refine ⟨(1, σ), ?_, rfl⟩
    show B_law_l18 N Ln xs _ (nI i) σ = _
    unfold B_law_l18
    rw [if_pos hx]
  | succ m ih =>
    intro k i σ hI h1 h3 h2
    obtain ⟨k, rfl⟩ : ∃ z, k = z + 1 := ⟨k - 1, by omega⟩
    rcases Nat.lt_or_ge Ln (i + 8) with q | q
    · have hx : Int32.ofNat Ln - 8 < nI i := by
        rcases Nat.lt_or_ge Ln 8 with q2 | q2
        · have h4 := pk_sneg (a := Ln) (b := 8) (by decide) q2
          exact Int32.lt_of_lt_of_le h4 (nI_pos' (by omega))
        · have h1 : Int32.ofNat Ln - 8 = nI (Ln - 8) := pk_sub (a := Ln) (b := 8) q2
          rw [h1]
          exact nI_lt (by omega) (by omega)
      refine ⟨(1, σ), ?_, rfl⟩
      show B_law_l18 N Ln xs _ (nI i) σ = _
      unfold B_law_l18
      rw [if_pos hx]
    · exact law_body hS hL hI q (fun σ' hI' => ih k (i + 8) σ' hI' (by omega) (by omega) (by omega))
