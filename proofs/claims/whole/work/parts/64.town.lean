-- ===== small facts of numbers (fa_and, fa_or: the kit's starting texts) =====
theorem fa_and (a b : Nat) : nI a &&& nI b = nI (a &&& b) := by
  apply Int32.toBitVec_inj.1
  show BitVec.ofNat 32 a &&& BitVec.ofNat 32 b = BitVec.ofNat 32 (a &&& b)
  apply BitVec.eq_of_getLsbD_eq
  intro i hi
  simp [hi]
theorem fa_or (a b : Nat) : nI a ||| nI b = nI (a ||| b) := by
  apply Int32.toBitVec_inj.1
  show BitVec.ofNat 32 a ||| BitVec.ofNat 32 b = BitVec.ofNat 32 (a ||| b)
  apply BitVec.eq_of_getLsbD_eq
  intro i hi
  simp [hi]
theorem of32 (x : Int32) : x = nI x.toBitVec.toNat := by
  apply Int32.toBitVec_inj.1
  show x.toBitVec = BitVec.ofNat 32 x.toBitVec.toNat
  simp
theorem and_le (s : Nat) (y : Int32) : ∃ t : Nat, t ≤ s ∧ nI s &&& y = nI t := ⟨s &&& y.toBitVec.toNat, Nat.and_le_left, by
  have h := fa_and s y.toBitVec.toNat
  rw [← of32 y] at h
  exact h⟩
theorem one_shl : ∀ c, c < 31 → (1 : Int32) <<< (nI c &&& 31) = nI (2 ^ c) := by decide +kernel
theorem le_succ {n : Nat} (h : n + 1 < 2 ^ 31) (a : Int32) : nI (n + 1) ≤ a ↔ nI n < a := by
  rw [Int32.le_iff_toInt_le, Int32.lt_iff_toInt_lt, nI_toInt h, nI_toInt (by omega)]
  omega
theorem inb_j {j n : Nat} (hj : j < n) (hn : n < 2 ^ 31) : inb (nI j) n = true := by
  simp only [inb, Bool.and_eq_true, decide_eq_true_eq]
  exact ⟨nI_pos (by omega), by rw [nI_clamp (by omega)]; exact hj⟩
theorem ne10 : ¬ ((1 : Int32) = 0) := by decide
-- ===== the two sides' small tests are one =====
theorem mo_isIn (x y : Int32) : f_Mo_isIn x y = f_Sh_inTown x y := rfl
theorem sh_inTown (x y : Int32) : f_Sh_inTown x y = some (if inT x y = true then 1 else 0) := by
  unfold f_Sh_inTown inT
  by_cases h1 : x < 0 <;> by_cases h2 : 12 ≤ x <;> by_cases h3 : y < 0 <;> by_cases h4 : 12 ≤ y <;> simp [h1, h2, h3, h4]
/-- a square of the town, by its x and y -/
theorem inT_sq {x y : Int32} (h : inT x y = true) : ∃ a b : Nat, a < 12 ∧ b < 12 ∧ x = nI a ∧ y = nI b ∧ 12 * y + x = nI (12 * b + a) := by
  simp only [inT, Bool.and_eq_true, Bool.not_eq_true', decide_eq_false_iff_not] at h
  obtain ⟨⟨⟨h1, h2⟩, h3⟩, h4⟩ := h
  rcases pk_ix x (n := 12) (by decide) with q | q | ⟨a, ha, ea⟩
  · exact absurd q h1
  · exact absurd q h2
  · rcases pk_ix y (n := 12) (by decide) with q | q | ⟨b, hb, eb⟩
    · exact absurd q h3
    · exact absurd q h4
    · refine ⟨a, b, ha, hb, ea, eb, ?_⟩
      rw [ea, eb]
      show nI 12 * nI b + nI a = _
      rw [pk_mul, nI_add]
theorem ma_isNumber (a : Int32) : f_Ma_isNumber a = f_Mo_in a 0 7 := by
  unfold f_Ma_isNumber f_Mo_in
  have e : (8 : Int32) ≤ a ↔ 7 < a := le_succ (n := 7) (by decide) a
  simp only [e]
theorem wi_isNumber (a : Int32) : f_Wi_isNumber a = f_Mo_in a 0 15 := by
  unfold f_Wi_isNumber f_Mo_in
  have e : (16 : Int32) ≤ a ↔ 15 < a := le_succ (n := 15) (by decide) a
  simp only [e]
theorem sh_isOwner (a : Int32) : f_Sh_isOwner a = f_Mo_in a 0 5 := by
  unfold f_Sh_isOwner f_Mo_in
  have e : (6 : Int32) ≤ a ↔ 5 < a := le_succ (n := 5) (by decide) a
  simp only [e]
/-- what comes of a test of bounds -/
theorem in_cases (a : Int32) (n : Nat) (hn : n + 1 < 2 ^ 31) : f_Mo_in a 0 (nI n) = some 0 ∨ (f_Mo_in a 0 (nI n) = some 1 ∧ ∃ j : Nat, j ≤ n ∧ a = nI j) := by
  rw [mo_in]
  by_cases h1 : a < 0
  · exact Or.inl (by rw [if_pos h1])
  · by_cases h2 : nI n < a
    · exact Or.inl (by rw [if_neg h1, if_pos h2])
    · refine Or.inr ⟨by rw [if_neg h1, if_neg h2], ?_⟩
      rcases pk_ix a (n := n + 1) hn with q | q | ⟨j, hj, ej⟩
      · exact absurd q h1
      · exact absurd ((le_succ hn a).mp q) h2
      · exact ⟨j, by omega, ej⟩
-- ===== the town's facts out of the invariant =====
theorem Inv.town {N : Nat} {σ : Mem} (h : Inv N σ) : ∃ n s : Nat, n ≤ 16 ∧ s < 2 ^ n ∧ mI σ 19 6 = nI n ∧ mI σ 65 0 = nI n ∧ mI σ 19 7 = nI s ∧ mI σ 65 1 = nI s := by
  obtain ⟨⟨⟨h1, h2, -⟩, n, s, q1, q2, q3, q4, -⟩, -⟩ := h
  exact ⟨n, s, q1, q2, q3, h1.symm.trans q3, q4, h2.symm.trans q4⟩
theorem to_isCaster {σ : Mem} (h : mI σ 19 6 = mI σ 65 0) (a : Int32) : f_To_isCaster σ a = f_Mo_isCaster σ a := by
  unfold f_To_isCaster f_Mo_isCaster
  rw [h]
theorem caster_cases {σ : Mem} {n : Nat} (hn : n < 2 ^ 31) (h : mI σ 65 0 = nI n) (a : Int32) : f_Mo_isCaster σ a = some 0 ∨ (f_Mo_isCaster σ a = some 1 ∧ ∃ c : Nat, c < n ∧ a = nI c) := by
  unfold f_Mo_isCaster
  rw [h]
  by_cases h1 : a < 0
  · exact Or.inl (by rw [if_pos h1])
  · by_cases h2 : nI n ≤ a
    · exact Or.inl (by rw [if_neg h1, if_pos h2])
    · refine Or.inr ⟨by rw [if_neg h1, if_neg h2], ?_⟩
      rcases pk_ix a (n := n) hn with q | q | q
      · exact absurd q h1
      · exact absurd q h2
      · exact q
theorem mo_has (s : Int32) (c : Nat) : f_Mo_has s (nI c) = some (if stands s c = true then 1 else 0) := by
  unfold f_Mo_has stands
  simp only [decide_eq_true_eq]
  by_cases h : (s >>> (nI c &&& 31)) &&& 1 = 1
  · rw [if_pos h, if_pos h]
  · rw [if_neg h, if_neg h]
theorem to_isStanding {σ : Mem} {n : Nat} (hn : n < 2 ^ 31) (h : mI σ 19 6 = nI n) (a : Int32) : f_To_isStanding σ a = some 0 ∨ (f_To_isStanding σ a = some 1 ∧ ∃ c : Nat, c < n ∧ a = nI c) := by
  have h1 := caster_cases (σ := (fun k j => if k = 65 ∧ j = 0 then nI n else σ.1 k j, σ.2)) hn (by simp [mI]) a
  have e : f_To_isCaster σ a = f_Mo_isCaster (fun k j => if k = 65 ∧ j = 0 then nI n else σ.1 k j, σ.2) a := by
    unfold f_To_isCaster f_Mo_isCaster
    rw [h]
    simp [mI]
  unfold f_To_isStanding
  rw [e]
  rcases h1 with h1 | ⟨h1, h2⟩
  · rw [h1]
    exact Or.inl (by simp only [bnd1_s, if_true])
  · rw [h1]
    simp only [bnd1_s, if_neg ne10]
    by_cases h3 : (mI σ 19 7 >>> (a &&& 31)) &&& 1 = 1
    · exact Or.inr ⟨by rw [if_pos h3], h2⟩
    · exact Or.inl (by rw [if_neg h3])
theorem stands_eq {σ : Mem} (h1 : mI σ 19 6 = mI σ 65 0) (h2 : mI σ 19 7 = mI σ 65 1) (a : Int32) : f_Mo_stands σ a = f_To_isStanding σ a := by
  unfold f_Mo_stands f_To_isStanding
  rw [to_isCaster h1, h2]
  cases f_Mo_isCaster σ a with
  | none => rfl
  | some r =>
    simp only [bnd1_s]
    by_cases h3 : r = 0
    · rw [if_pos h3, if_pos h3]
    · rw [if_neg h3, if_neg h3]
      unfold f_Mo_has
      by_cases h4 : (mI σ 65 1 >>> (a &&& 31)) &&& 1 = 1
      · rw [if_pos h4]; rfl
      · rw [if_neg h4]; rfl
theorem st_casterIs {N : Nat} (hN : 70000 ≤ N) : St_casterIs N := by
  intro σ a1 a2 hI
  obtain ⟨n, s, hn, hs, e1, e2, e3, e4⟩ := hI.town
  have hT := hI.1.1
  unfold f_Sh_casterIs f_Mo_casterIs
  rw [to_isCaster (e1.trans e2.symm)]
  rcases caster_cases (by omega) e2 a1 with h | ⟨h, c, hc, rfl⟩
  · refine ⟨-1, ?_, ?_, hI⟩
    · rw [h]; simp only [bnd1_s, if_true]
    · rw [h]; simp only [bnd1_s, if_true]
  · rw [h]
    have g : inb (nI c) 17 = true := inb_j (by omega) (by decide)
    have hc2 : (nI c).toNatClampNeg = c := nI_clamp (by omega)
    obtain ⟨q1, q2, q3, q4, q5⟩ := hT.2.2.2.2.1 c (by omega)
    have hst : f_To_isStanding σ (nI c) = f_Mo_has (mI σ 65 1) (nI c) := by
      unfold f_To_isStanding f_Mo_has
      rw [to_isCaster (e1.trans e2.symm), h, show mI σ 19 7 = mI σ 65 1 from e3.trans e4.symm]
      simp only [bnd1_s, if_neg ne10]
    simp only [bnd1_s, if_neg ne10, grd_t g, hc2, hst]
    change mI σ 20 c = mI σ 66 c at q1
    change mI σ 21 c = mI σ 67 c at q2
    change mI σ 22 c = mI σ 68 c at q3
    change mI σ 23 c = mI σ 69 c at q4
    change mI σ 24 c = mI σ 70 c at q5
    rw [q1, q2, q3, q4, q5, mo_has]
    simp only [bnd1_s]
    by_cases c0 : a2 = 0
    · exact ⟨_, by rw [if_pos c0], by rw [if_pos c0], hI⟩
    rw [if_neg c0]
    by_cases c1 : a2 = 1
    · exact ⟨_, by rw [if_pos c1], by rw [if_pos c1], hI⟩
    rw [if_neg c1]
    by_cases c3 : a2 = 2
    · exact ⟨_, by rw [if_pos c3], by rw [if_pos c3], hI⟩
    rw [if_neg c3]
    by_cases c4 : a2 = 3
    · exact ⟨_, by rw [if_pos c4], by rw [if_pos c4], hI⟩
    rw [if_neg c4]
    by_cases c5 : a2 = 4
    · exact ⟨_, by rw [if_pos c5], by rw [if_pos c5], hI⟩
    rw [if_neg c5]
    by_cases c6 : a2 = 5
    · rw [if_pos c6]
      by_cases c7 : (if stands (mI σ 65 1) c = true then (1 : Int32) else 0) = 0
      · exact ⟨_, by rw [if_pos c7], by rw [if_pos c7], hI⟩
      · exact ⟨_, by rw [if_neg c7], by rw [if_neg c7], hI⟩
    · exact ⟨_, by rw [if_neg c6], by rw [if_neg c6], hI⟩
theorem st_down {N : Nat} (hN : 70000 ≤ N) : St_down N := by
  intro σ a1 hI
  obtain ⟨n, s, hn, hs, e1, e2, e3, e4⟩ := hI.town
  have e12 := e1.trans e2.symm
  have e34 := e3.trans e4.symm
  unfold f_Sh_down f_Mo_down f_Da_forgetShade
  rcases to_isStanding (by omega) e1 a1 with h | ⟨h, c, hc, rfl⟩
  · refine ⟨0, σ, σ, ?_, ?_, hI⟩
    · rw [h]; simp only [bnd1_s, if_true]
    · rw [stands_eq e12 e34, h]; simp only [bnd1_s, if_true]
  · have hcs : f_To_isCaster σ (nI c) = some 1 := by
      unfold f_To_isCaster
      rw [e1, if_neg (nI_pos (by omega)), if_neg (nI_ge hc (by omega))]
    have hst2 : ∀ v, f_Mo_stands (sI (sI σ 19 7 v) 33 9 0) (nI c) = f_Mo_stands σ (nI c) := fun v => rfl
    refine ⟨1, sI (sI σ 19 7 (mI σ 19 7 &&& ((1 <<< (nI c &&& 31)) ^^^ (-1)))) 33 9 0, sI (sI (sI σ 19 7 (mI σ 19 7 &&& ((1 <<< (nI c &&& 31)) ^^^ (-1)))) 33 9 0) 65 1 (mI σ 65 1 &&& ((1 <<< (nI c &&& 31)) ^^^ (-1))), ?_, ?_, ?_⟩
    · rw [h]
      simp only [bnd1_s, if_neg ne10]
      unfold f_To_takeDown
      rw [hcs]
      simp only [bnd1_s, if_neg ne10]
      rfl
    · rw [hst2, stands_eq e12 e34, h]
      simp only [bnd1_s, if_neg ne10]
      rfl
    · obtain ⟨t, ht, et⟩ := and_le s ((1 <<< (nI c &&& 31)) ^^^ (-1))
      have F : Fr [] [(19, 7), (33, 9), (65, 1)] σ (sI (sI (sI σ 19 7 (mI σ 19 7 &&& ((1 <<< (nI c &&& 31)) ^^^ (-1)))) 33 9 0) 65 1 (mI σ 65 1 &&& ((1 <<< (nI c &&& 31)) ^^^ (-1)))) := (((Fr.rf _ _ σ).fI (σ2 := sI σ 19 7 _) rfl (by decide)).fI (σ2 := sI (sI σ 19 7 _) 33 9 0) rfl (by decide)).fI rfl (by decide)
      obtain ⟨⟨h1, h2⟩, k1, k2, k3, k4, k5, k6⟩ := hI
      refine ⟨⟨?_, ?_⟩, k1.k (F.keeps (by decide)), k2.k (F.keeps (by decide)), k3.k (F.keeps (by decide)), k4.k (F.keeps (by decide)), k5.k (F.keeps (by decide)), k6.offS (F.keeps (by decide)) rfl⟩
      · obtain ⟨q1, q2, q3, q4, q5, q6⟩ := h1
        refine ⟨q1, ?_, q3, q4, q5, q6⟩
        show mI σ 19 7 &&& _ = mI σ 65 1 &&& _
        rw [e34]
      · obtain ⟨n', s', q1, q2, q3, q4, q5, q6, q7⟩ := h2
        have hs' : nI s' = nI s := q4.symm.trans e3
        have hss : s' = s := by
          have hn' : (2 : Nat) ^ n' ≤ 2 ^ 16 := Nat.pow_le_pow_right (by decide) q1
          have hn2 : (2 : Nat) ^ n ≤ 2 ^ 16 := Nat.pow_le_pow_right (by decide) hn
          exact (nI_eq (by omega) (by omega)).mp hs'
        refine ⟨n', t, q1, by omega, q3, ?_, q5, q6, q7⟩
        show mI σ 19 7 &&& _ = nI t
        rw [e3]
        exact et
