-- ===== loops: with a way out at each turn =====
theorem loopR {A R : Type} {L : Nat → A → Option R} {P : Nat → A → Prop} {Q : R → Prop} (m : Nat) (hs : ∀ k i a, i < m → P i a → (∃ r, L (k + 1) a = some r ∧ Q r) ∨ ∃ a', L (k + 1) a = L k a' ∧ P (i + 1) a') (he : ∀ k a, P m a → ∃ r, L (k + 1) a = some r ∧ Q r) {K : Nat} (hK : m < K) {a : A} (h0 : P 0 a) : ∃ r, L K a = some r ∧ Q r := by
  have h : ∀ d K i a, i + d = m → d < K → P i a → ∃ r, L K a = some r ∧ Q r := by
    intro d
    induction d with
    | zero =>
      intro K i a e hK hP
      obtain ⟨k, rfl⟩ : ∃ z, K = z + 1 := ⟨K - 1, by omega⟩
      have e' : i = m := by omega
      subst e'
      exact he k a hP
    | succ d ih =>
      intro K i a e hK hP
      obtain ⟨k, rfl⟩ : ∃ z, K = z + 1 := ⟨K - 1, by omega⟩
      rcases hs k i a (by omega) hP with q | ⟨a', q1, q2⟩
      · exact q
      · rw [q1]
        exact ih k (i + 1) a' (by omega) (by omega) q2
  exact h m K 0 a (by omega) hK h0
-- ===== the house on a square =====
def isH (s : Int32) (k p : Nat → Int32) (sq : Int32) (c : Nat) : Prop := stands s c = true ∧ k c = 0 ∧ p c = sq
def HseR (s : Int32) (k p : Nat → Int32) (sq : Int32) (n : Nat) (r : Int32) : Prop := (r = -1 ∧ ∀ c, c < n → ¬ isH s k p sq c) ∨ ∃ c, c < n ∧ r = nI c ∧ isH s k p sq c ∧ ∀ c', c' < c → ¬ isH s k p sq c'
theorem HseR.uniq {s : Int32} {k p k' p' : Nat → Int32} {sq : Int32} {n : Nat} {r r' : Int32} (he : ∀ c, c < n → k c = k' c ∧ p c = p' c) (h : HseR s k p sq n r) (h' : HseR s k' p' sq n r') : r = r' := by
  have hi : ∀ c, c < n → (isH s k p sq c ↔ isH s k' p' sq c) := fun c hc => by
    unfold isH
    rw [(he c hc).1, (he c hc).2]
  rcases h with ⟨e, h⟩ | ⟨c, hc, e, h1, h2⟩ <;> rcases h' with ⟨e', h'⟩ | ⟨c', hc', e', h1', h2'⟩
  · rw [e, e']
  · exact absurd ((hi c' hc').mpr h1') (h c' hc')
  · exact absurd ((hi c hc).mp h1) (h' c hc)
  · rcases Nat.lt_trichotomy c c' with q | q | q
    · exact absurd ((hi c hc).mp h1) (h2' c q)
    · rw [e, e', q]
    · exact absurd ((hi c' hc').mpr h1') (h2 c' q)
theorem nIm1 {c : Nat} (h : c < 2 ^ 31) : nI c ≠ -1 := by
  intro e
  have h1 := congrArg Int32.toInt e
  rw [nI_toInt h] at h1
  have h2 : (-1 : Int32).toInt = -1 := by decide
  omega
theorem to_houseOn {N : Nat} {σ : Mem} {n : Nat} (hN : 100 < N) (hn : n ≤ 16) (e1 : mI σ 19 6 = nI n) (sq : Int32) : ∃ r, f_To_houseOn N σ sq = some r ∧ HseR (mI σ 19 7) (mI σ 20) (mI σ 21) sq n r := by
  unfold f_To_houseOn
  refine loopR (L := fun k (a : Int32) => L_To_houseOn_l2 N sq σ k a) (P := fun i a => a = nI i ∧ ∀ c, c < i → ¬ isH (mI σ 19 7) (mI σ 20) (mI σ 21) sq c) n ?_ ?_ (by omega) ⟨rfl, fun c h => absurd h (Nat.not_lt_zero c)⟩
  · rintro k i a hi ⟨rfl, hP⟩
    have hst : f_To_isStandingOf σ (nI i) 0 = some (if stands (mI σ 19 7) i = true ∧ mI σ 20 i = 0 then 1 else 0) := by
      unfold f_To_isStandingOf f_To_isStanding f_To_isCaster
      rw [e1, if_neg (nI_pos (by omega)), if_neg (nI_ge hi (by omega))]
      simp only [bnd1_s, if_neg ne10]
      by_cases h1 : (mI σ 19 7 >>> (nI i &&& 31)) &&& 1 = 1
      · have h2 : stands (mI σ 19 7) i = true := by simp [stands, h1]
        simp only [if_pos h1, bnd1_s, if_neg ne10, grd_t (inb_j (show i < 17 by omega) (by decide)), nI_clamp (show i < 2 ^ 31 by omega), h2, true_and]
        by_cases h3 : mI σ 20 i = 0
        · rw [if_pos h3, if_pos h3]
        · rw [if_neg h3, if_neg h3]
      · have h2 : stands (mI σ 19 7) i = false := by simp [stands, h1]
        simp only [if_neg h1, bnd1_s, if_true, h2]
        rw [if_neg (by simp)]
    show (∃ r, B_To_houseOn_l2 N sq σ (L_To_houseOn_l2 N sq σ k) (nI i) = some r ∧ _) ∨ ∃ a', B_To_houseOn_l2 N sq σ (L_To_houseOn_l2 N sq σ k) (nI i) = _ ∧ _
    unfold B_To_houseOn_l2
    rw [e1, if_neg (nI_ge hi (by omega)), grd_t (inb_j (by omega) (by decide)), nI_clamp (by omega), hst]
    simp only [bnd1_s, letv]
    by_cases h1 : isH (mI σ 19 7) (mI σ 20) (mI σ 21) sq i
    · refine Or.inl ⟨nI i, ?_, Or.inr ⟨i, hi, rfl, h1, hP⟩⟩
      obtain ⟨g1, g2, g3⟩ := h1
      simp [g1, g2, g3, bnd1_s]
    · refine Or.inr ⟨nI (i + 1), ?_, rfl, fun c hc => ?_⟩
      · unfold isH at h1
        by_cases g1 : mI σ 21 i = sq <;> by_cases g2 : stands (mI σ 19 7) i = true <;> by_cases g3 : mI σ 20 i = 0 <;> simp_all [bnd1_s, nI_1]
      · rcases (show c < i ∨ c = i by omega) with q | rfl
        · exact hP c q
        · exact h1
  · rintro k a ⟨rfl, hP⟩
    refine ⟨-1, ?_, Or.inl ⟨rfl, hP⟩⟩
    show B_To_houseOn_l2 N sq σ (L_To_houseOn_l2 N sq σ k) (nI n) = _
    unfold B_To_houseOn_l2
    rw [e1, if_pos (nI_le (Nat.le_refl _) (by omega))]
    simp only [bnd1_s, if_true]
theorem mo_houseOn {N : Nat} {σ : Mem} {n : Nat} (hN : 100 < N) (hn : n ≤ 16) (e1 : mI σ 65 0 = nI n) (sq : Int32) : ∃ r, f_Mo_houseOn N σ sq = some r ∧ HseR (mI σ 65 1) (mI σ 66) (mI σ 67) sq n r := by
  unfold f_Mo_houseOn
  refine loopR (L := fun k (a : Int32) => L_Mo_houseOn_l2 N sq σ k a) (P := fun i a => a = nI i ∧ ∀ c, c < i → ¬ isH (mI σ 65 1) (mI σ 66) (mI σ 67) sq c) n ?_ ?_ (by omega) ⟨rfl, fun c h => absurd h (Nat.not_lt_zero c)⟩
  · rintro k i a hi ⟨rfl, hP⟩
    show (∃ r, B_Mo_houseOn_l2 N sq σ (L_Mo_houseOn_l2 N sq σ k) (nI i) = some r ∧ _) ∨ ∃ a', B_Mo_houseOn_l2 N sq σ (L_Mo_houseOn_l2 N sq σ k) (nI i) = _ ∧ _
    unfold B_Mo_houseOn_l2
    rw [e1, if_neg (nI_ge hi (by omega)), mo_has]
    simp only [bnd1_s, letv, grd_t (inb_j (show i < 17 by omega) (by decide)), nI_clamp (show i < 2 ^ 31 by omega)]
    by_cases h1 : isH (mI σ 65 1) (mI σ 66) (mI σ 67) sq i
    · refine Or.inl ⟨nI i, ?_, Or.inr ⟨i, hi, rfl, h1, hP⟩⟩
      obtain ⟨g1, g2, g3⟩ := h1
      simp [g1, g2, g3, bnd1_s]
    · refine Or.inr ⟨nI (i + 1), ?_, rfl, fun c hc => ?_⟩
      · unfold isH at h1
        by_cases g1 : mI σ 67 i = sq <;> by_cases g2 : stands (mI σ 65 1) i = true <;> by_cases g3 : mI σ 66 i = 0 <;> simp_all [bnd1_s, nI_1]
      · rcases (show c < i ∨ c = i by omega) with q | rfl
        · exact hP c q
        · exact h1
  · rintro k a ⟨rfl, hP⟩
    refine ⟨-1, ?_, Or.inl ⟨rfl, hP⟩⟩
    show B_Mo_houseOn_l2 N sq σ (L_Mo_houseOn_l2 N sq σ k) (nI n) = _
    unfold B_Mo_houseOn_l2
    rw [e1, if_pos (nI_le (Nat.le_refl _) (by omega))]
    simp only [bnd1_s, if_true]
/-- both sides find the same house -/
theorem house_eq {N : Nat} {σ : Mem} (hN : 100 < N) (hI : ITown σ) (sq : Int32) : ∃ r, f_To_houseOn N σ sq = some r ∧ f_Mo_houseOn N σ sq = some r ∧ ∃ n : Nat, n ≤ 16 ∧ mI σ 19 6 = nI n ∧ HseR (mI σ 19 7) (mI σ 20) (mI σ 21) sq n r := by
  obtain ⟨⟨h1, h2, -, -, h5, -⟩, n, s, q1, q2, q3, -⟩ := hI
  change mI σ 19 6 = mI σ 65 0 at h1
  change mI σ 19 7 = mI σ 65 1 at h2
  change mI σ 19 6 = nI n at q3
  obtain ⟨r, r1, r2⟩ := to_houseOn (σ := σ) hN q1 q3 sq
  obtain ⟨r', r1', r2'⟩ := mo_houseOn (σ := σ) hN q1 (h1.symm.trans q3) sq
  have e : r = r' := by
    rw [← h2] at r2'
    exact r2.uniq (fun c hc => ⟨(h5 c (by omega)).1, (h5 c (by omega)).2.1⟩) r2'
  subst e
  exact ⟨r, r1, r1', n, q1, q3, r2⟩
theorem rdI (σ : Mem) (k j : Nat) (v : Int32) (a i : Nat) : mI (sI σ k j v) a i = if a = k ∧ i = j then v else mI σ a i := by
  by_cases h : a = k ∧ i = j
  · rw [if_pos h, h.1, h.2, sI_s]
  · rw [if_neg h, sI_n _ _ h]
-- ===== one caster more =====
def addC (σ : Mem) (n : Nat) (k p z d o w : Int32) : Mem := sI (sI (sI (sI (sI (sI (sI (sI σ 33 9 0) 20 n k) 21 n p) 22 n z) 23 n d) 24 n o) 19 7 w) 19 6 (nI (n + 1))
def addM (σ : Mem) (n : Nat) (k p z d o w : Int32) : Mem := sI (sI (sI (sI (sI (sI (sI σ 66 n k) 67 n p) 68 n z) 69 n d) 70 n o) 65 1 w) 65 0 (nI (n + 1))
theorem to_add {σ : Mem} {n : Nat} (hn : n < 16) (e : mI σ 19 6 = nI n) (k p z d o : Int32) : f_To_add (sI σ 33 9 0) k p z d o = some (nI n, addC σ n k p z d o (mI σ 19 7 ||| (1 <<< (nI n &&& 31)))) := by
  have e' : mI (sI σ 33 9 0) 19 6 = nI n := (sI_n _ _ (by decide)).trans e
  unfold f_To_add
  simp only [letv]
  rw [e', if_pos (show nI n < 16 from nI_lt (b := 16) hn (by decide)), nI_clamp (by omega)]
  simp only [grd_t (inb_j (show n < 17 by omega) (by decide))]
  have e6 : mI (sI (sI (sI (sI (sI (sI (sI σ 33 9 0) 20 n k) 21 n p) 22 n z) 23 n d) 24 n o) 19 7 (mI σ 19 7 ||| (1 <<< (nI n &&& 31)))) 19 6 = nI n := by
    repeat rw [sI_n _ _ (by omega)]
    exact e
  have e7 : mI (sI (sI (sI (sI (sI (sI σ 33 9 0) 20 n k) 21 n p) 22 n z) 23 n d) 24 n o) 19 7 = mI σ 19 7 := by
    repeat rw [sI_n _ _ (by omega)]
  rw [e7, e6, nI_1]
  rfl
theorem mo_puts {σ : Mem} {n : Nat} (hn : n < 16) (e : mI σ 65 0 = nI n) (k p z d o : Int32) : f_Mo_puts σ k p z d o = some (nI n, addM σ n k p z d o (mI σ 65 1 ||| (1 <<< (nI n &&& 31)))) := by
  have a1 : mI (sI σ 66 n k) 65 0 = nI n := (sI_n _ _ (by omega)).trans e
  have a2 : mI (sI (sI σ 66 n k) 67 n p) 65 0 = nI n := (sI_n _ _ (by omega)).trans a1
  have a3 : mI (sI (sI (sI σ 66 n k) 67 n p) 68 n z) 65 0 = nI n := (sI_n _ _ (by omega)).trans a2
  have a4 : mI (sI (sI (sI (sI σ 66 n k) 67 n p) 68 n z) 69 n d) 65 0 = nI n := (sI_n _ _ (by omega)).trans a3
  have a5 : mI (sI (sI (sI (sI (sI σ 66 n k) 67 n p) 68 n z) 69 n d) 70 n o) 65 0 = nI n := (sI_n _ _ (by omega)).trans a4
  have b5 : mI (sI (sI (sI (sI (sI σ 66 n k) 67 n p) 68 n z) 69 n d) 70 n o) 65 1 = mI σ 65 1 := by
    repeat rw [sI_n _ _ (by omega)]
  have a6 : mI (sI (sI (sI (sI (sI (sI σ 66 n k) 67 n p) 68 n z) 69 n d) 70 n o) 65 1 (mI σ 65 1 ||| (1 <<< (nI n &&& 31)))) 65 0 = nI n := (sI_n _ _ (by omega)).trans a5
  unfold f_Mo_puts
  simp only [letv]
  rw [e, grd_t (inb_j (show n < 17 by omega) (by decide)), nI_clamp (by omega), a1, grd_t (inb_j (show n < 17 by omega) (by decide)), nI_clamp (by omega), a2, grd_t (inb_j (show n < 17 by omega) (by decide)), nI_clamp (by omega), a3, grd_t (inb_j (show n < 17 by omega) (by decide)), nI_clamp (by omega), a4, grd_t (inb_j (show n < 17 by omega) (by decide)), nI_clamp (by omega), a5, b5, a6, nI_1, sI_s]
  show some (nI (n + 1) - nI 1, _) = _
  rw [pk_sub (by omega)]
  rfl
set_option maxHeartbeats 1000000 in
theorem inv_add {N : Nat} {σ : Mem} (hI : Inv N σ) {n : Nat} (hn : n < 16) (e : mI σ 19 6 = nI n) {k p z d o : Nat} (hk : k < 4) (hp : p < 144) (hz : 1 ≤ z) (hz2 : z < 100) (hd : d < 4) (ho : o < 6) : Inv N (addM (addC σ n (nI k) (nI p) (nI z) (nI d) (nI o) (mI σ 19 7 ||| (1 <<< (nI n &&& 31)))) n (nI k) (nI p) (nI z) (nI d) (nI o) (mI σ 65 1 ||| (1 <<< (nI n &&& 31)))) := by
  obtain ⟨⟨h1, h2⟩, k1, k2, k3, k4, k5, k6⟩ := hI
  have F : Fr [20, 21, 22, 23, 24, 66, 67, 68, 69, 70] [(33, 9), (19, 7), (19, 6), (65, 1), (65, 0)] σ (addM (addC σ n (nI k) (nI p) (nI z) (nI d) (nI o) (mI σ 19 7 ||| (1 <<< (nI n &&& 31)))) n (nI k) (nI p) (nI z) (nI d) (nI o) (mI σ 65 1 ||| (1 <<< (nI n &&& 31)))) := by
    unfold addM addC
    refine Fr.fI ?_ rfl (by decide)
    refine Fr.fI ?_ rfl (by decide)
    refine Fr.aI ?_ rfl (by decide)
    refine Fr.aI ?_ rfl (by decide)
    refine Fr.aI ?_ rfl (by decide)
    refine Fr.aI ?_ rfl (by decide)
    refine Fr.aI ?_ rfl (by decide)
    refine Fr.fI ?_ rfl (by decide)
    refine Fr.fI ?_ rfl (by decide)
    refine Fr.aI ?_ rfl (by decide)
    refine Fr.aI ?_ rfl (by decide)
    refine Fr.aI ?_ rfl (by decide)
    refine Fr.aI ?_ rfl (by decide)
    refine Fr.aI ?_ rfl (by decide)
    exact (Fr.rf _ _ σ).fI rfl (by decide)
  obtain ⟨q1, q2, q3, q4, q5, q6⟩ := h1
  obtain ⟨n', s', r1, r2, r3, r4, r5, r6, r7⟩ := h2
  have r3' : mI σ 19 6 = nI n' := r3
  have en : n' = n := (nI_eq (by omega) (by omega)).mp (r3'.symm.trans e)
  subst en
  have hs' : mI σ 19 7 = nI s' := r4
  have hq2 : mI σ 19 7 = mI σ 65 1 := q2
  have hor : mI σ 19 7 ||| (1 <<< (nI n' &&& 31)) = nI (s' ||| 2 ^ n') := by rw [hs', one_shl _ (by omega), fa_or]
  have hlt : s' ||| 2 ^ n' < 2 ^ (n' + 1) := Nat.or_lt_two_pow (Nat.lt_of_lt_of_le r2 (Nat.pow_le_pow_right (by decide) (by omega))) (Nat.pow_lt_pow_right (by decide) (by omega))
  refine ⟨⟨?_, ?_⟩, k1.k (F.keeps (by decide)), k2.k (F.keeps (by decide)), k3.k (F.keeps (by decide)), k4.k (F.keeps (by decide)), k5.k (F.keeps (by decide)), k6.offS (F.keeps (by decide)) ?_⟩
  · refine ⟨?_, ?_, ?_, ?_, fun c hc => ?_, fun w hw => ?_⟩
    · exact ((show mI (addM (addC σ n' (nI k) (nI p) (nI z) (nI d) (nI o) (mI σ 19 7 ||| (1 <<< (nI n' &&& 31)))) n' (nI k) (nI p) (nI z) (nI d) (nI o) (mI σ 65 1 ||| (1 <<< (nI n' &&& 31)))) 19 6 = nI (n' + 1) by
        unfold addM addC
        repeat rw [sI_n _ _ (by omega)]
        exact sI_s _ _ _ _)).trans (sI_s _ _ _ _).symm
    · refine Eq.trans (b := mI σ 19 7 ||| (1 <<< (nI n' &&& 31))) ?_ ?_
      · show mI (addM _ _ _ _ _ _ _ _) 19 7 = _
        unfold addM addC
        repeat rw [sI_n _ _ (by omega)]
        exact sI_s _ _ _ _
      · show _ = mI (addM _ _ _ _ _ _ _ _) 65 1
        unfold addM
        rw [sI_n _ _ (by omega), sI_s, hq2]
    · exact (F.I 19 8 (by decide) (by decide)).trans (Eq.trans q3 (F.I 65 2 (by decide) (by decide)).symm)
    · exact (F.I 19 9 (by decide) (by decide)).trans (Eq.trans q4 (F.I 65 3 (by decide) (by decide)).symm)
    · obtain ⟨v1, v2, v3, v4, v5⟩ := q5 c hc
      change mI σ 20 c = mI σ 66 c at v1
      change mI σ 21 c = mI σ 67 c at v2
      change mI σ 22 c = mI σ 68 c at v3
      change mI σ 23 c = mI σ 69 c at v4
      change mI σ 24 c = mI σ 70 c at v5
      refine ⟨?_, ?_, ?_, ?_, ?_⟩
      · show mI (addM _ _ _ _ _ _ _ _) 20 c = mI (addM _ _ _ _ _ _ _ _) 66 c
        unfold addM addC
        simp only [rdI]
        by_cases hcn : c = n' <;> simp [hcn, v1]
      · show mI (addM _ _ _ _ _ _ _ _) 21 c = mI (addM _ _ _ _ _ _ _ _) 67 c
        unfold addM addC
        simp only [rdI]
        by_cases hcn : c = n' <;> simp [hcn, v2]
      · show mI (addM _ _ _ _ _ _ _ _) 22 c = mI (addM _ _ _ _ _ _ _ _) 68 c
        unfold addM addC
        simp only [rdI]
        by_cases hcn : c = n' <;> simp [hcn, v3]
      · show mI (addM _ _ _ _ _ _ _ _) 23 c = mI (addM _ _ _ _ _ _ _ _) 69 c
        unfold addM addC
        simp only [rdI]
        by_cases hcn : c = n' <;> simp [hcn, v4]
      · show mI (addM _ _ _ _ _ _ _ _) 24 c = mI (addM _ _ _ _ _ _ _ _) 70 c
        unfold addM addC
        simp only [rdI]
        by_cases hcn : c = n' <;> simp [hcn, v5]
    · exact (F.I 25 w (by decide) (by simp)).trans (Eq.trans (q6 w hw) (F.I 71 w (by decide) (by simp)).symm)
  · refine ⟨n' + 1, s' ||| 2 ^ n', by omega, hlt, ?_, ?_, ?_, ?_, fun c hc => ?_⟩
    · show mI (addM _ _ _ _ _ _ _ _) 19 6 = _
      unfold addM addC
      repeat rw [sI_n _ _ (by omega)]
      exact sI_s _ _ _ _
    · show mI (addM _ _ _ _ _ _ _ _) 19 7 = _
      rw [← hor]
      unfold addM addC
      repeat rw [sI_n _ _ (by omega)]
      exact sI_s _ _ _ _
    · obtain ⟨m', a1, a2⟩ := r5
      exact ⟨m', a1, (F.I 19 8 (by decide) (by decide)).trans a2⟩
    · obtain ⟨m', a1, a2⟩ := r6
      exact ⟨m', a1, (F.I 19 9 (by decide) (by decide)).trans a2⟩
    · rcases (show c < n' ∨ c = n' by omega) with hcn | rfl
      · obtain ⟨⟨v1, a1, b1⟩, ⟨v2, a2, b2⟩, ⟨v3, a3, c3, b3⟩, ⟨v4, a4, b4⟩, ⟨v5, a5, b5⟩⟩ := r7 c hcn
        have hne : c ≠ n' := by omega
        refine ⟨⟨v1, a1, ?_⟩, ⟨v2, a2, ?_⟩, ⟨v3, a3, c3, ?_⟩, ⟨v4, a4, ?_⟩, ⟨v5, a5, ?_⟩⟩
        · rw [← b1]; show mI (addM _ _ _ _ _ _ _ _) 20 c = mI σ 20 c
          unfold addM addC; simp [rdI, hne]
        · rw [← b2]; show mI (addM _ _ _ _ _ _ _ _) 21 c = mI σ 21 c
          unfold addM addC; simp [rdI, hne]
        · rw [← b3]; show mI (addM _ _ _ _ _ _ _ _) 22 c = mI σ 22 c
          unfold addM addC; simp [rdI, hne]
        · rw [← b4]; show mI (addM _ _ _ _ _ _ _ _) 23 c = mI σ 23 c
          unfold addM addC; simp [rdI, hne]
        · rw [← b5]; show mI (addM _ _ _ _ _ _ _ _) 24 c = mI σ 24 c
          unfold addM addC; simp [rdI, hne]
      · refine ⟨⟨k, hk, ?_⟩, ⟨p, hp, ?_⟩, ⟨z, hz, hz2, ?_⟩, ⟨d, hd, ?_⟩, ⟨o, ho, ?_⟩⟩
        · show mI (addM _ _ _ _ _ _ _ _) 20 c = _
          unfold addM addC; simp [rdI]
        · show mI (addM _ _ _ _ _ _ _ _) 21 c = _
          unfold addM addC; simp [rdI]
        · show mI (addM _ _ _ _ _ _ _ _) 22 c = _
          unfold addM addC; simp [rdI]
        · show mI (addM _ _ _ _ _ _ _ _) 23 c = _
          unfold addM addC; simp [rdI]
        · show mI (addM _ _ _ _ _ _ _ _) 24 c = _
          unfold addM addC; simp [rdI]
  · show mI (addM _ _ _ _ _ _ _ _) 33 9 = 0
    unfold addM addC; simp [rdI]
theorem sh_isLength (a : Int32) : f_Sh_isLength a = f_Mo_in a 1 3 := rfl
theorem full_eq {σ : Mem} {n : Nat} (hn : n ≤ 16) (e : mI σ 19 6 = nI n) : f_To_isFull σ = some (if n < 16 then 0 else 1) := by
  unfold f_To_isFull
  rw [e]
  by_cases h : n < 16
  · rw [if_pos (show nI n < 16 from nI_lt (b := 16) h (by decide)), if_pos h]
  · rw [if_neg (show ¬ nI n < 16 from nI_nlt (b := 16) (a := n) (by omega) (by omega)), if_neg h]
theorem nI_16 {n : Nat} (hn : n ≤ 16) : nI n = 16 ↔ ¬ n < 16 := by
  constructor
  · intro h
    have := (nI_eq (a := n) (b := 16) (by omega) (by decide)).mp h
    omega
  · intro h
    have : n = 16 := by omega
    subst this
    rfl
theorem f10 : ¬ (false = true) := by decide
theorem st_awning {N : Nat} (hN : 70000 ≤ N) : St_awning N := by
  intro σ a1 a2 a3 a4 a5 hI
  obtain ⟨n, s, hn, hs, e1, e2, e3, e4⟩ := hI.town
  unfold f_Sh_awning f_Mo_awning
  rw [mo_isIn, sh_inTown, sh_isLength, sh_isOwner, full_eq hn e1]
  by_cases hT : inT a1 a2 = true
  · obtain ⟨x, y, hx, hy, ex, ey, es⟩ := inT_sq hT
    rcases in1_cases a3 1 3 (by decide) (by decide) with h3 | ⟨h3, z, hz, hz2, rfl⟩
    · refine ⟨-1, σ, σ, ?_, ?_, hI⟩
      · simp only [bnd1_s, if_neg ne10, hT, if_true, show f_Mo_in a3 1 3 = some 0 from h3]
      · simp only [bnd1_s, if_neg ne10, hT, if_true, show f_Mo_in a3 1 3 = some 0 from h3]
    · have h3' : f_Mo_in (nI z) 1 3 = some 1 := h3
      rcases in_cases a5 5 (by decide) with h5 | ⟨h5, o, ho, rfl⟩
      · refine ⟨-1, σ, σ, ?_, ?_, hI⟩
        · simp only [bnd1_s, if_neg ne10, hT, if_true, h3', show f_Mo_in a5 0 5 = some 0 from h5]
        · simp only [bnd1_s, if_neg ne10, hT, if_true, h3', show f_Mo_in a5 0 5 = some 0 from h5]
          rcases in_cases a4 3 (by decide) with h4 | ⟨h4, -⟩
          · simp only [bnd1_s, if_neg ne10, if_true, show f_Mo_in a4 0 3 = some 0 from h4]
          · simp only [bnd1_s, if_neg ne10, if_true, show f_Mo_in a4 0 3 = some 1 from h4]
      · have h5' : f_Mo_in (nI o) 0 5 = some 1 := h5
        by_cases hf : n < 16
        · have h16 : ¬ nI n = 16 := fun z => (nI_16 hn).mp z hf
          rcases in_cases a4 3 (by decide) with h4 | ⟨h4, d, hd, rfl⟩
          · refine ⟨-1, σ, σ, ?_, ?_, hI⟩
            · simp only [bnd1_s, if_neg ne10, hT, if_true, h3', h5', if_pos hf]
              have h4' := h4
              rw [mo_in] at h4'
              by_cases q1 : a4 < 0
              · rw [if_pos q1]
              · rw [if_neg q1]
                by_cases q2 : a4 ≤ 3
                · have q3 : ¬ (nI 3 < a4) := Int32.not_lt.mpr q2
                  rw [if_neg q1, if_neg q3] at h4'
                  exact absurd (Option.some.inj h4') (by decide)
                · rw [if_neg q2]
            · simp only [bnd1_s, if_neg ne10, hT, if_true, h3', show f_Mo_in a4 0 3 = some 0 from h4]
          · refine ⟨nI n, addC σ n 2 (12 * a2 + a1) (nI z) (nI d) (nI o) (mI σ 19 7 ||| (1 <<< (nI n &&& 31))), addM (addC σ n 2 (12 * a2 + a1) (nI z) (nI d) (nI o) (mI σ 19 7 ||| (1 <<< (nI n &&& 31)))) n 2 (12 * a2 + a1) (nI z) (nI d) (nI o) (mI σ 65 1 ||| (1 <<< (nI n &&& 31))), ?_, ?_, ?_⟩
            · simp only [bnd1_s, if_neg ne10, hT, if_true, h3', h5', if_pos hf]
              rw [if_neg (nI_pos (by omega)), if_pos (show nI d ≤ 3 from nI_le (b := 3) hd (by decide))]
              unfold f_Da_forgetShade
              simp only [letv, bnd1_s]
              rw [to_add hf e1]
              rfl
            · have e2' : mI (addC σ n 2 (12 * a2 + a1) (nI z) (nI d) (nI o) (mI σ 19 7 ||| (1 <<< (nI n &&& 31)))) 65 0 = nI n := by
                unfold addC
                repeat rw [sI_n _ _ (by omega)]
                exact e2
              have e4' : mI (addC σ n 2 (12 * a2 + a1) (nI z) (nI d) (nI o) (mI σ 19 7 ||| (1 <<< (nI n &&& 31)))) 65 1 = mI σ 65 1 := by
                unfold addC
                repeat rw [sI_n _ _ (by omega)]
              simp only [bnd1_s, if_neg ne10, hT, if_true, h3', h5', show f_Mo_in (nI d) 0 3 = some 1 from h4, e2', if_neg h16]
              rw [mo_puts hf e2', e4']
              rfl
            · rw [es]
              exact inv_add hI hf e1 (k := 2) (by decide) (by omega) hz (by omega) (by omega) (by omega)
        · have h16 : nI n = 16 := (nI_16 hn).mpr hf
          refine ⟨-1, σ, σ, ?_, ?_, hI⟩
          · simp only [bnd1_s, if_neg ne10, hT, if_true, h3', h5', if_neg hf]
          · simp only [bnd1_s, if_neg ne10, hT, if_true, h3', h5', e2, if_pos h16]
            rcases in_cases a4 3 (by decide) with h4 | ⟨h4, -⟩
            · simp only [bnd1_s, if_neg ne10, if_true, show f_Mo_in a4 0 3 = some 0 from h4]
            · simp only [bnd1_s, if_neg ne10, if_true, show f_Mo_in a4 0 3 = some 1 from h4]
  · have hT' : inT a1 a2 = false := by simpa using hT
    refine ⟨-1, σ, σ, ?_, ?_, hI⟩
    · simp only [bnd1_s, hT', if_neg f10, if_true]
    · simp only [bnd1_s, hT', if_neg f10, if_true]
theorem st_caster {N : Nat} (hN : 70000 ≤ N) : St_caster N := by
  intro σ a1 a2 a3 a4 a5 hI
  obtain ⟨n, s, hn, hs, e1, e2, e3, e4⟩ := hI.town
  unfold f_Sh_caster f_Mo_caster
  rw [mo_isIn, sh_inTown, sh_isOwner, full_eq hn e1]
  have hkind : (∃ k : Nat, k < 4 ∧ a1 = nI k ∧ (a1 = 0 ∨ a1 = 1 ∨ a1 = 3)) ∨ (¬ a1 = 0 ∧ ¬ a1 = 1 ∧ ¬ a1 = 3) := by
    by_cases q0 : a1 = 0
    · exact Or.inl ⟨0, by decide, q0, Or.inl q0⟩
    by_cases q1 : a1 = 1
    · exact Or.inl ⟨1, by decide, q1, Or.inr (Or.inl q1)⟩
    by_cases q3 : a1 = 3
    · exact Or.inl ⟨3, by decide, q3, Or.inr (Or.inr q3)⟩
    exact Or.inr ⟨q0, q1, q3⟩
  rcases hkind with ⟨k, hk, ek, hk3⟩ | ⟨q0, q1, q3⟩
  · have t0 : (if a1 = 0 then some 0 else if a1 = 1 then some 0 else if a1 = 3 then some 0 else some 1 : Option Nat) = some 0 := by
      rcases hk3 with q | q | q <;> rw [q] <;> decide
    rw [t0]
    simp only [bnd1_s, if_true, if_neg ne10]
    by_cases hT : inT a2 a3 = true
    · obtain ⟨x, y, hx, hy, ex, ey, es⟩ := inT_sq hT
      simp only [hT, if_true, if_neg ne10]
      have h4e : (if a4 < 1 then some (0, 0) else if 99 < a4 then some (0, 0) else some (1, 0) : Option (Nat × Int32)) = bnd1 (f_Mo_in a4 1 99) fun r => if r = 0 then some (0, 0) else some (1, 0) := by
        rw [mo_in]
        simp only [bnd1_s]
        by_cases q1 : a4 < 1
        · simp only [if_pos q1, if_true]
        · by_cases q2 : 99 < a4
          · simp only [if_neg q1, if_pos q2, if_true]
          · simp only [if_neg q1, if_neg q2, if_neg ne10]
      rcases in1_cases a4 1 99 (by decide) (by decide) with h4 | ⟨h4, z, hz, hz2, rfl⟩
      · have h4' : f_Mo_in a4 1 99 = some 0 := h4
        refine ⟨-1, σ, σ, ?_, ?_, hI⟩
        · have h5 := h4'
          rw [mo_in] at h5
          by_cases q1 : a4 < 1
          · simp only [if_pos q1, bnd1_s, q2, if_true]
          · by_cases q2' : 99 < a4
            · simp only [if_neg q1, if_pos q2', bnd1_s, q2, if_true]
            · rw [if_neg q1, if_neg q2'] at h5
              exact absurd (Option.some.inj h5) (by decide)
        · simp only [h4', bnd1_s, if_true, q2]
      · have h4' : f_Mo_in (nI z) 1 99 = some 1 := h4
        have c1 : ¬ nI z < 1 := nI_nlt (a := z) (b := 1) (by omega) (by omega)
        have c2 : ¬ (99 : Int32) < nI z := nI_nlt (a := 99) (b := z) (by omega) (by omega)
        simp only [if_neg c1, if_neg c2, h4', bnd1_s, if_neg ne10]
        rcases in_cases a5 5 (by decide) with h5 | ⟨h5, o, ho, rfl⟩
        · have h5' : f_Mo_in a5 0 5 = some 0 := h5
          refine ⟨-1, σ, σ, ?_, ?_, hI⟩
          · simp only [h5', bnd1_s, if_true, q2]
          · simp only [h5', bnd1_s, if_true, q2]
        · have h5' : f_Mo_in (nI o) 0 5 = some 1 := h5
          simp only [h5', bnd1_s, if_neg ne10]
          by_cases hf : n < 16
          · have h16 : ¬ nI n = 16 := fun z => (nI_16 hn).mp z hf
            simp only [if_pos hf, if_true, letv]
            obtain ⟨r, r1, r2, -⟩ := house_eq (N := N) (σ := σ) (by omega) hI.1 (12 * a3 + a2)
            by_cases hr : a1 = 0 ∧ r ≠ -1
            · refine ⟨-2, σ, σ, ?_, ?_, hI⟩
              · rw [if_pos hr.1, r1]
                simp only [bnd1_s, if_neg hr.2, q2]
                rfl
              · rw [e2, if_neg h16, if_pos hr.1]
                unfold f_Mo_isFree
                rw [r2]
                simp only [bnd1_s, if_neg hr.2, q2, if_true]
                rfl
            · refine ⟨nI n, addC σ n a1 (12 * a3 + a2) (nI z) 0 (nI o) (mI σ 19 7 ||| (1 <<< (nI n &&& 31))), addM (addC σ n a1 (12 * a3 + a2) (nI z) 0 (nI o) (mI σ 19 7 ||| (1 <<< (nI n &&& 31)))) n a1 (12 * a3 + a2) (nI z) 0 (nI o) (mI σ 65 1 ||| (1 <<< (nI n &&& 31))), ?_, ?_, ?_⟩
              · have h : (if a1 = 0 then bnd1 (f_To_houseOn N σ (12 * a3 + a2)) fun r85 => if r85 = -1 then some (1, 12 * a3 + a2) else some (2, 12 * a3 + a2) else some (1, 12 * a3 + a2) : Option (Nat × Int32)) = some (1, 12 * a3 + a2) := by
                  by_cases h0 : a1 = 0
                  · rw [if_pos h0, r1]
                    have : r = -1 := by
                      by_cases h1 : r = -1
                      · exact h1
                      · exact absurd ⟨h0, h1⟩ hr
                    simp only [bnd1_s, if_pos this]
                  · rw [if_neg h0]
                rw [h]
                unfold f_Da_forgetShade
                simp only [letv, bnd1_s, q2]
                rw [if_neg (by decide), if_true, to_add hf e1]
                rfl
              · have F : Fr [20, 21, 22, 23, 24] [(33, 9), (19, 7), (19, 6)] σ (addC σ n a1 (12 * a3 + a2) (nI z) 0 (nI o) (mI σ 19 7 ||| (1 <<< (nI n &&& 31)))) := by
                  unfold addC
                  refine Fr.fI ?_ rfl (by decide)
                  refine Fr.fI ?_ rfl (by decide)
                  refine Fr.aI ?_ rfl (by decide)
                  refine Fr.aI ?_ rfl (by decide)
                  refine Fr.aI ?_ rfl (by decide)
                  refine Fr.aI ?_ rfl (by decide)
                  refine Fr.aI ?_ rfl (by decide)
                  exact (Fr.rf _ _ σ).fI rfl (by decide)
                generalize addC σ n a1 (12 * a3 + a2) (nI z) 0 (nI o) (mI σ 19 7 ||| (1 <<< (nI n &&& 31))) = σ1 at F
                have e2' : mI σ1 65 0 = nI n := (F.I 65 0 (by decide) (by decide)).trans e2
                have e4' : mI σ1 65 1 = mI σ 65 1 := F.I 65 1 (by decide) (by decide)
                obtain ⟨r', r1', r2'⟩ := mo_houseOn (N := N) (σ := σ1) (by omega) hn e2' (12 * a3 + a2)
                obtain ⟨r3, r1'', r2''⟩ := mo_houseOn (N := N) (σ := σ) (by omega) hn e2 (12 * a3 + a2)
                have hrr : r' = r := by
                  rw [e4', F.rowI 66 (by decide) (by decide), F.rowI 67 (by decide) (by decide)] at r2'
                  have := r2'.uniq (fun _ _ => ⟨rfl, rfl⟩) r2''
                  rw [this]
                  exact (Option.some.inj (r2.symm.trans r1'')).symm
                have h : (if a1 = 0 then bnd1 (f_Mo_isFree N σ1 (12 * a3 + a2)) fun r69 => if r69 = 0 then some (2, 12 * a3 + a2) else some (1, 12 * a3 + a2) else some (1, 12 * a3 + a2) : Option (Nat × Int32)) = some (1, 12 * a3 + a2) := by
                  by_cases h0 : a1 = 0
                  · unfold f_Mo_isFree
                    rw [if_pos h0, r1', hrr]
                    have : r = -1 := by
                      by_cases h1 : r = -1
                      · exact h1
                      · exact absurd ⟨h0, h1⟩ hr
                    simp only [bnd1_s, if_pos this, if_neg ne10]
                  · rw [if_neg h0]
                rw [e2', if_neg h16, h]
                simp only [bnd1_s, q2]
                rw [if_neg (by decide), if_true, mo_puts hf e2', e4']
                rfl
              · rw [es, ek]
                exact inv_add hI hf e1 (d := 0) hk (by omega) hz (by omega) (by decide) (by omega)
          · have h16 : nI n = 16 := (nI_16 hn).mpr hf
            refine ⟨-1, σ, σ, ?_, ?_, hI⟩
            · simp only [if_neg hf, if_neg ne10, bnd1_s, q2, if_true]
            · simp only [e2, if_pos h16, bnd1_s, q2, if_true]
    · have hT' : inT a2 a3 = false := by simpa using hT
      refine ⟨-1, σ, σ, ?_, ?_, hI⟩
      · simp only [bnd1_s, hT', if_neg f10, if_true, q2]
      · simp only [bnd1_s, hT', if_neg f10, if_true, q2]
  · have t0 : (if a1 = 0 then some 0 else if a1 = 1 then some 0 else if a1 = 3 then some 0 else some 1 : Option Nat) = some 1 := by
      rw [if_neg q0, if_neg q1, if_neg q3]
    rw [t0]
    refine ⟨-1, σ, σ, ?_, ?_, hI⟩
    · simp [bnd1_s, q2]
    · simp [bnd1_s]
