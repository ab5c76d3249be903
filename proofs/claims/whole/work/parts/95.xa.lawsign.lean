-- ===== the class's reader: single signs =====
def TX (n : Nat) (tx : Nat → Int32) : Prop := n ≤ 240 ∧ (∀ j, j < n → ∃ b : Nat, b < 256 ∧ tx j = nI b) ∧ ∀ j, n ≤ j → tx j = -1
def CS (n : Nat) (tx : Nat → Int32) (σ : Mem) (p c : Nat) : Prop := mI σ 17 4 = nI p ∧ mI σ 17 3 = nI n ∧ (∀ j, j < n → mI σ 18 j = tx j) ∧ mI σ 10 1 = nI c ∧ p ≤ n ∧ c ≤ 2 * p
theorem TX.lt {n : Nat} {tx : Nat → Int32} (h : TX n tx) {p : Nat} (hp : tx p ≠ -1) : p < n := Nat.not_le.mp fun z => hp (h.2.2 p z)
theorem TX.cs {n : Nat} {tx : Nat → Int32} (h : TX n tx) (p : Nat) : tx p = -1 ∨ ∃ b : Nat, b < 256 ∧ tx p = nI b := by
  rcases Nat.lt_or_ge p n with z | z
  · exact Or.inr (h.2.1 p z)
  · exact Or.inl (h.2.2 p z)
theorem rd_sign {n : Nat} {tx : Nat → Int32} (hT : TX n tx) {σ : Mem} {p c : Nat} (h : CS n tx σ p c) : f_Rd_sign σ = some (tx p) := by
  obtain ⟨h1, h2, h3, h4, h5, h6⟩ := h
  have hn := hT.1
  unfold f_Rd_sign
  rw [h1, h2, if_neg (nI_pos (by omega))]
  rcases Nat.lt_or_ge p n with z | z
  · rw [if_neg (nI_ge z (by omega)), grd_t (inb_j (by omega) (by decide)), nI_clamp (by omega), h3 p z]
  · rw [if_pos (nI_le z (by omega)), hT.2.2 p z]
theorem enc_b : ∀ b : Fin 256, ((nI b.val).toUInt32 % 65536).toInt32 = nI b.val ∧ ¬ nI b.val < 0 ∧ ¬ (255 : Int32) < nI b.val := by decide +kernel
theorem enc_c : ∀ c : Fin 128, ∀ b : Fin 256, ((nI c.val) = (nI b.val).toInt8.toInt32) ↔ nI b.val = nI c.val := by decide +kernel

abbrev isCl (c : Int32) : Prop := c = 117 ∨ c = 101 ∨ c = 110 ∨ c = 99 ∨ c = 112 ∨ c = 119 ∨ c = 103
theorem ixs_s0 (N : Nat) (a4 : Int32) (k i : Nat) (hi : i < 7) : L_JL_indexOfChar_4cfef_s0_l7 N 7 a4 (k + 1) (nI i) = if stb 0 i = a4 then some (nI i) else L_JL_indexOfChar_4cfef_s0_l7 N 7 a4 k (nI (i + 1)) := by
  show B_JL_indexOfChar_4cfef_s0_l7 N 7 a4 _ _ = _
  unfold B_JL_indexOfChar_4cfef_s0_l7
  rw [if_neg (show ¬ (7 : Int32) ≤ nI i from nI_ge (b := 7) hi (by decide)), grd_t (inb_j hi (by decide)), nI_clamp (by omega)]
  simp only [letv, nI_1]
theorem ixe_s0 (N : Nat) (a4 : Int32) (k : Nat) : L_JL_indexOfChar_4cfef_s0_l7 N 7 a4 (k + 1) (nI 7) = some (-1) := by
  show B_JL_indexOfChar_4cfef_s0_l7 N 7 a4 _ _ = _
  unfold B_JL_indexOfChar_4cfef_s0_l7
  rw [if_pos (by decide)]
theorem ix_s0 {N b : Nat} (hN : 100 < N) (hb : b < 256) : f_JS_indexOf_0f7a4_s0 N (nI b) = some (if nI b = 117 then 0 else if nI b = 101 then 1 else if nI b = 110 then 2 else if nI b = 99 then 3 else if nI b = 112 then 4 else if nI b = 119 then 5 else if nI b = 103 then 6 else (-1)) := by
  obtain ⟨e1, e2, e3⟩ := enc_b ⟨b, hb⟩
  unfold f_JS_indexOf_0f7a4_s0 f_JS_indexOf_7cf53_s0
  have q1 : f_JS_isLatin1_aae02_s0 = some 1 := by decide
  have q2 : f_JS_length_8abf5_s0 = some 7 := by decide
  rw [q1, q2]
  simp only [bnd1_s]
  rw [grd_t (by decide)]
  unfold f_JL_indexOf_4cfef_s0 f_JL_canEncode_9a6ad
  have q3 : f_JM_max_7cf53 0 0 = some 0 := by decide
  have q4 : f_JM_min_7cf53 7 7 = some 7 := by decide
  rw [if_neg e2, if_neg e3]
  simp only [bnd1_s, if_neg ne10, q3, q4]
  rw [if_pos (show (0 : Int32) < 7 by decide)]
  unfold f_JL_indexOfChar_4cfef_s0
  simp only [letv]
  obtain ⟨k, rfl⟩ : ∃ k, N = k + 8 := ⟨N - 8, by omega⟩
  rw [show (0 : Int32) = nI 0 from rfl]
  rw [ixs_s0 _ _ (k + 7) 0 (by decide)]
  by_cases z0 : nI b = 117
  · rw [if_pos (show stb 0 0 = (nI b).toInt8.toInt32 from (enc_c ⟨117, by decide⟩ ⟨b, hb⟩).mpr z0)]
    simp only [bnd1_s, z0]
    rfl
  rw [if_neg (show ¬ stb 0 0 = (nI b).toInt8.toInt32 from fun z => z0 ((enc_c ⟨117, by decide⟩ ⟨b, hb⟩).mp z))]
  rw [ixs_s0 _ _ (k + 6) 1 (by decide)]
  by_cases z1 : nI b = 101
  · rw [if_pos (show stb 0 1 = (nI b).toInt8.toInt32 from (enc_c ⟨101, by decide⟩ ⟨b, hb⟩).mpr z1)]
    simp only [bnd1_s, z1]
    rfl
  rw [if_neg (show ¬ stb 0 1 = (nI b).toInt8.toInt32 from fun z => z1 ((enc_c ⟨101, by decide⟩ ⟨b, hb⟩).mp z))]
  rw [ixs_s0 _ _ (k + 5) 2 (by decide)]
  by_cases z2 : nI b = 110
  · rw [if_pos (show stb 0 2 = (nI b).toInt8.toInt32 from (enc_c ⟨110, by decide⟩ ⟨b, hb⟩).mpr z2)]
    simp only [bnd1_s, z2]
    rfl
  rw [if_neg (show ¬ stb 0 2 = (nI b).toInt8.toInt32 from fun z => z2 ((enc_c ⟨110, by decide⟩ ⟨b, hb⟩).mp z))]
  rw [ixs_s0 _ _ (k + 4) 3 (by decide)]
  by_cases z3 : nI b = 99
  · rw [if_pos (show stb 0 3 = (nI b).toInt8.toInt32 from (enc_c ⟨99, by decide⟩ ⟨b, hb⟩).mpr z3)]
    simp only [bnd1_s, z3]
    rfl
  rw [if_neg (show ¬ stb 0 3 = (nI b).toInt8.toInt32 from fun z => z3 ((enc_c ⟨99, by decide⟩ ⟨b, hb⟩).mp z))]
  rw [ixs_s0 _ _ (k + 3) 4 (by decide)]
  by_cases z4 : nI b = 112
  · rw [if_pos (show stb 0 4 = (nI b).toInt8.toInt32 from (enc_c ⟨112, by decide⟩ ⟨b, hb⟩).mpr z4)]
    simp only [bnd1_s, z4]
    rfl
  rw [if_neg (show ¬ stb 0 4 = (nI b).toInt8.toInt32 from fun z => z4 ((enc_c ⟨112, by decide⟩ ⟨b, hb⟩).mp z))]
  rw [ixs_s0 _ _ (k + 2) 5 (by decide)]
  by_cases z5 : nI b = 119
  · rw [if_pos (show stb 0 5 = (nI b).toInt8.toInt32 from (enc_c ⟨119, by decide⟩ ⟨b, hb⟩).mpr z5)]
    simp only [bnd1_s, z5]
    rfl
  rw [if_neg (show ¬ stb 0 5 = (nI b).toInt8.toInt32 from fun z => z5 ((enc_c ⟨119, by decide⟩ ⟨b, hb⟩).mp z))]
  rw [ixs_s0 _ _ (k + 1) 6 (by decide)]
  by_cases z6 : nI b = 103
  · rw [if_pos (show stb 0 6 = (nI b).toInt8.toInt32 from (enc_c ⟨103, by decide⟩ ⟨b, hb⟩).mpr z6)]
    simp only [bnd1_s, z6]
    rfl
  rw [if_neg (show ¬ stb 0 6 = (nI b).toInt8.toInt32 from fun z => z6 ((enc_c ⟨103, by decide⟩ ⟨b, hb⟩).mp z))]
  rw [show nI (6 + 1) = nI 7 from rfl, ixe_s0]
  simp only [bnd1_s, if_neg z0, if_neg z1, if_neg z2, if_neg z3, if_neg z4, if_neg z5, if_neg z6]
theorem one_s0 {N n : Nat} {tx : Nat → Int32} (hN : 100 < N) (hT : TX n tx) {σ : Mem} {p c : Nat} (h : CS n tx σ p c) : (f_Rd_isOneOf_s0 N σ = some 1 ∧ isCl (tx p)) ∨ (f_Rd_isOneOf_s0 N σ = some 0 ∧ ¬ (isCl (tx p))) := by
  unfold f_Rd_isOneOf_s0
  rw [rd_sign hT h]
  simp only [bnd1_s]
  rcases hT.cs p with e | ⟨b, hb, e⟩
  · rw [e, if_pos (by decide)]
    exact Or.inr ⟨rfl, by decide⟩
  · rw [e, if_neg (enc_b ⟨b, hb⟩).2.1, (enc_b ⟨b, hb⟩).1, ix_s0 hN hb]
    simp only [bnd1_s]
    by_cases z0 : nI b = 117
    · rw [z0]
      exact Or.inl ⟨rfl, by decide⟩
    by_cases z1 : nI b = 101
    · rw [z1]
      exact Or.inl ⟨rfl, by decide⟩
    by_cases z2 : nI b = 110
    · rw [z2]
      exact Or.inl ⟨rfl, by decide⟩
    by_cases z3 : nI b = 99
    · rw [z3]
      exact Or.inl ⟨rfl, by decide⟩
    by_cases z4 : nI b = 112
    · rw [z4]
      exact Or.inl ⟨rfl, by decide⟩
    by_cases z5 : nI b = 119
    · rw [z5]
      exact Or.inl ⟨rfl, by decide⟩
    by_cases z6 : nI b = 103
    · rw [z6]
      exact Or.inl ⟨rfl, by decide⟩
    simp only [if_neg z0, if_neg z1, if_neg z2, if_neg z3, if_neg z4, if_neg z5, if_neg z6]
    refine Or.inr ⟨rfl, ?_⟩
    unfold isCl
    simp only [z0, z1, z2, z3, z4, z5, z6, or_self, not_false_eq_true]
theorem ixs_s1 (N : Nat) (a4 : Int32) (k i : Nat) (hi : i < 3) : L_JL_indexOfChar_4cfef_s1_l7 N 3 a4 (k + 1) (nI i) = if stb 1 i = a4 then some (nI i) else L_JL_indexOfChar_4cfef_s1_l7 N 3 a4 k (nI (i + 1)) := by
  show B_JL_indexOfChar_4cfef_s1_l7 N 3 a4 _ _ = _
  unfold B_JL_indexOfChar_4cfef_s1_l7
  rw [if_neg (show ¬ (3 : Int32) ≤ nI i from nI_ge (b := 3) hi (by decide)), grd_t (inb_j hi (by decide)), nI_clamp (by omega)]
  simp only [letv, nI_1]
theorem ixe_s1 (N : Nat) (a4 : Int32) (k : Nat) : L_JL_indexOfChar_4cfef_s1_l7 N 3 a4 (k + 1) (nI 3) = some (-1) := by
  show B_JL_indexOfChar_4cfef_s1_l7 N 3 a4 _ _ = _
  unfold B_JL_indexOfChar_4cfef_s1_l7
  rw [if_pos (by decide)]
theorem ix_s1 {N b : Nat} (hN : 100 < N) (hb : b < 256) : f_JS_indexOf_0f7a4_s1 N (nI b) = some (if nI b = 60 then 0 else if nI b = 62 then 1 else if nI b = 61 then 2 else (-1)) := by
  obtain ⟨e1, e2, e3⟩ := enc_b ⟨b, hb⟩
  unfold f_JS_indexOf_0f7a4_s1 f_JS_indexOf_7cf53_s1
  have q1 : f_JS_isLatin1_aae02_s1 = some 1 := by decide
  have q2 : f_JS_length_8abf5_s1 = some 3 := by decide
  rw [q1, q2]
  simp only [bnd1_s]
  rw [grd_t (by decide)]
  unfold f_JL_indexOf_4cfef_s1 f_JL_canEncode_9a6ad
  have q3 : f_JM_max_7cf53 0 0 = some 0 := by decide
  have q4 : f_JM_min_7cf53 3 3 = some 3 := by decide
  rw [if_neg e2, if_neg e3]
  simp only [bnd1_s, if_neg ne10, q3, q4]
  rw [if_pos (show (0 : Int32) < 3 by decide)]
  unfold f_JL_indexOfChar_4cfef_s1
  simp only [letv]
  obtain ⟨k, rfl⟩ : ∃ k, N = k + 4 := ⟨N - 4, by omega⟩
  rw [show (0 : Int32) = nI 0 from rfl]
  rw [ixs_s1 _ _ (k + 3) 0 (by decide)]
  by_cases z0 : nI b = 60
  · rw [if_pos (show stb 1 0 = (nI b).toInt8.toInt32 from (enc_c ⟨60, by decide⟩ ⟨b, hb⟩).mpr z0)]
    simp only [bnd1_s, z0]
    rfl
  rw [if_neg (show ¬ stb 1 0 = (nI b).toInt8.toInt32 from fun z => z0 ((enc_c ⟨60, by decide⟩ ⟨b, hb⟩).mp z))]
  rw [ixs_s1 _ _ (k + 2) 1 (by decide)]
  by_cases z1 : nI b = 62
  · rw [if_pos (show stb 1 1 = (nI b).toInt8.toInt32 from (enc_c ⟨62, by decide⟩ ⟨b, hb⟩).mpr z1)]
    simp only [bnd1_s, z1]
    rfl
  rw [if_neg (show ¬ stb 1 1 = (nI b).toInt8.toInt32 from fun z => z1 ((enc_c ⟨62, by decide⟩ ⟨b, hb⟩).mp z))]
  rw [ixs_s1 _ _ (k + 1) 2 (by decide)]
  by_cases z2 : nI b = 61
  · rw [if_pos (show stb 1 2 = (nI b).toInt8.toInt32 from (enc_c ⟨61, by decide⟩ ⟨b, hb⟩).mpr z2)]
    simp only [bnd1_s, z2]
    rfl
  rw [if_neg (show ¬ stb 1 2 = (nI b).toInt8.toInt32 from fun z => z2 ((enc_c ⟨61, by decide⟩ ⟨b, hb⟩).mp z))]
  rw [show nI (2 + 1) = nI 3 from rfl, ixe_s1]
  simp only [bnd1_s, if_neg z0, if_neg z1, if_neg z2]
theorem one_s1 {N n : Nat} {tx : Nat → Int32} (hN : 100 < N) (hT : TX n tx) {σ : Mem} {p c : Nat} (h : CS n tx σ p c) : (f_Rd_isOneOf_s1 N σ = some 1 ∧ isCm (tx p)) ∨ (f_Rd_isOneOf_s1 N σ = some 0 ∧ ¬ (isCm (tx p))) := by
  unfold f_Rd_isOneOf_s1
  rw [rd_sign hT h]
  simp only [bnd1_s]
  rcases hT.cs p with e | ⟨b, hb, e⟩
  · rw [e, if_pos (by decide)]
    exact Or.inr ⟨rfl, by decide⟩
  · rw [e, if_neg (enc_b ⟨b, hb⟩).2.1, (enc_b ⟨b, hb⟩).1, ix_s1 hN hb]
    simp only [bnd1_s]
    by_cases z0 : nI b = 60
    · rw [z0]
      exact Or.inl ⟨rfl, by decide⟩
    by_cases z1 : nI b = 62
    · rw [z1]
      exact Or.inl ⟨rfl, by decide⟩
    by_cases z2 : nI b = 61
    · rw [z2]
      exact Or.inl ⟨rfl, by decide⟩
    simp only [if_neg z0, if_neg z1, if_neg z2]
    refine Or.inr ⟨rfl, ?_⟩
    unfold isCm
    simp only [z0, z1, z2, or_self, not_false_eq_true]
theorem ixs_s2 (N : Nat) (a4 : Int32) (k i : Nat) (hi : i < 2) : L_JL_indexOfChar_4cfef_s2_l7 N 2 a4 (k + 1) (nI i) = if stb 2 i = a4 then some (nI i) else L_JL_indexOfChar_4cfef_s2_l7 N 2 a4 k (nI (i + 1)) := by
  show B_JL_indexOfChar_4cfef_s2_l7 N 2 a4 _ _ = _
  unfold B_JL_indexOfChar_4cfef_s2_l7
  rw [if_neg (show ¬ (2 : Int32) ≤ nI i from nI_ge (b := 2) hi (by decide)), grd_t (inb_j hi (by decide)), nI_clamp (by omega)]
  simp only [letv, nI_1]
theorem ixe_s2 (N : Nat) (a4 : Int32) (k : Nat) : L_JL_indexOfChar_4cfef_s2_l7 N 2 a4 (k + 1) (nI 2) = some (-1) := by
  show B_JL_indexOfChar_4cfef_s2_l7 N 2 a4 _ _ = _
  unfold B_JL_indexOfChar_4cfef_s2_l7
  rw [if_pos (by decide)]
theorem ix_s2 {N b : Nat} (hN : 100 < N) (hb : b < 256) : f_JS_indexOf_0f7a4_s2 N (nI b) = some (if nI b = 43 then 0 else if nI b = 45 then 1 else (-1)) := by
  obtain ⟨e1, e2, e3⟩ := enc_b ⟨b, hb⟩
  unfold f_JS_indexOf_0f7a4_s2 f_JS_indexOf_7cf53_s2
  have q1 : f_JS_isLatin1_aae02_s2 = some 1 := by decide
  have q2 : f_JS_length_8abf5_s2 = some 2 := by decide
  rw [q1, q2]
  simp only [bnd1_s]
  rw [grd_t (by decide)]
  unfold f_JL_indexOf_4cfef_s2 f_JL_canEncode_9a6ad
  have q3 : f_JM_max_7cf53 0 0 = some 0 := by decide
  have q4 : f_JM_min_7cf53 2 2 = some 2 := by decide
  rw [if_neg e2, if_neg e3]
  simp only [bnd1_s, if_neg ne10, q3, q4]
  rw [if_pos (show (0 : Int32) < 2 by decide)]
  unfold f_JL_indexOfChar_4cfef_s2
  simp only [letv]
  obtain ⟨k, rfl⟩ : ∃ k, N = k + 3 := ⟨N - 3, by omega⟩
  rw [show (0 : Int32) = nI 0 from rfl]
  rw [ixs_s2 _ _ (k + 2) 0 (by decide)]
  by_cases z0 : nI b = 43
  · rw [if_pos (show stb 2 0 = (nI b).toInt8.toInt32 from (enc_c ⟨43, by decide⟩ ⟨b, hb⟩).mpr z0)]
    simp only [bnd1_s, z0]
    rfl
  rw [if_neg (show ¬ stb 2 0 = (nI b).toInt8.toInt32 from fun z => z0 ((enc_c ⟨43, by decide⟩ ⟨b, hb⟩).mp z))]
  rw [ixs_s2 _ _ (k + 1) 1 (by decide)]
  by_cases z1 : nI b = 45
  · rw [if_pos (show stb 2 1 = (nI b).toInt8.toInt32 from (enc_c ⟨45, by decide⟩ ⟨b, hb⟩).mpr z1)]
    simp only [bnd1_s, z1]
    rfl
  rw [if_neg (show ¬ stb 2 1 = (nI b).toInt8.toInt32 from fun z => z1 ((enc_c ⟨45, by decide⟩ ⟨b, hb⟩).mp z))]
  rw [show nI (1 + 1) = nI 2 from rfl, ixe_s2]
  simp only [bnd1_s, if_neg z0, if_neg z1]
theorem one_s2 {N n : Nat} {tx : Nat → Int32} (hN : 100 < N) (hT : TX n tx) {σ : Mem} {p c : Nat} (h : CS n tx σ p c) : (f_Rd_isOneOf_s2 N σ = some 1 ∧ isPm (tx p)) ∨ (f_Rd_isOneOf_s2 N σ = some 0 ∧ ¬ (isPm (tx p))) := by
  unfold f_Rd_isOneOf_s2
  rw [rd_sign hT h]
  simp only [bnd1_s]
  rcases hT.cs p with e | ⟨b, hb, e⟩
  · rw [e, if_pos (by decide)]
    exact Or.inr ⟨rfl, by decide⟩
  · rw [e, if_neg (enc_b ⟨b, hb⟩).2.1, (enc_b ⟨b, hb⟩).1, ix_s2 hN hb]
    simp only [bnd1_s]
    by_cases z0 : nI b = 43
    · rw [z0]
      exact Or.inl ⟨rfl, by decide⟩
    by_cases z1 : nI b = 45
    · rw [z1]
      exact Or.inl ⟨rfl, by decide⟩
    simp only [if_neg z0, if_neg z1]
    refine Or.inr ⟨rfl, ?_⟩
    unfold isPm
    simp only [z0, z1, or_self, not_false_eq_true]
theorem ixs_s3 (N : Nat) (a4 : Int32) (k i : Nat) (hi : i < 3) : L_JL_indexOfChar_4cfef_s3_l7 N 3 a4 (k + 1) (nI i) = if stb 3 i = a4 then some (nI i) else L_JL_indexOfChar_4cfef_s3_l7 N 3 a4 k (nI (i + 1)) := by
  show B_JL_indexOfChar_4cfef_s3_l7 N 3 a4 _ _ = _
  unfold B_JL_indexOfChar_4cfef_s3_l7
  rw [if_neg (show ¬ (3 : Int32) ≤ nI i from nI_ge (b := 3) hi (by decide)), grd_t (inb_j hi (by decide)), nI_clamp (by omega)]
  simp only [letv, nI_1]
theorem ixe_s3 (N : Nat) (a4 : Int32) (k : Nat) : L_JL_indexOfChar_4cfef_s3_l7 N 3 a4 (k + 1) (nI 3) = some (-1) := by
  show B_JL_indexOfChar_4cfef_s3_l7 N 3 a4 _ _ = _
  unfold B_JL_indexOfChar_4cfef_s3_l7
  rw [if_pos (by decide)]
theorem ix_s3 {N b : Nat} (hN : 100 < N) (hb : b < 256) : f_JS_indexOf_0f7a4_s3 N (nI b) = some (if nI b = 42 then 0 else if nI b = 47 then 1 else if nI b = 37 then 2 else (-1)) := by
  obtain ⟨e1, e2, e3⟩ := enc_b ⟨b, hb⟩
  unfold f_JS_indexOf_0f7a4_s3 f_JS_indexOf_7cf53_s3
  have q1 : f_JS_isLatin1_aae02_s3 = some 1 := by decide
  have q2 : f_JS_length_8abf5_s3 = some 3 := by decide
  rw [q1, q2]
  simp only [bnd1_s]
  rw [grd_t (by decide)]
  unfold f_JL_indexOf_4cfef_s3 f_JL_canEncode_9a6ad
  have q3 : f_JM_max_7cf53 0 0 = some 0 := by decide
  have q4 : f_JM_min_7cf53 3 3 = some 3 := by decide
  rw [if_neg e2, if_neg e3]
  simp only [bnd1_s, if_neg ne10, q3, q4]
  rw [if_pos (show (0 : Int32) < 3 by decide)]
  unfold f_JL_indexOfChar_4cfef_s3
  simp only [letv]
  obtain ⟨k, rfl⟩ : ∃ k, N = k + 4 := ⟨N - 4, by omega⟩
  rw [show (0 : Int32) = nI 0 from rfl]
  rw [ixs_s3 _ _ (k + 3) 0 (by decide)]
  by_cases z0 : nI b = 42
  · rw [if_pos (show stb 3 0 = (nI b).toInt8.toInt32 from (enc_c ⟨42, by decide⟩ ⟨b, hb⟩).mpr z0)]
    simp only [bnd1_s, z0]
    rfl
  rw [if_neg (show ¬ stb 3 0 = (nI b).toInt8.toInt32 from fun z => z0 ((enc_c ⟨42, by decide⟩ ⟨b, hb⟩).mp z))]
  rw [ixs_s3 _ _ (k + 2) 1 (by decide)]
  by_cases z1 : nI b = 47
  · rw [if_pos (show stb 3 1 = (nI b).toInt8.toInt32 from (enc_c ⟨47, by decide⟩ ⟨b, hb⟩).mpr z1)]
    simp only [bnd1_s, z1]
    rfl
  rw [if_neg (show ¬ stb 3 1 = (nI b).toInt8.toInt32 from fun z => z1 ((enc_c ⟨47, by decide⟩ ⟨b, hb⟩).mp z))]
  rw [ixs_s3 _ _ (k + 1) 2 (by decide)]
  by_cases z2 : nI b = 37
  · rw [if_pos (show stb 3 2 = (nI b).toInt8.toInt32 from (enc_c ⟨37, by decide⟩ ⟨b, hb⟩).mpr z2)]
    simp only [bnd1_s, z2]
    rfl
  rw [if_neg (show ¬ stb 3 2 = (nI b).toInt8.toInt32 from fun z => z2 ((enc_c ⟨37, by decide⟩ ⟨b, hb⟩).mp z))]
  rw [show nI (2 + 1) = nI 3 from rfl, ixe_s3]
  simp only [bnd1_s, if_neg z0, if_neg z1, if_neg z2]
theorem one_s3 {N n : Nat} {tx : Nat → Int32} (hN : 100 < N) (hT : TX n tx) {σ : Mem} {p c : Nat} (h : CS n tx σ p c) : (f_Rd_isOneOf_s3 N σ = some 1 ∧ isMd (tx p)) ∨ (f_Rd_isOneOf_s3 N σ = some 0 ∧ ¬ (isMd (tx p))) := by
  unfold f_Rd_isOneOf_s3
  rw [rd_sign hT h]
  simp only [bnd1_s]
  rcases hT.cs p with e | ⟨b, hb, e⟩
  · rw [e, if_pos (by decide)]
    exact Or.inr ⟨rfl, by decide⟩
  · rw [e, if_neg (enc_b ⟨b, hb⟩).2.1, (enc_b ⟨b, hb⟩).1, ix_s3 hN hb]
    simp only [bnd1_s]
    by_cases z0 : nI b = 42
    · rw [z0]
      exact Or.inl ⟨rfl, by decide⟩
    by_cases z1 : nI b = 47
    · rw [z1]
      exact Or.inl ⟨rfl, by decide⟩
    by_cases z2 : nI b = 37
    · rw [z2]
      exact Or.inl ⟨rfl, by decide⟩
    simp only [if_neg z0, if_neg z1, if_neg z2]
    refine Or.inr ⟨rfl, ?_⟩
    unfold isMd
    simp only [z0, z1, z2, or_self, not_false_eq_true]
theorem ixs_s4 (N : Nat) (a4 : Int32) (k i : Nat) (hi : i < 9) : L_JL_indexOfChar_4cfef_s4_l7 N 9 a4 (k + 1) (nI i) = if stb 4 i = a4 then some (nI i) else L_JL_indexOfChar_4cfef_s4_l7 N 9 a4 k (nI (i + 1)) := by
  show B_JL_indexOfChar_4cfef_s4_l7 N 9 a4 _ _ = _
  unfold B_JL_indexOfChar_4cfef_s4_l7
  rw [if_neg (show ¬ (9 : Int32) ≤ nI i from nI_ge (b := 9) hi (by decide)), grd_t (inb_j hi (by decide)), nI_clamp (by omega)]
  simp only [letv, nI_1]
theorem ixe_s4 (N : Nat) (a4 : Int32) (k : Nat) : L_JL_indexOfChar_4cfef_s4_l7 N 9 a4 (k + 1) (nI 9) = some (-1) := by
  show B_JL_indexOfChar_4cfef_s4_l7 N 9 a4 _ _ = _
  unfold B_JL_indexOfChar_4cfef_s4_l7
  rw [if_pos (by decide)]
theorem ix_s4 {N b : Nat} (hN : 100 < N) (hb : b < 256) : f_JS_indexOf_0f7a4_s4 N (nI b) = some (if nI b = 116 then 0 else if nI b = 109 then 1 else if nI b = 120 then 2 else if nI b = 121 then 3 else if nI b = 115 then 4 else if nI b = 105 then 5 else if nI b = 100 then 6 else if nI b = 104 then 7 else if nI b = 111 then 8 else (-1)) := by
  obtain ⟨e1, e2, e3⟩ := enc_b ⟨b, hb⟩
  unfold f_JS_indexOf_0f7a4_s4 f_JS_indexOf_7cf53_s4
  have q1 : f_JS_isLatin1_aae02_s4 = some 1 := by decide
  have q2 : f_JS_length_8abf5_s4 = some 9 := by decide
  rw [q1, q2]
  simp only [bnd1_s]
  rw [grd_t (by decide)]
  unfold f_JL_indexOf_4cfef_s4 f_JL_canEncode_9a6ad
  have q3 : f_JM_max_7cf53 0 0 = some 0 := by decide
  have q4 : f_JM_min_7cf53 9 9 = some 9 := by decide
  rw [if_neg e2, if_neg e3]
  simp only [bnd1_s, if_neg ne10, q3, q4]
  rw [if_pos (show (0 : Int32) < 9 by decide)]
  unfold f_JL_indexOfChar_4cfef_s4
  simp only [letv]
  obtain ⟨k, rfl⟩ : ∃ k, N = k + 10 := ⟨N - 10, by omega⟩
  rw [show (0 : Int32) = nI 0 from rfl]
  rw [ixs_s4 _ _ (k + 9) 0 (by decide)]
  by_cases z0 : nI b = 116
  · rw [if_pos (show stb 4 0 = (nI b).toInt8.toInt32 from (enc_c ⟨116, by decide⟩ ⟨b, hb⟩).mpr z0)]
    simp only [bnd1_s, z0]
    rfl
  rw [if_neg (show ¬ stb 4 0 = (nI b).toInt8.toInt32 from fun z => z0 ((enc_c ⟨116, by decide⟩ ⟨b, hb⟩).mp z))]
  rw [ixs_s4 _ _ (k + 8) 1 (by decide)]
  by_cases z1 : nI b = 109
  · rw [if_pos (show stb 4 1 = (nI b).toInt8.toInt32 from (enc_c ⟨109, by decide⟩ ⟨b, hb⟩).mpr z1)]
    simp only [bnd1_s, z1]
    rfl
  rw [if_neg (show ¬ stb 4 1 = (nI b).toInt8.toInt32 from fun z => z1 ((enc_c ⟨109, by decide⟩ ⟨b, hb⟩).mp z))]
  rw [ixs_s4 _ _ (k + 7) 2 (by decide)]
  by_cases z2 : nI b = 120
  · rw [if_pos (show stb 4 2 = (nI b).toInt8.toInt32 from (enc_c ⟨120, by decide⟩ ⟨b, hb⟩).mpr z2)]
    simp only [bnd1_s, z2]
    rfl
  rw [if_neg (show ¬ stb 4 2 = (nI b).toInt8.toInt32 from fun z => z2 ((enc_c ⟨120, by decide⟩ ⟨b, hb⟩).mp z))]
  rw [ixs_s4 _ _ (k + 6) 3 (by decide)]
  by_cases z3 : nI b = 121
  · rw [if_pos (show stb 4 3 = (nI b).toInt8.toInt32 from (enc_c ⟨121, by decide⟩ ⟨b, hb⟩).mpr z3)]
    simp only [bnd1_s, z3]
    rfl
  rw [if_neg (show ¬ stb 4 3 = (nI b).toInt8.toInt32 from fun z => z3 ((enc_c ⟨121, by decide⟩ ⟨b, hb⟩).mp z))]
  rw [ixs_s4 _ _ (k + 5) 4 (by decide)]
  by_cases z4 : nI b = 115
  · rw [if_pos (show stb 4 4 = (nI b).toInt8.toInt32 from (enc_c ⟨115, by decide⟩ ⟨b, hb⟩).mpr z4)]
    simp only [bnd1_s, z4]
    rfl
  rw [if_neg (show ¬ stb 4 4 = (nI b).toInt8.toInt32 from fun z => z4 ((enc_c ⟨115, by decide⟩ ⟨b, hb⟩).mp z))]
  rw [ixs_s4 _ _ (k + 4) 5 (by decide)]
  by_cases z5 : nI b = 105
  · rw [if_pos (show stb 4 5 = (nI b).toInt8.toInt32 from (enc_c ⟨105, by decide⟩ ⟨b, hb⟩).mpr z5)]
    simp only [bnd1_s, z5]
    rfl
  rw [if_neg (show ¬ stb 4 5 = (nI b).toInt8.toInt32 from fun z => z5 ((enc_c ⟨105, by decide⟩ ⟨b, hb⟩).mp z))]
  rw [ixs_s4 _ _ (k + 3) 6 (by decide)]
  by_cases z6 : nI b = 100
  · rw [if_pos (show stb 4 6 = (nI b).toInt8.toInt32 from (enc_c ⟨100, by decide⟩ ⟨b, hb⟩).mpr z6)]
    simp only [bnd1_s, z6]
    rfl
  rw [if_neg (show ¬ stb 4 6 = (nI b).toInt8.toInt32 from fun z => z6 ((enc_c ⟨100, by decide⟩ ⟨b, hb⟩).mp z))]
  rw [ixs_s4 _ _ (k + 2) 7 (by decide)]
  by_cases z7 : nI b = 104
  · rw [if_pos (show stb 4 7 = (nI b).toInt8.toInt32 from (enc_c ⟨104, by decide⟩ ⟨b, hb⟩).mpr z7)]
    simp only [bnd1_s, z7]
    rfl
  rw [if_neg (show ¬ stb 4 7 = (nI b).toInt8.toInt32 from fun z => z7 ((enc_c ⟨104, by decide⟩ ⟨b, hb⟩).mp z))]
  rw [ixs_s4 _ _ (k + 1) 8 (by decide)]
  by_cases z8 : nI b = 111
  · rw [if_pos (show stb 4 8 = (nI b).toInt8.toInt32 from (enc_c ⟨111, by decide⟩ ⟨b, hb⟩).mpr z8)]
    simp only [bnd1_s, z8]
    rfl
  rw [if_neg (show ¬ stb 4 8 = (nI b).toInt8.toInt32 from fun z => z8 ((enc_c ⟨111, by decide⟩ ⟨b, hb⟩).mp z))]
  rw [show nI (8 + 1) = nI 9 from rfl, ixe_s4]
  simp only [bnd1_s, if_neg z0, if_neg z1, if_neg z2, if_neg z3, if_neg z4, if_neg z5, if_neg z6, if_neg z7, if_neg z8]
theorem one_s4 {N n : Nat} {tx : Nat → Int32} (hN : 100 < N) (hT : TX n tx) {σ : Mem} {p c : Nat} (h : CS n tx σ p c) : (f_Rd_isOneOf_s4 N σ = some 1 ∧ lix (tx p) < 9) ∨ (f_Rd_isOneOf_s4 N σ = some 0 ∧ ¬ (lix (tx p) < 9)) := by
  unfold f_Rd_isOneOf_s4
  rw [rd_sign hT h]
  simp only [bnd1_s]
  rcases hT.cs p with e | ⟨b, hb, e⟩
  · rw [e, if_pos (by decide)]
    exact Or.inr ⟨rfl, by decide⟩
  · rw [e, if_neg (enc_b ⟨b, hb⟩).2.1, (enc_b ⟨b, hb⟩).1, ix_s4 hN hb]
    simp only [bnd1_s]
    by_cases z0 : nI b = 116
    · rw [z0]
      exact Or.inl ⟨rfl, by decide⟩
    by_cases z1 : nI b = 109
    · rw [z1]
      exact Or.inl ⟨rfl, by decide⟩
    by_cases z2 : nI b = 120
    · rw [z2]
      exact Or.inl ⟨rfl, by decide⟩
    by_cases z3 : nI b = 121
    · rw [z3]
      exact Or.inl ⟨rfl, by decide⟩
    by_cases z4 : nI b = 115
    · rw [z4]
      exact Or.inl ⟨rfl, by decide⟩
    by_cases z5 : nI b = 105
    · rw [z5]
      exact Or.inl ⟨rfl, by decide⟩
    by_cases z6 : nI b = 100
    · rw [z6]
      exact Or.inl ⟨rfl, by decide⟩
    by_cases z7 : nI b = 104
    · rw [z7]
      exact Or.inl ⟨rfl, by decide⟩
    by_cases z8 : nI b = 111
    · rw [z8]
      exact Or.inl ⟨rfl, by decide⟩
    have hl : lix (nI b) = 9 := by unfold lix; simp only [if_neg z0, if_neg z1, if_neg z2, if_neg z3, if_neg z4, if_neg z5, if_neg z6, if_neg z7, if_neg z8]
    rw [hl]
    simp only [if_neg z0, if_neg z1, if_neg z2, if_neg z3, if_neg z4, if_neg z5, if_neg z6, if_neg z7, if_neg z8]
    exact Or.inr ⟨rfl, by decide⟩
