-- ===== the class's reader: numbers, factors, terms, sums =====
/-- the fault that is told -/
def FT (n : Nat) (σ : Mem) (k q : Nat) : Prop := mI σ 17 5 = (-1000) * nI k - nI q ∧ 1 ≤ k ∧ k ≤ 5 ∧ q ≤ n
def COut (n : Nat) (tx : Nat → Int32) (R : Option (Int32 × Mem)) (σ : Mem) (t d c p : Nat) (o : Out) : Prop := match o with
  | .inl (k, q) => ∃ σ', R = some (0, σ') ∧ FT n σ' k q
  | .inr (q, g) => ∃ σ' c', R = some (1, σ') ∧ CS n tx σ' q c' ∧ p < q ∧ c < c' ∧ c' + 2 * p ≤ c + 2 * q ∧ (∀ j, j < c → mI σ' 11 j = mI σ 11 j) ∧ SemX DC (mI σ' 11) c c' (hh t d) g ∧ (t ≤ 2 → B01 g)
def az (t : Nat) : DN := if t = 0 then lcst 0 else if t = 1 then lcst 1 else nul
def GSpec (n : Nat) (tx : Nat → Int32) (M : MT) (G : GT) (t d : Nat) : Prop := ∀ (σ : Mem) (p c : Nat), CS n tx σ p c → ∃ o, M t (az t) d p o ∧ COut n tx (G t σ (nI d)) σ t d c p o
theorem rd_fail {n : Nat} {tx : Nat → Int32} {σ : Mem} {p c : Nat} (h : CS n tx σ p c) (k : Nat) (hk : 1 ≤ k ∧ k ≤ 5) : ∃ σ', f_Rd_fail σ (nI k) = some (0, σ') ∧ FT n σ' k p := by
  refine ⟨_, rfl, ?_, hk.1, hk.2, h.2.2.2.2.1⟩
  rw [sI_s, h.1]
theorem CS.put {n : Nat} {tx : Nat → Int32} (hT : TX n tx) {σ : Mem} {p c : Nat} (h : CS n tx σ p c) (hc : c + 1 ≤ 2 * p) (v : Int32) : ∃ σ', f_La_put_b σ v = some σ' ∧ CS n tx σ' p (c + 1) ∧ mI σ' 11 = up1 (mI σ 11) c v := by
  obtain ⟨h1, h2, h3, h4, h5, h6⟩ := h
  have hn := hT.1
  refine ⟨sI (sI σ 11 c v) 10 1 (nI (c + 1)), ?_, ⟨?_, ?_, fun j hj => ?_, ?_, h5, hc⟩, ?_⟩
  · unfold f_La_put_b
    rw [h4, if_neg (show ¬ (513 : Int32) ≤ nI c from nI_ge (b := 513) (by omega) (by decide)), grd_t (inb_j (by omega) (by decide)), nI_clamp (by omega)]
    simp only [letv]
    rw [mI_sIn _ _ _ (by decide), h4, nI_1]
  · rw [mI_sIn _ _ _ (by decide), mI_sIn _ _ _ (by decide)]; exact h1
  · rw [mI_sIn _ _ _ (by decide), mI_sIn _ _ _ (by decide)]; exact h2
  · rw [mI_sIn _ _ _ (by decide), mI_sIn _ _ _ (by decide)]; exact h3 j hj
  · rw [sI_s]
  · rw [mI_sIn _ _ _ (by decide), mI_sI]
theorem CS.adv {n : Nat} {tx : Nat → Int32} {σ : Mem} {p c : Nat} (h : CS n tx σ p c) (hp : p < n) : ∃ σ', sI σ 17 4 (mI σ 17 4 + 1) = σ' ∧ CS n tx σ' (p + 1) c ∧ mI σ' 11 = mI σ 11 := by
  obtain ⟨h1, h2, h3, h4, h5, h6⟩ := h
  refine ⟨_, rfl, ⟨?_, ?_, fun j hj => ?_, ?_, by omega, by omega⟩, ?_⟩
  · rw [sI_s, h1, nI_1]
  · rw [sI_n _ _ (by omega)]; exact h2
  · rw [mI_sIn _ _ _ (by decide)]; exact h3 j hj
  · rw [mI_sIn _ _ _ (by decide)]; exact h4
  · rw [mI_sIn _ _ _ (by decide)]
theorem rd_step {n : Nat} {tx : Nat → Int32} (hT : TX n tx) {σ : Mem} {p c : Nat} (h : CS n tx σ p c) {ch : Int32} (hc : ch ≠ -1) : (tx p = ch ∧ ∃ σ', f_Rd_step σ ch = some (1, σ') ∧ CS n tx σ' (p + 1) c ∧ mI σ' 11 = mI σ 11) ∨ (tx p ≠ ch ∧ ∃ σ', f_Rd_step σ ch = some (0, σ') ∧ FT n σ' 1 p) := by
  unfold f_Rd_step
  rw [rd_sign hT h]
  simp only [bnd1_n]
  by_cases e : tx p = ch
  · obtain ⟨σ', a1, a2, a3⟩ := h.adv (hT.lt (p := p) (by rw [e]; exact hc))
    refine Or.inl ⟨e, σ', ?_, a2, a3⟩
    rw [if_pos e]
    simp only [letv, a1]
  · obtain ⟨σ', a1, a2⟩ := rd_fail h 1 (by decide)
    refine Or.inr ⟨e, σ', ?_, a2⟩
    rw [if_neg e, show (1 : Int32) = nI 1 from rfl, a1]
    rfl
theorem rd_deep {n : Nat} {tx : Nat → Int32} {σ : Mem} {p c d : Nat} (h : CS n tx σ p c) (hp : p < n) (hd : d ≤ 6) : (d < 6 ∧ ∃ σ', f_Rd_stepDeeper σ (nI d) = some (1, σ') ∧ CS n tx σ' (p + 1) c ∧ mI σ' 11 = mI σ 11) ∨ (6 ≤ d ∧ ∃ σ', f_Rd_stepDeeper σ (nI d) = some (0, σ') ∧ FT n σ' 5 p) := by
  unfold f_Rd_stepDeeper
  rcases Nat.lt_or_ge d 6 with z | z
  · obtain ⟨σ', a1, a2, a3⟩ := h.adv hp
    refine Or.inl ⟨z, σ', ?_, a2, a3⟩
    rw [if_pos (show nI d < 6 from nI_lt (b := 6) z (by decide))]
    simp only [letv, a1]
  · obtain ⟨σ', a1, a2⟩ := rd_fail h 5 (by decide)
    refine Or.inr ⟨z, σ', ?_, a2⟩
    rw [if_neg (show ¬ nI d < 6 from nI_nlt (b := 6) z (by omega)), show (5 : Int32) = nI 5 from rfl, a1]
    rfl
theorem rd_isDigit {n : Nat} {tx : Nat → Int32} (hT : TX n tx) {σ : Mem} {p c : Nat} (h : CS n tx σ p c) : (f_Rd_isDigit σ = some 1 ∧ dig (tx p)) ∨ (f_Rd_isDigit σ = some 0 ∧ ¬ dig (tx p)) := by
  unfold f_Rd_isDigit
  rw [rd_sign hT h]
  simp only [bnd1_n]
  by_cases z1 : tx p < 48
  · rw [if_pos z1]
    exact Or.inr ⟨rfl, fun z => z.1 z1⟩
  · rw [if_neg z1]
    by_cases z2 : 57 < tx p
    · rw [if_pos z2]
      exact Or.inr ⟨rfl, fun z => z.2 z2⟩
    · rw [if_neg z2]
      exact Or.inl ⟨rfl, z1, z2⟩
theorem dig_ne {c : Int32} (h : dig c) : c ≠ -1 ∧ c ≠ 91 := ⟨fun e => by rw [e] at h; exact absurd h (by decide), fun e => by rw [e] at h; exact absurd h (by decide)⟩
theorem rd_digits {N n : Nat} {tx : Nat → Int32} (hT : TX n tx) (p0 : Nat) : ∀ (r i k : Nat) (σ : Mem) (c : Nat), i + r = 5 → r < k → CS n tx σ (p0 + i) c → (∀ j, j < i → dig (tx (p0 + j))) → ∃ m σ', L_Rd_readNumber_l4 N k (dval tx p0 i) (nI i) σ = some (dval tx p0 m, σ') ∧ i ≤ m ∧ m ≤ 5 ∧ CS n tx σ' (p0 + m) c ∧ mI σ' 11 = mI σ 11 ∧ (∀ j, j < m → dig (tx (p0 + j))) ∧ (m = 5 ∨ ¬ dig (tx (p0 + m))) := by
  intro r
  induction r with
  | zero =>
    intro i k σ c e hk h hd
    obtain ⟨k, rfl⟩ : ∃ z, k = z + 1 := ⟨k - 1, by omega⟩
    have e : i = 5 := by omega
    subst e
    refine ⟨5, σ, ?_, by omega, by omega, h, rfl, hd, Or.inl rfl⟩
    show B_Rd_readNumber_l4 N _ _ _ σ = _
    unfold B_Rd_readNumber_l4
    rw [if_pos (by decide)]
  | succ r ih =>
    intro i k σ c e hk h hd
    obtain ⟨k, rfl⟩ : ∃ z, k = z + 1 := ⟨k - 1, by omega⟩
    rcases rd_isDigit hT h with ⟨a1, a2⟩ | ⟨a1, a2⟩
    · obtain ⟨σ1, b1, b2, b3⟩ := h.adv (hT.lt (dig_ne a2).1)
      obtain ⟨m, σ', c1, c2, c3, c4, c5, c6, c7⟩ := ih (i + 1) k σ1 c (by omega) (by omega) b2 (fun j hj => by
        rcases (show j < i ∨ j = i by omega) with z | rfl
        · exact hd j z
        · exact a2)
      refine ⟨m, σ', ?_, by omega, c3, c4, c5.trans b3, c6, c7⟩
      rw [← c1]
      show B_Rd_readNumber_l4 N _ _ _ σ = _
      unfold B_Rd_readNumber_l4
      rw [if_neg (show ¬ (5 : Int32) ≤ nI i from nI_ge (b := 5) (by omega) (by decide)), a1]
      simp only [bnd1_n, if_neg ne10]
      rw [rd_sign hT h]
      simp only [bnd1_n, letv, b1, nI_1]
      rfl
    · refine ⟨i, σ, ?_, by omega, by omega, h, rfl, hd, Or.inr a2⟩
      show B_Rd_readNumber_l4 N _ _ _ σ = _
      unfold B_Rd_readNumber_l4
      rw [if_neg (show ¬ (5 : Int32) ≤ nI i from nI_ge (b := 5) (by omega) (by decide)), a1]
      simp only [bnd1_n, if_true]
theorem lix_pos {c : Int32} (h : lix c < 9) : c ≠ -1 ∧ c ≠ 91 ∧ ¬ dig c := by
  refine ⟨fun e => ?_, fun e => ?_, fun e => ?_⟩
  · rw [e] at h; exact absurd h (by decide)
  · rw [e] at h; exact absurd h (by decide)
  · unfold lix at h
    obtain ⟨e1, e2⟩ := e
    by_cases z0 : c = 116
    · rw [z0] at e2; exact absurd e2 (by decide)
    by_cases z1 : c = 109
    · rw [z1] at e2; exact absurd e2 (by decide)
    by_cases z2 : c = 120
    · rw [z2] at e2; exact absurd e2 (by decide)
    by_cases z3 : c = 121
    · rw [z3] at e2; exact absurd e2 (by decide)
    by_cases z4 : c = 115
    · rw [z4] at e2; exact absurd e2 (by decide)
    by_cases z5 : c = 105
    · rw [z5] at e2; exact absurd e2 (by decide)
    by_cases z6 : c = 100
    · rw [z6] at e2; exact absurd e2 (by decide)
    by_cases z7 : c = 104
    · rw [z7] at e2; exact absurd e2 (by decide)
    by_cases z8 : c = 111
    · rw [z8] at e2; exact absurd e2 (by decide)
    simp only [if_neg z0, if_neg z1, if_neg z2, if_neg z3, if_neg z4, if_neg z5, if_neg z6, if_neg z7, if_neg z8] at h
    exact absurd h (by decide)
theorem lix_ix {N b : Nat} (hN : 100 < N) (hb : b < 256) (h : lix (nI b) < 9) : f_JS_indexOf_0f7a4_s4 N (nI b) = some (nI (lix (nI b))) := by
  rw [ix_s4 hN hb]
  unfold lix at h ⊢
  by_cases z0 : nI b = 116
  · simp only [if_pos z0]; rfl
  by_cases z1 : nI b = 109
  · simp only [if_neg z0, if_pos z1]; rfl
  by_cases z2 : nI b = 120
  · simp only [if_neg z0, if_neg z1, if_pos z2]; rfl
  by_cases z3 : nI b = 121
  · simp only [if_neg z0, if_neg z1, if_neg z2, if_pos z3]; rfl
  by_cases z4 : nI b = 115
  · simp only [if_neg z0, if_neg z1, if_neg z2, if_neg z3, if_pos z4]; rfl
  by_cases z5 : nI b = 105
  · simp only [if_neg z0, if_neg z1, if_neg z2, if_neg z3, if_neg z4, if_pos z5]; rfl
  by_cases z6 : nI b = 100
  · simp only [if_neg z0, if_neg z1, if_neg z2, if_neg z3, if_neg z4, if_neg z5, if_pos z6]; rfl
  by_cases z7 : nI b = 104
  · simp only [if_neg z0, if_neg z1, if_neg z2, if_neg z3, if_neg z4, if_neg z5, if_neg z6, if_pos z7]; rfl
  by_cases z8 : nI b = 111
  · simp only [if_neg z0, if_neg z1, if_neg z2, if_neg z3, if_neg z4, if_neg z5, if_neg z6, if_neg z7, if_pos z8]; rfl
  simp only [if_neg z0, if_neg z1, if_neg z2, if_neg z3, if_neg z4, if_neg z5, if_neg z6, if_neg z7, if_neg z8] at h
  exact absurd h (by decide)
theorem hh2 (t d : Nat) : 2 ≤ hh t d := by unfold hh; omega
theorem hh_le {t d : Nat} (h : t ≤ 5) : hh t d ≤ 32 - 1 := by
  unfold hh
  by_cases z : t ≤ 2
  · rw [if_pos z]; omega
  · rw [if_neg z]; omega
theorem cl_fac {N n d : Nat} {tx : Nat → Int32} {M : MT} {G : GT} (hN : 1000 < N) (hT : TX n tx) (hM : CloF tx M) (hd : d ≤ 6) (hG : d < 6 → GSpec n tx M G 3 (d + 1)) (σ : Mem) (p c : Nat) (h : CS n tx σ p c) : ∃ o, M 5 nul d p o ∧ COut n tx (f_Rd_readFactor N G σ (nI d)) σ 5 d c p o := by
  obtain ⟨m1, m2, m3, m4, m5, m6, m7, m8⟩ := hM
  have hn := hT.1
  have hp2 : p ≤ n := h.2.2.2.2.1
  have hc2 : c ≤ 2 * p := h.2.2.2.2.2
  unfold f_Rd_readFactor
  rw [rd_sign hT h]
  simp only [bnd1_n]
  by_cases e91 : tx p = 91
  · rw [if_pos e91]
    have hp : p < n := hT.lt (by rw [e91]; decide)
    rcases rd_deep (d := d) h hp hd with ⟨z, σ1, a1, a2, a3⟩ | ⟨z, σ1, a1, a2⟩
    · rw [a1]
      simp only [bnd2_n, if_neg ne10, nI_1]
      obtain ⟨o, b1, b2⟩ := hG z σ1 (p + 1) c a2
      have b1 : M 3 nul (d + 1) (p + 1) o := b1
      match o, b1, b2 with
      | .inl b, b1, b2 =>
        obtain ⟨k, q⟩ := b
        obtain ⟨σ2, g1, g2⟩ := b2
        refine ⟨.inl (k, q), m2 d p (k, q) e91 z b1, σ2, ?_, g2⟩
        rw [g1]
        rfl
      | .inr (q, g), b1, b2 =>
        obtain ⟨σ2, c2, g1, g2, g3, g4, g5, g6, g7, -⟩ := b2
        rw [g1]
        simp only [bnd2_n, if_neg ne10]
        rcases rd_step hT g2 (ch := 93) (by decide) with ⟨y, σ3, s1, s2, s3⟩ | ⟨y, σ3, s1, s2⟩
        · refine ⟨.inr (q + 1, g), m4 d p q g e91 z b1 y, σ3, c2, ?_, s2, by omega, g4, by omega, fun j hj => ?_, ?_, fun z => absurd z (by decide)⟩
          · rw [s1]
            rfl
          · rw [s3, g6 j hj, a3]
          · rw [s3]
            exact g7.up (by unfold hh; simp; omega)
        · refine ⟨.inl (1, q), m3 d p q g e91 z b1 y, σ3, ?_, s2⟩
          rw [s1]
          rfl
    · refine ⟨.inl (5, p), m1 d p e91 z, σ1, ?_, a2⟩
      rw [a1]
      rfl
  · rw [if_neg e91]
    rcases rd_isDigit hT h with ⟨a1, a2⟩ | ⟨a1, a2⟩
    · rw [a1]
      simp only [bnd1_n, if_neg ne10]
      unfold f_Rd_readNumber
      obtain ⟨m, σ1, b1, b2, b3, b4, b5, b6, b7⟩ := rd_digits (N := N) hT p 5 0 N σ c (by omega) (by omega) h (fun j hj => absurd hj (Nat.not_lt_zero j))
      have b1 : L_Rd_readNumber_l4 N N 0 0 σ = some (dval tx p m, σ1) := b1
      rw [b1]
      simp only [bnd1_n, q2]
      have hm1 : 1 ≤ m := by
        rcases Nat.eq_zero_or_pos m with z | z
        · subst z
          rcases b7 with q | q
          · omega
          · exact absurd a2 q
        · exact z
      rcases rd_isDigit hT b4 with ⟨c1, c2⟩ | ⟨c1, c2⟩
      · rw [c1]
        simp only [bnd1_n, if_neg ne10]
        have hm5 : m = 5 := by
          rcases b7 with q | q
          · exact q
          · exact absurd c2 q
        subst hm5
        obtain ⟨σ2, f1, f2⟩ := rd_fail b4 2 (by decide)
        refine ⟨.inl (2, p + 5), m6 d p (fun i hi => ?_), σ2, ?_, f2⟩
        · rcases (show i < 5 ∨ i = 5 by omega) with z | rfl
          · exact b6 i z
          · exact c2
        · rw [show (2 : Int32) = nI 2 from rfl, f1]
          rfl
      · rw [c1]
        simp only [bnd1_n, if_true]
        obtain ⟨σ2, f1, f2, f3⟩ := b4.put hT (by omega) 1
        obtain ⟨σ3, g1, g2, g3⟩ := f2.put hT (by omega) (dval tx p m)
        rw [f1]
        simp only [bnd1_n]
        rw [g1]
        simp only [bnd1_n, bnd2_n]
        refine ⟨.inr (p + m, lcst (dval tx p m)), m5 d p m hm1 b3 b6 c2, σ3, c + 1 + 1, grd_t (by decide), g2, by omega, by omega, by omega, fun j hj => ?_, ?_, fun z => absurd z (by decide)⟩
        · rw [g3, up1_n _ _ (by omega), f3, up1_n _ _ (by omega), b5]
        · refine (sem_num (by omega) (fun cd' hcd => ⟨by omega, Or.inl ⟨rfl, ?_, ?_, rfl⟩⟩)).up (hh2 5 d)
          · rw [hcd c (by omega) (by omega), g3, up1_n _ _ (by omega), f3, up1_s]
          · rw [hcd (c + 1) (by omega) (by omega), g3, up1_s]
    · rw [a1]
      simp only [bnd1_n, if_true]
      rcases one_s4 (N := N) (by omega) hT h with ⟨b1, b2⟩ | ⟨b1, b2⟩
      · rw [b1]
        simp only [bnd1_n, if_neg ne10]
        have hp : p < n := hT.lt (lix_pos b2).1
        obtain ⟨b, hb, eb⟩ := hT.2.1 p hp
        obtain ⟨σ0, z1, z2, z3⟩ := h.adv hp
        have hput : ∃ σ1, f_La_put_b σ 2 = some σ1 ∧ mI σ1 17 4 = nI p ∧ mI σ1 17 3 = nI n ∧ (∀ j, j < n → mI σ1 18 j = tx j) ∧ mI σ1 10 1 = nI (c + 1) ∧ mI σ1 11 = up1 (mI σ 11) c 2 := by
          obtain ⟨h1, h2, h3, h4, h5, h6⟩ := h
          refine ⟨sI (sI σ 11 c 2) 10 1 (nI (c + 1)), ?_, ?_, ?_, fun j hj => ?_, ?_, ?_⟩
          · unfold f_La_put_b
            rw [h4, if_neg (show ¬ (513 : Int32) ≤ nI c from nI_ge (b := 513) (by omega) (by decide)), grd_t (inb_j (by omega) (by decide)), nI_clamp (by omega)]
            simp only [letv]
            rw [mI_sIn _ _ _ (by decide), h4, nI_1]
          · rw [mI_sIn _ _ _ (by decide), mI_sIn _ _ _ (by decide)]; exact h1
          · rw [mI_sIn _ _ _ (by decide), mI_sIn _ _ _ (by decide)]; exact h2
          · rw [mI_sIn _ _ _ (by decide), mI_sIn _ _ _ (by decide)]; exact h3 j hj
          · rw [sI_s]
          · rw [mI_sIn _ _ _ (by decide), mI_sI]
        obtain ⟨σ1, f1, k1, k2, k3, k4, k5⟩ := hput
        have hs1 : f_Rd_sign σ1 = some (tx p) := by
          unfold f_Rd_sign
          rw [k1, k2, if_neg (nI_pos (by omega)), if_neg (nI_ge hp (by omega)), grd_t (inb_j (by omega) (by decide)), nI_clamp (by omega), k3 p hp]
        rw [f1]
        simp only [bnd1_n]
        rw [hs1]
        simp only [bnd1_n]
        rw [eb, (enc_b ⟨b, hb⟩).1, lix_ix (by omega) hb (by rw [← eb]; exact b2), ← eb]
        simp only [bnd1_n]
        have hput2 : f_La_put_b σ1 (nI (lix (tx p))) = some (sI (sI σ1 11 (c + 1) (nI (lix (tx p)))) 10 1 (nI (c + 1 + 1))) := by
          unfold f_La_put_b
          rw [k4, if_neg (show ¬ (513 : Int32) ≤ nI (c + 1) from nI_ge (b := 513) (by omega) (by decide)), grd_t (inb_j (by omega) (by decide)), nI_clamp (by omega)]
          simp only [letv]
          rw [mI_sIn _ _ _ (by decide), k4, nI_1]
        rw [hput2]
        simp only [bnd1_n, letv]
        refine ⟨.inr (p + 1, fun F => some (F (lix (tx p)))), m7 d p b2, _, c + 1 + 1, rfl, ⟨?_, ?_, fun j hj => ?_, ?_, by omega, by omega⟩, by omega, by omega, by omega, fun j hj => ?_, ?_, fun z => absurd z (by decide)⟩
        · rw [sI_s, mI_sIn _ _ _ (by decide), mI_sIn _ _ _ (by decide), k1, nI_1]
        · rw [sI_n _ _ (by omega), mI_sIn _ _ _ (by decide), mI_sIn _ _ _ (by decide)]; exact k2
        · rw [mI_sIn _ _ _ (by decide), mI_sIn _ _ _ (by decide), mI_sIn _ _ _ (by decide)]; exact k3 j hj
        · rw [mI_sIn _ _ _ (by decide), sI_s]
        · rw [mI_sIn _ _ _ (by decide), mI_sIn _ _ _ (by decide), mI_sI, up1_n _ _ (by omega), k5, up1_n _ _ (by omega)]
        · refine (sem_fact (by omega) b2 (fun cd' hcd => ⟨by omega, Or.inr (Or.inl ⟨rfl, ?_, ?_, rfl⟩)⟩)).up (hh2 5 d)
          · rw [hcd c (by omega) (by omega), mI_sIn _ _ _ (by decide), mI_sIn _ _ _ (by decide), mI_sI, up1_n _ _ (by omega), k5, up1_s]
          · rw [hcd (c + 1) (by omega) (by omega), mI_sIn _ _ _ (by decide), mI_sIn _ _ _ (by decide), mI_sI, up1_s]
      · rw [b1]
        simp only [bnd1_n, if_true]
        obtain ⟨σ1, f1, f2⟩ := rd_fail h 1 (by decide)
        refine ⟨.inl (1, p), m8 d p e91 a2 ?_, σ1, ?_, f2⟩
        · have : lix (tx p) ≤ 9 := by
            unfold lix
            repeat' split
            all_goals omega
          omega
        · rw [show (1 : Int32) = nI 1 from rfl, f1]
          rfl
def LOut (n : Nat) (tx : Nat → Int32) (R : Option ((Int32 × Mem) ⊕ Mem)) (σ : Mem) (t d s c p : Nat) (o : Out) : Prop := match o with
  | .inl (k, q) => ∃ σ', R = some (.inl (0, σ')) ∧ FT n σ' k q
  | .inr (q, g) => ∃ σ' c', R = some (.inr σ') ∧ CS n tx σ' q c' ∧ p ≤ q ∧ c ≤ c' ∧ c' + 2 * p ≤ c + 2 * q ∧ (∀ j, j < s → mI σ' 11 j = mI σ 11 j) ∧ SemX DC (mI σ' 11) s c' (hh t d) g
theorem isMd_ne {c : Int32} (h : isMd c) : c ≠ -1 := fun e => by rw [e] at h; exact absurd h (by decide)
theorem cl_TermL {N n d : Nat} {tx : Nat → Int32} {M : MT} {G : GT} (hN : 1000 < N) (hT : TX n tx) (hM : CloT tx M) (hd : d ≤ 6) (hG : GSpec n tx M G 5 d) : ∀ (r k i : Nat) (σ : Mem) (p c s : Nat) (g : DN), n - p ≤ r → r < k → i ≤ p → s < c → CS n tx σ p c → SemX DC (mI σ 11) s c (hh 4 d) g → ∃ o, M 7 g d p o ∧ LOut n tx (L_Rd_readTerm_l12 N G (nI d) k (nI i) σ) σ 4 d s c p o := by
  obtain ⟨-, -, m1, m2, m3⟩ := hM
  have hn := hT.1
  intro r
  induction r with
  | zero =>
    intro k i σ p c s g hr hk hi hs h hg
    obtain ⟨k, rfl⟩ : ∃ z, k = z + 1 := ⟨k - 1, by omega⟩
    have hp : p = n := by have := h.2.2.2.2.1; omega
    have e : tx p = -1 := hT.2.2 p (by omega)
    have hno : ¬ isMd (tx p) := fun z => isMd_ne z e
    refine ⟨.inr (p, g), m1 g d p hno, σ, c, ?_, h, by omega, by omega, by omega, fun j hj => rfl, hg⟩
    show B_Rd_readTerm_l12 N G (nI d) _ (nI i) σ = _
    unfold B_Rd_readTerm_l12
    rw [if_neg (show ¬ (240 : Int32) < nI i from nI_nlt (a := 240) (by omega) (by decide))]
    rcases one_s3 (N := N) (by omega) hT h with ⟨b1, b2⟩ | ⟨b1, b2⟩
    · exact absurd b2 hno
    · rw [b1]
      rfl
  | succ r ih =>
    intro k i σ p c s g hr hk hi hs h hg
    obtain ⟨k, rfl⟩ : ∃ z, k = z + 1 := ⟨k - 1, by omega⟩
    have hpn : p ≤ n := h.2.2.2.2.1
    have hc2 : c ≤ 2 * p := h.2.2.2.2.2
    show ∃ o, M 7 g d p o ∧ LOut n tx (B_Rd_readTerm_l12 N G (nI d) (L_Rd_readTerm_l12 N G (nI d) k) (nI i) σ) σ 4 d s c p o
    unfold B_Rd_readTerm_l12
    rw [if_neg (show ¬ (240 : Int32) < nI i from nI_nlt (a := 240) (by omega) (by decide))]
    rcases one_s3 (N := N) (by omega) hT h with ⟨b1, b2⟩ | ⟨b1, b2⟩
    · have hp : p < n := hT.lt (isMd_ne b2)
      rw [b1]
      simp only [bnd1_n, if_neg ne10]
      rw [rd_sign hT h]
      simp only [bnd1_n]
      obtain ⟨σ1, a1, a2, a3⟩ := h.adv hp
      simp only [letv, a1]
      obtain ⟨o2, q1, q2⟩ := hG σ1 (p + 1) c a2
      have q1 : M 5 nul d (p + 1) o2 := q1
      match o2, q1, q2 with
      | .inl b, q1, q2 =>
        obtain ⟨kk, q⟩ := b
        obtain ⟨σ2, g1, g2⟩ := q2
        refine ⟨.inl (kk, q), m2 g d p (kk, q) b2 q1, σ2, ?_, g2⟩
        rw [g1]
        rfl
      | .inr (q, gg), q1, q2 =>
        obtain ⟨σ2, c2, g1, g2, g3, g4, g5, g6, g7, -⟩ := q2
        rw [g1]
        simp only [bnd2_n, if_neg ne10]
        obtain ⟨σ3, f1, f2, f3⟩ := g2.put hT (by omega) (tx p)
        rw [f1]
        simp only [bnd1_n, nI_1]
        have e0 : ∀ j, j < c → mI σ3 11 j = mI σ 11 j := fun j hj => by rw [f3, up1_n _ _ (by omega), g6 j hj, a3]
        have S1 : SemX DC (mI σ3 11) s c (hh 4 d) g := hg.k (fun j h1 h2 => e0 j h2)
        have S2 : SemX DC (mI σ3 11) c c2 (hh 5 d) gg := g7.k (fun j h1 h2 => by rw [f3, up1_n _ _ (by omega)])
        have S3 : SemX DC (mI σ3 11) s (c2 + 1) (hh 4 d) (binD (tx p) g gg) := sem_bin S1 S2 (Nat.le_refl _) (by unfold hh; simp) (hh2 5 d) (by omega) (by omega) (by omega) (fun cd' hcd => ⟨by have := g2.2.2.2.2.2; have := g2.2.2.2.2.1; omega, Or.inr (Or.inr (Or.inl ⟨rfl, by rw [hcd c2 (by omega) (by omega), f3, up1_s], Or.inl b2, rfl⟩))⟩)
        obtain ⟨o, r1, r2⟩ := ih k (i + 1) σ3 q (c2 + 1) s (binD (tx p) g gg) (by omega) (by omega) (by omega) (by omega) f2 S3
        refine ⟨o, m3 g d p q gg o b2 q1 r1, ?_⟩
        match o, r2 with
        | .inl b, r2 => exact r2
        | .inr (q', g'), r2 =>
          obtain ⟨σ4, c4, t1, t2, t3, t4, t5, t6, t7⟩ := r2
          exact ⟨σ4, c4, t1, t2, by omega, by omega, by omega, fun j hj => (t6 j hj).trans (e0 j (by omega)), t7⟩
    · refine ⟨.inr (p, g), m1 g d p b2, σ, c, ?_, h, by omega, by omega, by omega, fun j hj => rfl, hg⟩
      rw [b1]
      rfl
theorem cl_Term {N n d : Nat} {tx : Nat → Int32} {M : MT} {G : GT} (hN : 1000 < N) (hT : TX n tx) (hM : CloT tx M) (hd : d ≤ 6) (hG : GSpec n tx M G 5 d) (σ : Mem) (p c : Nat) (h : CS n tx σ p c) : ∃ o, M 4 nul d p o ∧ COut n tx (f_Rd_readTerm N G σ (nI d)) σ 4 d c p o := by
  have hM' := hM
  obtain ⟨m1, m2, -⟩ := hM
  have hn := hT.1
  unfold f_Rd_readTerm
  obtain ⟨o2, q1, q2⟩ := hG σ p c h
  have q1 : M 5 nul d p o2 := q1
  match o2, q1, q2 with
  | .inl b, q1, q2 =>
    obtain ⟨kk, q⟩ := b
    obtain ⟨σ2, g1, g2⟩ := q2
    refine ⟨.inl (kk, q), m1 d p (kk, q) q1, σ2, ?_, g2⟩
    rw [g1]
    rfl
  | .inr (q, gg), q1, q2 =>
    obtain ⟨σ2, c2, g1, g2, g3, g4, g5, g6, g7, -⟩ := q2
    rw [g1]
    simp only [bnd2_n, if_neg ne10]
    obtain ⟨o, r1, r2⟩ := cl_TermL hN hT hM' hd hG (n - q) N 0 σ2 q c2 c gg (Nat.le_refl _) (by omega) (by omega) (by omega) g2 (g7.up (by unfold hh; simp))
    refine ⟨o, m2 d p q gg o q1 r1, ?_⟩
    have r2 : LOut n tx (L_Rd_readTerm_l12 N G (nI d) N 0 σ2) σ2 4 d c c2 q o := r2
    match o, r2 with
    | .inl b, r2 =>
      obtain ⟨kk, q'⟩ := b
      obtain ⟨σ3, t1, t2⟩ := r2
      refine ⟨σ3, ?_, t2⟩
      rw [t1]
      rfl
    | .inr (q', g'), r2 =>
      obtain ⟨σ4, c4, t1, t2, t3, t4, t5, t6, t7⟩ := r2
      refine ⟨σ4, c4, ?_, t2, by omega, by omega, by omega, fun j hj => (t6 j hj).trans (g6 j hj), t7, fun z => absurd z (by decide)⟩
      rw [t1]
      rfl
theorem isPm_ne {c : Int32} (h : isPm c) : c ≠ -1 := fun e => by rw [e] at h; exact absurd h (by decide)
theorem cl_SumL {N n d : Nat} {tx : Nat → Int32} {M : MT} {G : GT} (hN : 1000 < N) (hT : TX n tx) (hM : CloS tx M) (hd : d ≤ 6) (hG : GSpec n tx M G 4 d) : ∀ (r k i : Nat) (σ : Mem) (p c s : Nat) (g : DN), n - p ≤ r → r < k → i ≤ p → s < c → CS n tx σ p c → SemX DC (mI σ 11) s c (hh 3 d) g → ∃ o, M 6 g d p o ∧ LOut n tx (L_Rd_readSum_l12 N G (nI d) k (nI i) σ) σ 3 d s c p o := by
  obtain ⟨-, -, m1, m2, m3⟩ := hM
  have hn := hT.1
  intro r
  induction r with
  | zero =>
    intro k i σ p c s g hr hk hi hs h hg
    obtain ⟨k, rfl⟩ : ∃ z, k = z + 1 := ⟨k - 1, by omega⟩
    have hp : p = n := by have := h.2.2.2.2.1; omega
    have e : tx p = -1 := hT.2.2 p (by omega)
    have hno : ¬ isPm (tx p) := fun z => isPm_ne z e
    refine ⟨.inr (p, g), m1 g d p hno, σ, c, ?_, h, by omega, by omega, by omega, fun j hj => rfl, hg⟩
    show B_Rd_readSum_l12 N G (nI d) _ (nI i) σ = _
    unfold B_Rd_readSum_l12
    rw [if_neg (show ¬ (240 : Int32) < nI i from nI_nlt (a := 240) (by omega) (by decide))]
    rcases one_s2 (N := N) (by omega) hT h with ⟨b1, b2⟩ | ⟨b1, b2⟩
    · exact absurd b2 hno
    · rw [b1]
      rfl
  | succ r ih =>
    intro k i σ p c s g hr hk hi hs h hg
    obtain ⟨k, rfl⟩ : ∃ z, k = z + 1 := ⟨k - 1, by omega⟩
    have hpn : p ≤ n := h.2.2.2.2.1
    have hc2 : c ≤ 2 * p := h.2.2.2.2.2
    show ∃ o, M 6 g d p o ∧ LOut n tx (B_Rd_readSum_l12 N G (nI d) (L_Rd_readSum_l12 N G (nI d) k) (nI i) σ) σ 3 d s c p o
    unfold B_Rd_readSum_l12
    rw [if_neg (show ¬ (240 : Int32) < nI i from nI_nlt (a := 240) (by omega) (by decide))]
    rcases one_s2 (N := N) (by omega) hT h with ⟨b1, b2⟩ | ⟨b1, b2⟩
    · have hp : p < n := hT.lt (isPm_ne b2)
      rw [b1]
      simp only [bnd1_n, if_neg ne10]
      rw [rd_sign hT h]
      simp only [bnd1_n]
      obtain ⟨σ1, a1, a2, a3⟩ := h.adv hp
      simp only [letv, a1]
      obtain ⟨o2, q1, q2⟩ := hG σ1 (p + 1) c a2
      have q1 : M 4 nul d (p + 1) o2 := q1
      match o2, q1, q2 with
      | .inl b, q1, q2 =>
        obtain ⟨kk, q⟩ := b
        obtain ⟨σ2, g1, g2⟩ := q2
        refine ⟨.inl (kk, q), m2 g d p (kk, q) b2 q1, σ2, ?_, g2⟩
        rw [g1]
        rfl
      | .inr (q, gg), q1, q2 =>
        obtain ⟨σ2, c2, g1, g2, g3, g4, g5, g6, g7, -⟩ := q2
        rw [g1]
        simp only [bnd2_n, if_neg ne10]
        obtain ⟨σ3, f1, f2, f3⟩ := g2.put hT (by omega) (tx p)
        rw [f1]
        simp only [bnd1_n, nI_1]
        have e0 : ∀ j, j < c → mI σ3 11 j = mI σ 11 j := fun j hj => by rw [f3, up1_n _ _ (by omega), g6 j hj, a3]
        have S1 : SemX DC (mI σ3 11) s c (hh 3 d) g := hg.k (fun j h1 h2 => e0 j h2)
        have S2 : SemX DC (mI σ3 11) c c2 (hh 4 d) gg := g7.k (fun j h1 h2 => by rw [f3, up1_n _ _ (by omega)])
        have S3 : SemX DC (mI σ3 11) s (c2 + 1) (hh 3 d) (binD (tx p) g gg) := sem_bin S1 S2 (Nat.le_refl _) (by unfold hh; simp) (hh2 4 d) (by omega) (by omega) (by omega) (fun cd' hcd => ⟨by have := g2.2.2.2.2.2; have := g2.2.2.2.2.1; omega, Or.inr (Or.inr (Or.inl ⟨rfl, by rw [hcd c2 (by omega) (by omega), f3, up1_s], Or.inr (Or.inl b2), rfl⟩))⟩)
        obtain ⟨o, r1, r2⟩ := ih k (i + 1) σ3 q (c2 + 1) s (binD (tx p) g gg) (by omega) (by omega) (by omega) (by omega) f2 S3
        refine ⟨o, m3 g d p q gg o b2 q1 r1, ?_⟩
        match o, r2 with
        | .inl b, r2 => exact r2
        | .inr (q', g'), r2 =>
          obtain ⟨σ4, c4, t1, t2, t3, t4, t5, t6, t7⟩ := r2
          exact ⟨σ4, c4, t1, t2, by omega, by omega, by omega, fun j hj => (t6 j hj).trans (e0 j (by omega)), t7⟩
    · refine ⟨.inr (p, g), m1 g d p b2, σ, c, ?_, h, by omega, by omega, by omega, fun j hj => rfl, hg⟩
      rw [b1]
      rfl
theorem cl_Sum {N n d : Nat} {tx : Nat → Int32} {M : MT} {G : GT} (hN : 1000 < N) (hT : TX n tx) (hM : CloS tx M) (hd : d ≤ 6) (hG : GSpec n tx M G 4 d) (σ : Mem) (p c : Nat) (h : CS n tx σ p c) : ∃ o, M 3 nul d p o ∧ COut n tx (f_Rd_readSum N G σ (nI d)) σ 3 d c p o := by
  have hM' := hM
  obtain ⟨m1, m2, -⟩ := hM
  have hn := hT.1
  unfold f_Rd_readSum
  obtain ⟨o2, q1, q2⟩ := hG σ p c h
  have q1 : M 4 nul d p o2 := q1
  match o2, q1, q2 with
  | .inl b, q1, q2 =>
    obtain ⟨kk, q⟩ := b
    obtain ⟨σ2, g1, g2⟩ := q2
    refine ⟨.inl (kk, q), m1 d p (kk, q) q1, σ2, ?_, g2⟩
    rw [g1]
    rfl
  | .inr (q, gg), q1, q2 =>
    obtain ⟨σ2, c2, g1, g2, g3, g4, g5, g6, g7, -⟩ := q2
    rw [g1]
    simp only [bnd2_n, if_neg ne10]
    obtain ⟨o, r1, r2⟩ := cl_SumL hN hT hM' hd hG (n - q) N 0 σ2 q c2 c gg (Nat.le_refl _) (by omega) (by omega) (by omega) g2 (g7.up (by unfold hh; simp))
    refine ⟨o, m2 d p q gg o q1 r1, ?_⟩
    have r2 : LOut n tx (L_Rd_readSum_l12 N G (nI d) N 0 σ2) σ2 3 d c c2 q o := r2
    match o, r2 with
    | .inl b, r2 =>
      obtain ⟨kk, q'⟩ := b
      obtain ⟨σ3, t1, t2⟩ := r2
      refine ⟨σ3, ?_, t2⟩
      rw [t1]
      rfl
    | .inr (q', g'), r2 =>
      obtain ⟨σ4, c4, t1, t2, t3, t4, t5, t6, t7⟩ := r2
      refine ⟨σ4, c4, ?_, t2, by omega, by omega, by omega, fun j hj => (t6 j hj).trans (g6 j hj), t7, fun z => absurd z (by decide)⟩
      rw [t1]
      rfl
