-- ===== what must be taken down =====
def sbs (S T : Nat) : Prop := ∀ j, S.testBit j = true → T.testBit j = true
theorem cnt_mono {f g : Nat → Bool} : ∀ m, (∀ i, i < m → f i = true → g i = true) → cntB f m ≤ cntB g m ∧ ((∃ i, i < m ∧ f i = false ∧ g i = true) → cntB f m < cntB g m) := by
  intro m
  induction m with
  | zero => intro _; exact ⟨Nat.le_refl _, fun ⟨i, hi, _⟩ => absurd hi (Nat.not_lt_zero i)⟩
  | succ m ih =>
    intro h
    obtain ⟨h1, h2⟩ := ih (fun i hi => h i (by omega))
    have hm := h m (by omega)
    rw [cntB_succ, cntB_succ]
    refine ⟨?_, fun ⟨i, hi, q1, q2⟩ => ?_⟩
    · cases hf : f m with
      | false => cases g m <;> simp <;> omega
      | true => rw [hm hf]; simp; omega
    · rcases (show i < m ∨ i = m by omega) with z | rfl
      · have := h2 ⟨i, z, q1, q2⟩
        cases hf : f m with
        | false => cases g m <;> simp <;> omega
        | true => rw [hm hf]; simp; omega
      · rw [q1, q2]
        simp
        omega
theorem bits_lt {S T : Nat} (h : sbs S T) (hT : T < 65536) (hne : S ≠ T) : pcR S 16 < pcR T 16 := by
  rw [pcR_cnt, pcR_cnt]
  refine (cnt_mono 16 (fun i _ => h i)).2 ?_
  by_cases c : ∃ i, i < 16 ∧ S.testBit i = false ∧ T.testBit i = true
  · exact c
  · exfalso
    apply hne
    apply Nat.eq_of_testBit_eq
    intro i
    have hT16 : 16 ≤ i → T.testBit i = false := fun hi => Nat.testBit_lt_two_pow (Nat.lt_of_lt_of_le hT (Nat.pow_le_pow_right (n := 2) (by decide) hi))
    cases hs : S.testBit i with
    | true => exact (h i hs).symm
    | false =>
      cases ht : T.testBit i with
      | false => rfl
      | true =>
        exfalso
        by_cases hi : i < 16
        · exact c ⟨i, hi, hs, ht⟩
        · rw [hT16 (by omega)] at ht; cases ht
theorem bits_le {S T : Nat} (h : sbs S T) : pcR S 16 ≤ pcR T 16 := by
  rw [pcR_cnt, pcR_cnt]
  exact (cnt_mono 16 (fun i _ => h i)).1
theorem andnS {w S : Nat} (hw : w < 65536) : ∃ w' : Nat, w' ≤ w ∧ nI w &&& (nI S ^^^ (-1)) = nI w' ∧ ∀ j, w'.testBit j = (w.testBit j && !S.testBit j) := by
  have h := fa_and w (nI S ^^^ (-1)).toBitVec.toNat
  rw [← of32 (nI S ^^^ (-1))] at h
  refine ⟨_, Nat.and_le_left, h, fun j => ?_⟩
  rw [Nat.testBit_and]
  by_cases hj : j < 16
  · have : (nI S ^^^ (-1)).toBitVec.toNat.testBit j = !S.testBit j := by
      show (BitVec.ofNat 32 S ^^^ (-1 : Int32).toBitVec).toNat.testBit j = _
      rw [BitVec.testBit_toNat, BitVec.getLsbD_xor, BitVec.getLsbD_ofNat]
      have e : (-1 : Int32).toBitVec = BitVec.allOnes 32 := by decide
      rw [e, BitVec.getLsbD_allOnes]
      simp [show j < 32 by omega]
    rw [this]
  · have : w.testBit j = false := Nat.testBit_lt_two_pow (Nat.lt_of_lt_of_le hw (Nat.pow_le_pow_right (n := 2) (by decide) (show 16 ≤ j by omega)))
    rw [this]
    rfl
theorem andn0 {w S : Nat} (hw : w < 65536) : (nI w &&& (nI S ^^^ (-1)) = 0) ↔ sbs w S := by
  obtain ⟨w', h1, h2, h3⟩ := andnS (S := S) hw
  rw [h2, nI_z (by omega)]
  constructor
  · intro e j hj
    have := h3 j
    rw [e, Nat.zero_testBit, hj] at this
    cases hs : S.testBit j with
    | true => rfl
    | false => rw [hs] at this; cases this
  · intro h
    apply Nat.eq_of_testBit_eq
    intro j
    rw [h3 j, Nat.zero_testBit]
    cases hw' : w.testBit j with
    | false => rfl
    | true => rw [h j hw']; rfl
-- the set that grows
section Grow
variable (A : Nat → Bool) (H : Nat → Option Nat) (U : Nat → Nat)
/-- held by a house that stays -/
def hld (H : Nat → Option Nat) (S k : Nat) : Bool := match H k with
  | none => false
  | some c => !S.testBit c
def gStep (S k : Nat) : Nat := if A k && !hld H S k then S ||| U k else S
def gRound (S : Nat) : Nat → Nat
  | 0 => S
  | k + 1 => gStep A H U (gRound S k) k
def gAll : Nat → Nat
  | 0 => 0
  | r + 1 => gRound A H U (gAll r) 16
def Sat (S : Nat) : Prop := ∀ k, k < 16 → A k = true → hld H S k = true ∨ sbs (U k) S
theorem sbs_or {a b : Nat} : sbs a (a ||| b) := fun j h => by rw [Nat.testBit_or, h]; rfl
theorem gStep_up (S k : Nat) : sbs S (gStep A H U S k) := by
  unfold gStep
  by_cases c : (A k && !hld H S k) = true
  · rw [if_pos c]; exact sbs_or
  · rw [if_neg c]; exact fun j h => h
theorem gRound_up (S : Nat) : ∀ k, sbs S (gRound A H U S k) := by
  intro k
  induction k with
  | zero => exact fun j h => h
  | succ k ih => exact fun j h => gStep_up A H U _ k j (ih j h)
theorem gRound_mono (S : Nat) {k : Nat} : ∀ d, sbs (gRound A H U S k) (gRound A H U S (k + d)) := by
  intro d
  induction d with
  | zero => exact fun j h => h
  | succ d ih => exact fun j h => gStep_up A H U _ (k + d) j (ih j h)
theorem hld_mono {S T k : Nat} (h : sbs S T) (hh : hld H S k = false) : hld H T k = false := by
  unfold hld at hh ⊢
  cases hk : H k with
  | none => rfl
  | some c =>
    rw [hk] at hh
    simp only [Bool.not_eq_false'] at hh ⊢
    exact h c hh
theorem gStep_in {S T k : Nat} (hT : Sat A H U T) (hk : k < 16) (h : sbs S T) : sbs (gStep A H U S k) T := by
  unfold gStep
  by_cases c : (A k && !hld H S k) = true
  · rw [if_pos c]
    simp only [Bool.and_eq_true, Bool.not_eq_true'] at c
    have hu : sbs (U k) T := by
      rcases hT k hk c.1 with q | q
      · rw [hld_mono H h c.2] at q; cases q
      · exact q
    intro j hj
    rw [Nat.testBit_or] at hj
    cases hs : S.testBit j with
    | true => exact h j hs
    | false => rw [hs] at hj; exact hu j hj
  · rw [if_neg c]; exact h
theorem gAll_in {T : Nat} (hT : Sat A H U T) : ∀ r, sbs (gAll A H U r) T := by
  have hr : ∀ S, sbs S T → ∀ k, k ≤ 16 → sbs (gRound A H U S k) T := by
    intro S h k
    induction k with
    | zero => intro _; exact h
    | succ k ih => intro hk; exact gStep_in A H U hT (by omega) (ih (by omega))
  intro r
  induction r with
  | zero => intro j h; rw [show gAll A H U 0 = 0 from rfl, Nat.zero_testBit] at h; cases h
  | succ r ih => exact hr _ ih 16 (Nat.le_refl _)
theorem gAll_lt {n : Nat} (hU : ∀ k, k < 16 → U k < 2 ^ n) : ∀ r, gAll A H U r < 2 ^ n := by
  have hs : ∀ S k, k < 16 → S < 2 ^ n → gStep A H U S k < 2 ^ n := fun S k hk h => by
    unfold gStep
    by_cases c : (A k && !hld H S k) = true
    · rw [if_pos c]; exact Nat.or_lt_two_pow h (hU k hk)
    · rw [if_neg c]; exact h
  have hr : ∀ S, S < 2 ^ n → ∀ k, k ≤ 16 → gRound A H U S k < 2 ^ n := by
    intro S h k
    induction k with
    | zero => intro _; exact h
    | succ k ih => intro hk; exact hs _ k (by omega) (ih (by omega))
  intro r
  induction r with
  | zero => exact Nat.pow_pos (by decide)
  | succ r ih => exact hr _ ih 16 (Nat.le_refl _)
theorem gAll_fix {n : Nat} (hn : n ≤ 16) (hU : ∀ k, k < 16 → U k < 2 ^ n) : gRound A H U (gAll A H U 17) 16 = gAll A H U 17 := by
  have hlt := gAll_lt A H U hU
  have h16 : ∀ r, gAll A H U r < 65536 := fun r => Nat.lt_of_lt_of_le (hlt r) (Nat.pow_le_pow_right (n := 2) (by decide) hn)
  have key : ∀ r, (∃ i, i < r ∧ gAll A H U (i + 1) = gAll A H U i) ∨ r ≤ pcR (gAll A H U r) 16 := by
    intro r
    induction r with
    | zero => exact Or.inr (Nat.zero_le _)
    | succ r ih =>
      rcases ih with ⟨i, hi, e⟩ | h
      · exact Or.inl ⟨i, by omega, e⟩
      · by_cases e : gAll A H U (r + 1) = gAll A H U r
        · exact Or.inl ⟨r, by omega, e⟩
        · right
          have := bits_lt (S := gAll A H U r) (T := gAll A H U (r + 1)) (gRound_up A H U _ 16) (h16 _) (fun z => e z.symm)
          omega
  rcases key 17 with ⟨i, hi, e⟩ | h
  · have hst : ∀ d, gAll A H U (i + d) = gAll A H U i := by
      intro d
      induction d with
      | zero => rfl
      | succ d ih =>
        show gRound A H U (gAll A H U (i + d)) 16 = _
        rw [ih]
        exact e
    have := hst (17 - i)
    rw [show i + (17 - i) = 17 by omega] at this
    rw [this]
    exact e
  · have := pcR_le (gAll A H U 17)
    omega
theorem sbs_eq {S T : Nat} (h1 : sbs S T) (h2 : sbs T S) : S = T := by
  apply Nat.eq_of_testBit_eq
  intro j
  cases hs : S.testBit j with
  | true => exact (h1 j hs).symm
  | false =>
    cases ht : T.testBit j with
    | false => rfl
    | true => rw [h2 j ht] at hs; cases hs
theorem gAll_sat {n : Nat} (hn : n ≤ 16) (hU : ∀ k, k < 16 → U k < 2 ^ n) : Sat A H U (gAll A H U 17) := by
  have hfix := gAll_fix A H U hn hU
  intro k hk hA
  obtain ⟨G, hG⟩ : ∃ G, G = gAll A H U 17 := ⟨_, rfl⟩
  rw [← hG] at hfix ⊢
  have hs1 : gRound A H U G k = G := sbs_eq (fun j h => by
    have := gRound_mono A H U G (k := k) (16 - k) j h
    rw [show k + (16 - k) = 16 by omega, hfix] at this
    exact this) (gRound_up A H U G k)
  have hs2 : gRound A H U G (k + 1) = G := sbs_eq (fun j h => by
    have := gRound_mono A H U G (k := k + 1) (16 - (k + 1)) j h
    rw [show k + 1 + (16 - (k + 1)) = 16 by omega, hfix] at this
    exact this) (gRound_up A H U G (k + 1))
  have hs3 : gStep A H U G k = G := by
    have : gStep A H U (gRound A H U G k) k = G := hs2
    rw [hs1] at this
    exact this
  cases hh : hld H G k with
  | true => exact Or.inl rfl
  | false =>
    right
    unfold gStep at hs3
    rw [hA, hh, if_pos (by decide)] at hs3
    intro j hj
    rw [← hs3, Nat.testBit_or, hj, Bool.or_true]
/-- the reference's search -/
def tbS (P : Nat → Bool) : Nat → Option Nat
  | 0 => none
  | i + 1 => match tbS P i with
    | none => if P i then some i else none
    | some b => if pcR i 16 < pcR b 16 ∧ P i = true then some i else some b
theorem tbS_succ (P : Nat → Bool) (i : Nat) : tbS P (i + 1) = match tbS P i with
    | none => if P i then some i else none
    | some b => if pcR i 16 < pcR b 16 ∧ P i = true then some i else some b := rfl
theorem tbS_ok (P : Nat → Bool) : ∀ i b, tbS P i = some b → b < i ∧ P b = true := by
  intro i
  induction i with
  | zero => intro b h; cases h
  | succ i ih =>
    intro b h
    rw [tbS_succ] at h
    cases ht : tbS P i with
    | none =>
      rw [ht] at h
      simp only at h
      by_cases c : P i = true
      · rw [if_pos c] at h; cases h; exact ⟨by omega, c⟩
      · rw [if_neg c] at h; cases h
    | some d =>
      rw [ht] at h
      simp only at h
      by_cases c : pcR i 16 < pcR d 16 ∧ P i = true
      · rw [if_pos c] at h; cases h; exact ⟨by omega, c.2⟩
      · rw [if_neg c] at h
        have e := Option.some.inj h
        obtain ⟨q1, q2⟩ := ih d ht
        rw [← e]
        exact ⟨by omega, q2⟩
theorem tbS_G {P : Nat → Bool} {G : Nat} (hP : P G = true) (hm : ∀ S, S < 65536 → P S = true → sbs G S) : ∀ i, i ≤ 65536 → G < i → tbS P i = some G := by
  intro i
  induction i with
  | zero => intro _ h; omega
  | succ i ih =>
    intro hi hG
    rw [tbS_succ]
    rcases (show G < i ∨ G = i by omega) with q | rfl
    · rw [ih (by omega) q]
      simp only
      rw [if_neg]
      intro z
      have := bits_le (hm i (by omega) z.2)
      omega
    · cases ht : tbS P G with
      | none =>
        simp only
        rw [if_pos hP]
      | some b =>
        obtain ⟨q1, q2⟩ := tbS_ok P G b ht
        simp only
        rw [if_pos ⟨bits_lt (hm b (by omega) q2) (by omega) (by omega), hP⟩]
end Grow
