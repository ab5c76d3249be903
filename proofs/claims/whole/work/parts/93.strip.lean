-- ===== strips: what both sides come to =====
/-- what it costs to be at n next, coming from sq -/
def cst (T : Nat → Nat) (sq n : Nat) : Nat := if 268435456 ≤ T n then 268435456 else if n = sq then T n else T n + 1
theorem cst_le {T : Nat → Nat} {sq n : Nat} (h : T n ≤ 268435456) : cst T sq n ≤ 268435456 := by
  unfold cst
  by_cases c : 268435456 ≤ T n
  · rw [if_pos c]; omega
  · rw [if_neg c]
    by_cases e : n = sq
    · rw [if_pos e]; omega
    · rw [if_neg e]; omega
/-- the best square next and its cost, of the first i sides and the square itself -/
def bA (T : Nat → Nat) (sq : Nat) : Nat → Nat × Nat
  | 0 => (sq, cst T sq sq)
  | i + 1 => match bsN sq i with
    | none => bA T sq i
    | some n => if cst T sq n < (bA T sq i).2 ∨ (cst T sq n = (bA T sq i).2 ∧ n < (bA T sq i).1) then (n, cst T sq n) else bA T sq i
theorem bA_succ (T : Nat → Nat) (sq i : Nat) : bA T sq (i + 1) = match bsN sq i with
    | none => bA T sq i
    | some n => if cst T sq n < (bA T sq i).2 ∨ (cst T sq n = (bA T sq i).2 ∧ n < (bA T sq i).1) then (n, cst T sq n) else bA T sq i := rfl
theorem bA_ok (T : Nat → Nat) {sq : Nat} (hs : sq < 144) : ∀ i, (bA T sq i).1 < 144 ∧ (bA T sq i).2 = cst T sq (bA T sq i).1 ∧ ((bA T sq i).1 = sq ∨ ∃ k, k < i ∧ bsN sq k = some (bA T sq i).1) ∧ ∀ n, (n = sq ∨ ∃ k, k < i ∧ bsN sq k = some n) → (bA T sq i).2 < cst T sq n ∨ ((bA T sq i).2 = cst T sq n ∧ (bA T sq i).1 ≤ n) := by
  intro i
  induction i with
  | zero =>
    refine ⟨hs, rfl, Or.inl rfl, fun n h => ?_⟩
    rcases h with rfl | ⟨k, hk, -⟩
    · exact Or.inr ⟨rfl, Nat.le_refl _⟩
    · omega
  | succ i ih =>
    obtain ⟨h1, h2, h3, h4⟩ := ih
    rw [bA_succ]
    have mono : ∀ n, (∃ k, k < i ∧ bsN sq k = some n) → ∃ k, k < i + 1 ∧ bsN sq k = some n := fun n ⟨k, hk, e⟩ => ⟨k, by omega, e⟩
    cases hb : bsN sq i with
    | none =>
      refine ⟨h1, h2, h3.imp id (mono _), fun n h => h4 n (h.imp id ?_)⟩
      rintro ⟨k, hk, e⟩
      rcases (show k < i ∨ k = i by omega) with q | rfl
      · exact ⟨k, q, e⟩
      · rw [hb] at e; cases e
    | some m =>
      have hm := bsN_lt hs hb
      simp only
      by_cases c : cst T sq m < (bA T sq i).2 ∨ (cst T sq m = (bA T sq i).2 ∧ m < (bA T sq i).1)
      · rw [if_pos c]
        refine ⟨hm, rfl, Or.inr ⟨i, by omega, hb⟩, fun n h => ?_⟩
        show cst T sq m < cst T sq n ∨ (cst T sq m = cst T sq n ∧ m ≤ n)
        have hold : (n = sq ∨ ∃ k, k < i ∧ bsN sq k = some n) → cst T sq m < cst T sq n ∨ (cst T sq m = cst T sq n ∧ m ≤ n) := fun h => by
          have z := h4 n h
          revert z c
          generalize cst T sq m = x
          generalize cst T sq n = y
          generalize (bA T sq i).2 = C
          generalize (bA T sq i).1 = B
          intro c z
          omega
        rcases h with h | ⟨k, hk, e⟩
        · exact hold (Or.inl h)
        · rcases (show k < i ∨ k = i by omega) with q | rfl
          · exact hold (Or.inr ⟨k, q, e⟩)
          · rw [hb] at e; cases e
            exact Or.inr ⟨rfl, Nat.le_refl _⟩
      · rw [if_neg c]
        refine ⟨h1, h2, h3.imp id (mono _), fun n h => ?_⟩
        rcases h with h | ⟨k, hk, e⟩
        · exact h4 n (Or.inl h)
        · rcases (show k < i ∨ k = i by omega) with q | rfl
          · exact h4 n (Or.inr ⟨k, q, e⟩)
          · rw [hb] at e; cases e
            revert c
            generalize cst T sq m = x
            generalize (bA T sq k).2 = C
            generalize (bA T sq k).1 = B
            intro c
            omega
def nbr (sq n : Nat) : Prop := n = sq ∨ ∃ k, k < 4 ∧ bsN sq k = some n
theorem nbr5 {sq n : Nat} : nbr sq n ↔ ∃ k, k < 5 ∧ bsN sq k = some n := by
  constructor
  · rintro (rfl | ⟨k, hk, e⟩)
    · exact ⟨4, by decide, rfl⟩
    · exact ⟨k, by omega, e⟩
  · rintro ⟨k, hk, e⟩
    rcases (show k < 4 ∨ k = 4 by omega) with q | rfl
    · exact Or.inr ⟨k, q, e⟩
    · left
      have : bsN sq 4 = some sq := rfl
      rw [this] at e
      exact (Option.some.inj e).symm
/-- a price as a number -/
def pN (W : LW) (σ : Mem) (h sq : Nat) : Nat := (prc W σ h sq).toNatClampNeg
theorem pN_ok (W : LW) (σ : Mem) (h sq : Nat) : pN W σ h sq ≤ 99 ∧ prc W σ h sq = nI (pN W σ h sq) := by
  obtain ⟨w, hw, e⟩ := prc_in W σ h sq
  unfold pN
  rw [e, nI_clamp (by omega)]
  exact ⟨hw, rfl⟩
/-- costs to the end from a square of an hour; b: what comes behind it -/
def rT (W : LW) (σ : Mem) (h : Nat) (b : Nat → Nat) (sq : Nat) : Nat := if who σ h sq = 0 then 268435456 else if b sq < 268435456 then b sq + 16 * pN W σ h sq else 268435456
/-- the hours from the last (0) on -/
def sT (W : LW) (σ : Mem) (l : Nat) : Nat → Nat → Nat
  | 0 => rT W σ l (fun _ => 0)
  | d + 1 => rT W σ (l - (d + 1)) (fun sq => (bA (sT W σ l d) sq 4).2)
theorem bA_cst (T : Nat → Nat) (sq : Nat) : ∀ i, (bA T sq i).2 = cst T sq (bA T sq i).1 := by
  intro i
  induction i with
  | zero => rfl
  | succ i ihi =>
    rw [bA_succ]
    cases bsN sq i with
    | none => exact ihi
    | some n =>
      simp only
      by_cases q : cst T sq n < (bA T sq i).2 ∨ (cst T sq n = (bA T sq i).2 ∧ n < (bA T sq i).1)
      · rw [if_pos q]
      · rw [if_neg q]; exact ihi
/-- values of a row: at most d moves -/
def TOk2 (T : Nat → Nat) (d : Nat) : Prop := ∀ sq, T sq ≤ 268435456 ∧ (T sq < 268435456 → T sq % 16 ≤ d ∧ T sq ≤ 2000 * (d + 1))
theorem cst_ok {T : Nat → Nat} {d : Nat} (h : TOk2 T d) (hd : d ≤ 12) (sq n : Nat) : cst T sq n ≤ 268435456 ∧ (cst T sq n < 268435456 → cst T sq n % 16 ≤ d + 1 ∧ cst T sq n ≤ 2000 * (d + 1) + 1) := by
  obtain ⟨h1, h2⟩ := h n
  unfold cst
  by_cases c : 268435456 ≤ T n
  · rw [if_pos c]; omega
  · rw [if_neg c]
    have := h2 (by omega)
    by_cases e : n = sq
    · rw [if_pos e]; omega
    · rw [if_neg e]; omega
theorem rT_ok {W : LW} {σ : Mem} {h : Nat} {b : Nat → Nat} {d : Nat} (hd : d ≤ 12) (hb : ∀ sq, b sq < 268435456 → b sq % 16 ≤ d ∧ b sq ≤ 2000 * d + 1) : TOk2 (rT W σ h b) d := fun sq => by
  have hp := (pN_ok W σ h sq).1
  unfold rT
  by_cases c : who σ h sq = 0
  · rw [if_pos c]; omega
  · rw [if_neg c]
    by_cases c2 : b sq < 268435456
    · rw [if_pos c2]
      have := hb sq c2
      omega
    · rw [if_neg c2]; omega
theorem sT_ok (W : LW) (σ : Mem) (l : Nat) : ∀ d, d ≤ 12 → TOk2 (sT W σ l d) d := by
  intro d
  induction d with
  | zero => intro _; exact rT_ok (by decide) (fun sq _ => ⟨Nat.le_refl _, by decide⟩)
  | succ d ih =>
    intro hd
    have hT := ih (by omega)
    refine rT_ok hd (fun sq h => ?_)
    have e := bA_cst (sT W σ l d) sq 4
    change (bA (sT W σ l d) sq 4).2 < 268435456 at h
    show (bA (sT W σ l d) sq 4).2 % 16 ≤ d + 1 ∧ (bA (sT W σ l d) sq 4).2 ≤ 2000 * (d + 1) + 1
    rw [e] at h ⊢
    exact (cst_ok hT (by omega) sq _).2 h
-- the reference's numbers
def mS (c : Nat) : Nat := if 268435456 ≤ c then 1000000000 else c / 16 * 32 + c % 16
theorem mS_lt {c : Nat} (h : c < 268435456) : mS c < 1000000000 ∧ mS c = c / 16 * 32 + c % 16 := by
  unfold mS
  rw [if_neg (by omega)]
  omega
theorem mS_inf : mS 268435456 = 1000000000 := by decide
theorem mS_mono {a b : Nat} (h : a ≤ b) : mS a ≤ mS b := by
  unfold mS
  by_cases c1 : 268435456 ≤ a
  · rw [if_pos c1, if_pos (by omega)]; omega
  · rw [if_neg c1]
    by_cases c2 : 268435456 ≤ b
    · rw [if_pos c2]; omega
    · rw [if_neg c2]; omega
theorem mS_inj {a b : Nat} (ha : a ≤ 268435456) (hb : b ≤ 268435456) (h : mS a = mS b) : a = b := by
  unfold mS at h
  by_cases c1 : 268435456 ≤ a
  · rw [if_pos c1] at h
    by_cases c2 : 268435456 ≤ b
    · omega
    · rw [if_neg c2] at h; omega
  · rw [if_neg c1] at h
    by_cases c2 : 268435456 ≤ b
    · rw [if_pos c2] at h; omega
    · rw [if_neg c2] at h; omega
theorem mS_le (c : Nat) : mS c ≤ 1000000000 := by
  unfold mS
  by_cases c1 : 268435456 ≤ c
  · rw [if_pos c1]; omega
  · rw [if_neg c1]; omega
theorem mS_1 {c : Nat} (h : c < 268435455) (h2 : c % 16 < 15) : mS (c + 1) = mS c + 1 := by
  unfold mS
  rw [if_neg (by omega), if_neg (by omega)]
  omega
theorem mS_p {c p : Nat} (h : c + 16 * p < 268435456) : mS (c + 16 * p) = mS c + 32 * p := by
  unfold mS
  rw [if_neg (by omega), if_neg (by omega)]
  omega
/-- both sides' rows -/
def rwC (σ : Mem) (k : Nat) (T : Nat → Nat) : Prop := ∀ s, s < 144 → mI σ 42 (144 * k + s) = nI (T s)
def rwM (σ : Mem) (k : Nat) (T : Nat → Nat) : Prop := ∀ s, s < 144 → mI σ 89 (144 * k + s) = nI (mS (T s))
theorem st_costAfter {σ : Mem} {k sq n d : Nat} {T : Nat → Nat} (hk : k < 12) (hT : rwC σ k T) (ho : TOk2 T d) (hs : sq < 144) (hn : n < 144) : f_St_costAfter σ (nI k) (nI sq) (nI n) = some (nI (cst T sq n)) := by
  have h1 := (ho n).1
  unfold f_St_costAfter cst
  rw [if_neg (nI_pos (by omega)), if_pos (show nI k < 12 from nI_lt (b := 12) hk (by decide)), ixC, grd_t (inb_j (by omega) (by decide)), nI_clamp (by omega), hT n hn]
  simp only [letv]
  by_cases c : 268435456 ≤ T n
  · have e : T n = 268435456 := by omega
    rw [if_pos (show (268435456 : Int32) ≤ nI (T n) from nI_le (a := 268435456) c (by omega)), if_pos c, e]
  · rw [if_neg (show ¬ (268435456 : Int32) ≤ nI (T n) from nI_ge (b := 268435456) (by omega) (by decide)), if_neg c]
    have e : (nI n = nI sq) ↔ n = sq := nI_eq (by omega) (by omega)
    by_cases q : n = sq
    · rw [if_pos (e.mpr q), if_pos q]
    · rw [if_neg (fun z => q (e.mp z)), if_neg q, nI_1]
theorem st_bestAfter {N : Nat} {σ : Mem} {k sq d : Nat} {T : Nat → Nat} (hN : 100 < N) (hk : k < 12) (hT : rwC σ k T) (ho : TOk2 T d) (hs : sq < 144) : f_St_bestAfter N σ (nI k) (nI sq) = some (nI (bA T sq 4).1) := by
  have cl : ∀ n, cst T sq n ≤ 268435456 := fun n => cst_le (ho n).1
  unfold f_St_bestAfter
  rw [st_costAfter hk hT ho hs hs]
  simp only [bnd1_s]
  refine loopS (L := fun z (x : Int32 × Int32 × Int32) => L_St_bestAfter_l14 N (nI k) (nI sq) σ z x.1 x.2.1 x.2.2) (fun i => (nI (bA T sq i).1, nI (bA T sq i).2, nI i)) _ 4 (fun z i hi => ?_) (fun z => ?_) (by omega)
  · show B_St_bestAfter_l14 N (nI k) (nI sq) σ (L_St_bestAfter_l14 N (nI k) (nI sq) σ z) (nI (bA T sq i).1) (nI (bA T sq i).2) (nI i) = L_St_bestAfter_l14 N (nI k) (nI sq) σ z (nI (bA T sq (i + 1)).1) (nI (bA T sq (i + 1)).2) (nI (i + 1))
    have hb1 := (bA_ok T hs i).1
    have hb2 : (bA T sq i).2 ≤ 268435456 := by rw [bA_cst]; exact cl _
    unfold B_St_bestAfter_l14
    rw [if_neg (show ¬ ((4 : Int32) ≤ nI i) from nI_ge (b := 4) hi (by decide)), sh_beside hs hi, bA_succ]
    simp only [bnd1_s, letv, nI_1]
    cases hb : bsN sq i with
    | none =>
      have hc : f_St_costAfter σ (nI k) (nI sq) (bsI none) = some 268435456 := by
        unfold f_St_costAfter
        rw [if_pos (by decide)]
      rw [hc]
      simp only [bnd1_s]
      rw [if_neg (show ¬ (268435456 : Int32) < nI (bA T sq i).2 from nI_nlt (a := 268435456) hb2 (by decide)), if_pos (show bsI none < 0 by decide)]
      by_cases q : (268435456 : Int32) = nI (bA T sq i).2
      · rw [if_pos q]; rfl
      · rw [if_neg q]; rfl
    | some n =>
      have hn := bsN_lt hs hb
      have hcl := cl n
      show bnd1 (f_St_costAfter σ (nI k) (nI sq) (nI n)) _ = _
      rw [st_costAfter hk hT ho hs hn]
      simp only [bnd1_s]
      show bnd1 (bnd1 (if nI (cst T sq n) < nI (bA T sq i).2 then some 0 else if nI (cst T sq n) = nI (bA T sq i).2 then (if nI n < 0 then some 1 else if nI (bA T sq i).1 ≤ nI n then some 1 else some 0) else some 1) _) _ = _
      rw [if_neg (nI_pos (show n < 2 ^ 31 by omega))]
      by_cases c1 : cst T sq n < (bA T sq i).2
      · rw [if_pos (nI_lt c1 (by omega)), if_pos (Or.inl c1)]; rfl
      · rw [if_neg (nI_nlt (by omega) (by omega))]
        by_cases c2 : cst T sq n = (bA T sq i).2
        · rw [if_pos (by rw [c2])]
          by_cases c3 : n < (bA T sq i).1
          · rw [if_neg (nI_ge c3 (by omega)), if_pos (Or.inr ⟨c2, c3⟩)]; rfl
          · rw [if_pos (nI_le (by omega) (by omega)), if_neg (by omega)]; rfl
        · rw [if_neg (fun z => c2 ((nI_eq (by omega) (by omega)).mp z)), if_neg (by omega)]; rfl
  · show B_St_bestAfter_l14 N (nI k) (nI sq) σ _ _ _ (nI 4) = _
    unfold B_St_bestAfter_l14
    rw [if_pos (by decide)]
theorem mo_goesBy {σ : Mem} {k q n d : Nat} {T : Nat → Nat} (hk : k < 12) (hT : rwM σ k T) (ho : TOk2 T d) (hd : d ≤ 12) (hq : q < 144) (hn : n < 144) : f_Mo_goesBy σ (nI k) (nI q) (nI n) = some (nI (mS (cst T q n))) := by
  obtain ⟨h1, h2⟩ := ho n
  unfold f_Mo_goesBy cst
  rw [if_neg (nIm1 (by omega)), ixM, grd_t (inb_j (by omega) (by decide)), grd_t (inb_j (by omega) (by decide)), nI_clamp (by omega), hT n hn]
  by_cases c : 268435456 ≤ T n
  · have e : T n = 268435456 := by omega
    rw [if_pos c, e, mS_inf, if_neg (by decide)]
    rfl
  · obtain ⟨m1, m2⟩ := mS_lt (show T n < 268435456 by omega)
    have h3 := h2 (by omega)
    rw [if_pos (show nI (mS (T n)) < 1000000000 from nI_lt (b := 1000000000) m1 (by decide)), if_neg c]
    have e : (nI n = nI q) ↔ n = q := nI_eq (by omega) (by omega)
    by_cases z : n = q
    · rw [if_pos (e.mpr z), if_pos z, Int32.add_zero]
    · rw [if_neg (fun w => z (e.mp w)), if_neg z, nI_1, mS_1 (by omega) (by omega)]
/-- the reference's least over the first i of the five -/
def nM (T : Nat → Nat) (q : Nat) : Nat → Nat
  | 0 => 1000000000
  | i + 1 => match bsN q i with
    | none => min (nM T q i) 1000000000
    | some n => min (nM T q i) (mS (cst T q n))
theorem nM_succ (T : Nat → Nat) (q i : Nat) : nM T q (i + 1) = match bsN q i with
    | none => min (nM T q i) 1000000000
    | some n => min (nM T q i) (mS (cst T q n)) := rfl
theorem nM_ok (T : Nat → Nat) (q : Nat) : ∀ i, nM T q i ≤ 1000000000 ∧ (∀ k n, k < i → bsN q k = some n → nM T q i ≤ mS (cst T q n)) ∧ (nM T q i = 1000000000 ∨ ∃ k n, k < i ∧ bsN q k = some n ∧ nM T q i = mS (cst T q n)) := by
  intro i
  induction i with
  | zero => exact ⟨Nat.le_refl _, fun k n hk => absurd hk (Nat.not_lt_zero k), Or.inl rfl⟩
  | succ i ih =>
    obtain ⟨h1, h2, h3⟩ := ih
    rw [nM_succ]
    cases hb : bsN q i with
    | none =>
      simp only
      rw [Nat.min_eq_left h1]
      refine ⟨h1, fun k n hk e => ?_, ?_⟩
      · rcases (show k < i ∨ k = i by omega) with z | rfl
        · exact h2 k n z e
        · rw [hb] at e; cases e
      · rcases h3 with h3 | ⟨k, n, hk, e, h3⟩
        · exact Or.inl h3
        · exact Or.inr ⟨k, n, by omega, e, h3⟩
    | some m =>
      simp only
      have hm := mS_le (cst T q m)
      refine ⟨by omega, fun k n hk e => ?_, ?_⟩
      · rcases (show k < i ∨ k = i by omega) with z | rfl
        · have := h2 k n z e; omega
        · rw [hb] at e; cases e; omega
      · by_cases c : nM T q i ≤ mS (cst T q m)
        · rw [Nat.min_eq_left c]
          rcases h3 with h3 | ⟨k, n, hk, e, h3⟩
          · exact Or.inl h3
          · exact Or.inr ⟨k, n, by omega, e, h3⟩
        · rw [Nat.min_eq_right (by omega)]
          exact Or.inr ⟨i, m, by omega, hb, rfl⟩
theorem nM5 (T : Nat → Nat) {q : Nat} (hq : q < 144) : nM T q 5 = mS (bA T q 4).2 := by
  obtain ⟨h1, h2, h3⟩ := nM_ok T q 5
  obtain ⟨b1, b2, b3, b4⟩ := bA_ok T hq 4
  apply Nat.le_antisymm
  · obtain ⟨k, hk, e⟩ := nbr5.mp (show nbr q (bA T q 4).1 from b3)
    rw [b2]
    exact h2 k _ hk e
  · rcases h3 with h3 | ⟨k, n, hk, e, h3⟩
    · rw [h3]; exact mS_le _
    · rw [h3]
      apply mS_mono
      have := b4 n (nbr5.mpr ⟨k, hk, e⟩)
      omega
theorem mo_stripMin {N : Nat} {σ : Mem} {r q d n : Nat} {T : Nat → Nat} (hN : 100 < N) (hr : r + 1 < n) (hn : n ≤ 12) (hT : rwM σ (r + 1) T) (ho : TOk2 T d) (hd : d ≤ 12) (hq : q < 144) (a1 : Int32) : L_Mo_laysStrip_l38 N a1 (nI n) (nI r) (nI q) σ N 1000000000 0 = some (nI (mS (bA T q 4).2)) := by
  rw [← nM5 T hq]
  refine loopS (L := fun z (x : Int32 × Int32) => L_Mo_laysStrip_l38 N a1 (nI n) (nI r) (nI q) σ z x.1 x.2) (fun i => (nI (nM T q i), nI i)) _ 5 (fun z i hi => ?_) (fun z => ?_) (by omega)
  · show B_Mo_laysStrip_l38 N a1 (nI n) (nI r) (nI q) σ (L_Mo_laysStrip_l38 N a1 (nI n) (nI r) (nI q) σ z) (nI (nM T q i)) (nI i) = L_Mo_laysStrip_l38 N a1 (nI n) (nI r) (nI q) σ z (nI (nM T q (i + 1))) (nI (i + 1))
    have h1 := (nM_ok T q i).1
    unfold B_Mo_laysStrip_l38
    rw [if_neg (show ¬ ((5 : Int32) ≤ nI i) from nI_ge (b := 5) hi (by decide)), show nI n - 1 = nI (n - 1) from pk_sub (b := 1) (by omega), if_neg (nI_ge (by omega) (by omega)), mo_beside hq hi, nM_succ]
    simp only [bnd1_s, letv, nI_1]
    cases hb : bsN q i with
    | none =>
      have hc : f_Mo_goesBy σ (nI (r + 1)) (nI q) (bsI none) = some 1000000000 := by
        unfold f_Mo_goesBy
        rw [if_pos (show bsI none = -1 from rfl)]
      rw [hc]
      simp only [bnd1_s]
      rw [mo_min, show minI (nI (nM T q i)) 1000000000 = nI (min (nM T q i) 1000000000) from minI_n (b := 1000000000) (by omega) (by decide)]
      rfl
    | some m =>
      have hm := bsN_lt hq hb
      have hl := mS_le (cst T q m)
      show bnd1 (f_Mo_goesBy σ (nI (r + 1)) (nI q) (nI m)) _ = _
      rw [mo_goesBy (by omega) hT ho hd hq hm]
      simp only [bnd1_s]
      rw [mo_min, minI_n (by omega) (by omega)]
      rfl
  · show B_Mo_laysStrip_l38 N a1 (nI n) (nI r) (nI q) σ _ _ (nI 5) = _
    unfold B_Mo_laysStrip_l38
    rw [if_pos (by decide)]
def nbrB (p q : Nat) : Bool := q == p || bsN p 0 == some q || bsN p 1 == some q || bsN p 2 == some q || bsN p 3 == some q
theorem nbrB_iff {p q : Nat} : nbrB p q = true ↔ nbr p q := by
  unfold nbrB nbr
  simp only [Bool.or_eq_true, beq_iff_eq]
  constructor
  · rintro ((((h | h) | h) | h) | h)
    · exact Or.inl h
    · exact Or.inr ⟨0, by decide, h⟩
    · exact Or.inr ⟨1, by decide, h⟩
    · exact Or.inr ⟨2, by decide, h⟩
    · exact Or.inr ⟨3, by decide, h⟩
  · rintro (h | ⟨k, hk, h⟩)
    · exact Or.inl (Or.inl (Or.inl (Or.inl h)))
    · rcases (show k = 0 ∨ k = 1 ∨ k = 2 ∨ k = 3 by omega) with rfl | rfl | rfl | rfl
      · exact Or.inl (Or.inl (Or.inl (Or.inr h)))
      · exact Or.inl (Or.inl (Or.inr h))
      · exact Or.inl (Or.inr h)
      · exact Or.inr h
theorem mo_isBesideB : ∀ p q : Fin 144, f_Mo_isBeside (nI p.val) (nI q.val) = some (if nbrB p.val q.val then 1 else 0) := by decide +kernel
theorem mo_isBeside {p q : Nat} (hp : p < 144) (hq : q < 144) : f_Mo_isBeside (nI p) (nI q) = some (if nbrB p q then 1 else 0) := mo_isBesideB ⟨p, hp⟩ ⟨q, hq⟩
