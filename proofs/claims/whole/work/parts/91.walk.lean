-- ===== walks in the shade =====
theorem minI_n {a b : Nat} (ha : a < 2 ^ 31) (hb : b < 2 ^ 31) : minI (nI a) (nI b) = nI (min a b) := by
  unfold minI
  by_cases c : b < a
  · rw [if_pos (nI_lt c ha), Nat.min_eq_right (by omega)]
  · rw [if_neg (nI_nlt (by omega) hb), Nat.min_eq_left (by omega)]
/-- the square at a side, 4: itself -/
def bsN (sq k : Nat) : Option Nat := if k = 0 then (if sq < 132 then some (sq + 12) else none) else if k = 1 then (if sq % 12 < 11 then some (sq + 1) else none) else if k = 2 then (if 12 ≤ sq then some (sq - 12) else none) else if k = 3 then (if 0 < sq % 12 then some (sq - 1) else none) else some sq
def bsI : Option Nat → Int32
  | none => -1
  | some n => nI n
theorem mo_besideB : ∀ sq : Fin 144, ∀ k : Fin 5, f_Mo_beside (nI sq.val) (nI k.val) = some (bsI (bsN sq.val k.val)) := by decide +kernel
theorem mo_beside {sq k : Nat} (hs : sq < 144) (hk : k < 5) : f_Mo_beside (nI sq) (nI k) = some (bsI (bsN sq k)) := mo_besideB ⟨sq, hs⟩ ⟨k, hk⟩
theorem sh_besideB : ∀ sq : Fin 144, ∀ k : Fin 4, f_Sh_beside (nI sq.val) (nI k.val) = some (bsI (bsN sq.val k.val)) := by decide +kernel
theorem sh_beside {sq k : Nat} (hs : sq < 144) (hk : k < 4) : f_Sh_beside (nI sq) (nI k) = some (bsI (bsN sq k)) := sh_besideB ⟨sq, hs⟩ ⟨k, hk⟩
theorem bsN_lt {sq k n : Nat} (hs : sq < 144) (h : bsN sq k = some n) : n < 144 := by
  unfold bsN at h
  by_cases c0 : k = 0
  · rw [if_pos c0] at h
    by_cases q : sq < 132
    · rw [if_pos q] at h; cases h; omega
    · rw [if_neg q] at h; cases h
  · rw [if_neg c0] at h
    by_cases c1 : k = 1
    · rw [if_pos c1] at h
      by_cases q : sq % 12 < 11
      · rw [if_pos q] at h; cases h; omega
      · rw [if_neg q] at h; cases h
    · rw [if_neg c1] at h
      by_cases c2 : k = 2
      · rw [if_pos c2] at h
        by_cases q : 12 ≤ sq
        · rw [if_pos q] at h; cases h; omega
        · rw [if_neg q] at h; cases h
      · rw [if_neg c2] at h
        by_cases c3 : k = 3
        · rw [if_pos c3] at h
          by_cases q : 0 < sq % 12
          · rw [if_pos q] at h; cases h; omega
          · rw [if_neg q] at h; cases h
        · rw [if_neg c3] at h; cases h; omega
/-- the least around -/
def lA1 (V : Nat → Nat) (sq : Nat) : Nat := if 0 < sq % 12 then min (V sq) (V (sq - 1)) else V sq
def lA2 (V : Nat → Nat) (sq : Nat) : Nat := if sq % 12 < 11 then min (lA1 V sq) (V (sq + 1)) else lA1 V sq
def lA3 (V : Nat → Nat) (sq : Nat) : Nat := if 12 ≤ sq then min (lA2 V sq) (V (sq - 12)) else lA2 V sq
def lA (V : Nat → Nat) (sq : Nat) : Nat := if sq < 132 then min (lA3 V sq) (V (sq + 12)) else lA3 V sq
theorem lA_le {V : Nat → Nat} {B sq : Nat} (h : V sq ≤ B) : lA V sq ≤ B ∧ lA3 V sq ≤ B ∧ lA2 V sq ≤ B ∧ lA1 V sq ≤ B := by
  unfold lA lA3 lA2 lA1
  by_cases c1 : 0 < sq % 12 <;> by_cases c2 : sq % 12 < 11 <;> by_cases c3 : 12 ≤ sq <;> by_cases c4 : sq < 132 <;> simp only [c1, c2, c3, c4, if_true, if_false] <;> omega
theorem lA_zero (V : Nat → Nat) (sq : Nat) : lA V sq = 0 ↔ ∃ k n, k < 5 ∧ bsN sq k = some n ∧ V n = 0 := by
  have h1 : lA V sq = 0 ↔ (V sq = 0 ∨ (0 < sq % 12 ∧ V (sq - 1) = 0) ∨ (sq % 12 < 11 ∧ V (sq + 1) = 0) ∨ (12 ≤ sq ∧ V (sq - 12) = 0) ∨ (sq < 132 ∧ V (sq + 12) = 0)) := by
    unfold lA lA3 lA2 lA1
    by_cases c1 : 0 < sq % 12 <;> by_cases c2 : sq % 12 < 11 <;> by_cases c3 : 12 ≤ sq <;> by_cases c4 : sq < 132 <;> simp only [c1, c2, c3, c4, if_true, if_false, true_and, false_and, or_false, false_or] <;> omega
  rw [h1]
  constructor
  · rintro (h | ⟨c, h⟩ | ⟨c, h⟩ | ⟨c, h⟩ | ⟨c, h⟩)
    · exact ⟨4, sq, by decide, rfl, h⟩
    · exact ⟨3, sq - 1, by decide, by simp [bsN, c], h⟩
    · exact ⟨1, sq + 1, by decide, by simp [bsN, c], h⟩
    · exact ⟨2, sq - 12, by decide, by simp [bsN, c], h⟩
    · exact ⟨0, sq + 12, by decide, by simp [bsN, c], h⟩
  · rintro ⟨k, n, hk, hb, h⟩
    rcases (show k = 0 ∨ k = 1 ∨ k = 2 ∨ k = 3 ∨ k = 4 by omega) with rfl | rfl | rfl | rfl | rfl
    · by_cases c : sq < 132
      · simp [bsN, c] at hb; subst hb; exact Or.inr (Or.inr (Or.inr (Or.inr ⟨c, h⟩)))
      · simp [bsN, c] at hb
    · by_cases c : sq % 12 < 11
      · simp [bsN, c] at hb; subst hb; exact Or.inr (Or.inr (Or.inl ⟨c, h⟩))
      · simp [bsN, c] at hb
    · by_cases c : 12 ≤ sq
      · simp [bsN, c] at hb; subst hb; exact Or.inr (Or.inr (Or.inr (Or.inl ⟨c, h⟩)))
      · simp [bsN, c] at hb
    · by_cases c : 0 < sq % 12
      · simp [bsN, c] at hb; subst hb; exact Or.inr (Or.inl ⟨c, h⟩)
      · simp [bsN, c] at hb
    · simp [bsN] at hb; subst hb; exact Or.inl h
/-- the fewest parts in the sun with which each square is come to in k parts; 1000: it isn't -/
def wV (σ : Mem) (a hr : Nat) : Nat → Nat → Nat
  | 0 => fun sq => if sq = a then 0 else 1000
  | k + 1 => fun sq => if mI σ 39 sq = 0 then (if lA (wV σ a hr k) sq < 1000 ∧ mI σ 34 ((hr + k / 6) % 24) ≠ 0 ∧ who σ ((hr + k / 6) % 24) sq = 0 then lA (wV σ a hr k) sq + 1 else lA (wV σ a hr k) sq) else 1000
theorem wV_succ (σ : Mem) (a hr k sq : Nat) : wV σ a hr (k + 1) sq = if mI σ 39 sq = 0 then (if lA (wV σ a hr k) sq < 1000 ∧ mI σ 34 ((hr + k / 6) % 24) ≠ 0 ∧ who σ ((hr + k / 6) % 24) sq = 0 then lA (wV σ a hr k) sq + 1 else lA (wV σ a hr k) sq) else 1000 := rfl
theorem wV_le (σ : Mem) (a hr : Nat) : ∀ k sq, wV σ a hr k sq ≤ 1000 := by
  intro k
  induction k with
  | zero =>
    intro sq
    show (if sq = a then 0 else 1000) ≤ 1000
    by_cases c : sq = a
    · rw [if_pos c]; omega
    · rw [if_neg c]; omega
  | succ k ih =>
    intro sq
    rw [wV_succ]
    have := (lA_le (ih sq)).1
    by_cases c : mI σ 39 sq = 0
    · rw [if_pos c]
      by_cases q : lA (wV σ a hr k) sq < 1000 ∧ mI σ 34 ((hr + k / 6) % 24) ≠ 0 ∧ who σ ((hr + k / 6) % 24) sq = 0
      · rw [if_pos q]; omega
      · rw [if_neg q]; omega
    · rw [if_neg c]; omega
/-- the class's row that goes on -/
def WkC (σ : Mem) (V : Nat → Nat) : Prop := ∃ w, (w = 45 ∨ w = 46) ∧ mR σ 44 0 = w + 1 ∧ mR σ 44 1 = 92 - w ∧ ∀ sq, sq < 144 → mI σ w sq = nI (V sq)
theorem WkC.drf0 {σ : Mem} {w : Nat} (h : w = 45 ∨ w = 46) (e : mR σ 44 0 = w + 1) : drf σ 44 0 = some w := by
  unfold drf
  rcases h with rfl | rfl
  · rw [e, if_pos rfl]
  · rw [e, if_neg (by decide), if_pos rfl]
theorem WkC.drf1 {σ : Mem} {w : Nat} (h : w = 45 ∨ w = 46) (e : mR σ 44 1 = 92 - w) : drf σ 44 1 = some (91 - w) := by
  unfold drf
  rcases h with rfl | rfl
  · rw [e, if_neg (by decide), if_pos rfl]
  · rw [e, if_pos rfl]
theorem wa_leastAround {σ : Mem} {V : Nat → Nat} {w sq : Nat} (hw : w = 45 ∨ w = 46) (e : mR σ 44 0 = w + 1) (hV : ∀ s, s < 144 → mI σ w s = nI (V s)) (hb : ∀ s, V s ≤ 1000) (hs : sq < 144) : f_Wa_leastAround σ (nI sq) = some (nI (lA V sq)) := by
  obtain ⟨-, l3, l2, l1⟩ := lA_le (hb sq)
  have b0 := hb sq
  have b1 := hb (sq - 1)
  have b2 := hb (sq + 1)
  have b3 := hb (sq - 12)
  have b4 := hb (sq + 12)
  unfold f_Wa_leastAround
  simp only [letv]
  rw [show nI sq - nI sq / 12 * 12 = nI (sq % 12) from pk_rem (d := 12) (by omega) (by decide) (by decide), WkC.drf0 hw e]
  simp only [bnd1_s]
  rw [grd_t (inb_j hs (by decide)), nI_clamp (by omega), hV sq hs]
  have s1 : (if nI (sq % 12) ≤ 0 then some (nI (V sq)) else grd (inb (nI sq - 1) 144) (bnd1 (f_JM_min_7cf53 (nI (V sq)) (mI σ w (nI sq - 1).toNatClampNeg)) fun r25 => some r25)) = some (nI (lA1 V sq)) := by
    unfold lA1
    by_cases c : 0 < sq % 12
    · rw [if_neg (nI_nle c (by omega)), show nI sq - 1 = nI (sq - 1) from pk_sub (b := 1) (by omega), grd_t (inb_j (by omega) (by decide)), nI_clamp (by omega), hV _ (by omega), jm_min, minI_n (by omega) (by omega), if_pos c]
      rfl
    · rw [show sq % 12 = 0 by omega, if_pos (show nI 0 ≤ 0 by decide), if_neg (by decide)]
  rw [s1]
  simp only [bnd1_s]
  have s2 : (if 11 ≤ nI (sq % 12) then some (nI (lA1 V sq)) else grd (inb (nI sq + 1) 144) (bnd1 (f_JM_min_7cf53 (nI (lA1 V sq)) (mI σ w (nI sq + 1).toNatClampNeg)) fun r48 => some r48)) = some (nI (lA2 V sq)) := by
    unfold lA2
    by_cases c : sq % 12 < 11
    · rw [if_neg (show ¬ (11 : Int32) ≤ nI (sq % 12) from nI_ge (b := 11) c (by decide)), nI_1, grd_t (inb_j (by omega) (by decide)), nI_clamp (by omega), hV _ (by omega), jm_min, minI_n (by omega) (by omega), if_pos c]
      rfl
    · rw [if_pos (show (11 : Int32) ≤ nI (sq % 12) from nI_le (a := 11) (by omega) (by omega)), if_neg c]
  rw [s2]
  simp only [bnd1_s]
  have s3 : (if nI sq < 12 then some (nI (lA2 V sq)) else grd (inb (nI sq - 12) 144) (bnd1 (f_JM_min_7cf53 (nI (lA2 V sq)) (mI σ w (nI sq - 12).toNatClampNeg)) fun r72 => some r72)) = some (nI (lA3 V sq)) := by
    unfold lA3
    by_cases c : 12 ≤ sq
    · rw [if_neg (show ¬ nI sq < 12 from nI_nlt (b := 12) c (by omega)), show nI sq - 12 = nI (sq - 12) from pk_sub (b := 12) (by omega), grd_t (inb_j (by omega) (by decide)), nI_clamp (by omega), hV _ (by omega), jm_min, minI_n (by omega) (by omega), if_pos c]
      rfl
    · rw [if_pos (show nI sq < 12 from nI_lt (b := 12) (by omega) (by decide)), if_neg c]
  rw [s3]
  simp only [bnd1_s]
  unfold lA
  by_cases c : sq < 132
  · rw [if_neg (show ¬ (132 : Int32) ≤ nI sq from nI_ge (b := 132) c (by decide)), show nI sq + 12 = nI (sq + 12) from nI_add sq 12, grd_t (inb_j (by omega) (by decide)), nI_clamp (by omega), hV _ (by omega), jm_min, minI_n (by omega) (by omega), if_pos c]
    rfl
  · rw [if_pos (show (132 : Int32) ≤ nI sq from nI_le (a := 132) (by omega) (by omega)), if_neg c]
theorem da_isUpK {N : Nat} {σ σ0 : Mem} (hI : Inv N σ0) (hR : Rdy σ0) {h : Nat} (hh : h < 24) (e : mI σ 34 h = mI σ0 34 h) : f_Da_isUp σ (nI h) = some (mI σ0 34 h) := by
  unfold f_Da_isUp
  rw [hour_t hh]
  simp only [bnd1_s, if_neg ne10]
  rw [grd_t (inb_j hh (by decide)), nI_clamp (by omega), e]
  rcases up01 hI hR hh with e | e <;> rw [e] <;> rfl
theorem wa_step {N : Nat} {σ σ0 : Mem} {a hr k : Nat} (hN : 1000 < N) (hI : Inv N σ0) (hR : Rdy σ0) (F : Fr [45, 46] [(44, 0), (44, 1)] σ0 σ) (hW : WkC σ (wV σ0 a hr k)) (hk : k < 100) : ∃ σ', f_Wa_step N σ (nI ((hr + k / 6) % 24)) = some σ' ∧ (WkC σ' (wV σ0 a hr (k + 1)) ∧ Fr [45, 46] [(44, 0), (44, 1)] σ0 σ') := by
  have hh : (hr + k / 6) % 24 < 24 := Nat.mod_lt _ (by decide)
  obtain ⟨w, hw, e0, e1, hV⟩ := hW
  unfold f_Wa_step
  rw [da_isUpK hI hR hh (F.I 34 _ (by decide) (by simp))]
  simp only [bnd1_s]
  refine loopR (L := fun z (x : Int32 × Mem) => L_Wa_step_l9 N (nI ((hr + k / 6) % 24)) (mI σ0 34 ((hr + k / 6) % 24)) z x.1 x.2) (P := fun i x => x.1 = nI i ∧ mR x.2 44 0 = w + 1 ∧ mR x.2 44 1 = 92 - w ∧ (∀ s, s < 144 → mI x.2 w s = nI (wV σ0 a hr k s)) ∧ (∀ s, s < i → mI x.2 (91 - w) s = nI (wV σ0 a hr (k + 1) s)) ∧ Fr [45, 46] [(44, 0), (44, 1)] σ0 x.2) (a := (0, σ)) 144 ?_ ?_ (by omega) ⟨rfl, e0, e1, hV, fun s hs => absurd hs (Nat.not_lt_zero s), F⟩
  · rintro z i ⟨x, s⟩ hi ⟨h1, h2, h3, h4, h5, h6⟩
    have hx : x = nI i := h1
    subst hx
    change mR s 44 0 = _ at h2
    change mR s 44 1 = _ at h3
    change ∀ q, q < 144 → mI s w q = _ at h4
    change ∀ q, q < i → mI s (91 - w) q = _ at h5
    change Fr _ _ σ0 s at h6
    have hle := (lA_le (wV_le σ0 a hr k i)).1
    refine Or.inr ⟨(nI (i + 1), sI s (91 - w) i (nI (wV σ0 a hr (k + 1) i))), ?_, rfl, h2, h3, fun q hq => ?_, fun q hq => ?_, ?_⟩
    · show B_Wa_step_l9 N (nI ((hr + k / 6) % 24)) (mI σ0 34 ((hr + k / 6) % 24)) (L_Wa_step_l9 N (nI ((hr + k / 6) % 24)) (mI σ0 34 ((hr + k / 6) % 24)) z) (nI i) s = _
      unfold B_Wa_step_l9
      rw [if_neg (show ¬ ((144 : Int32) ≤ nI i) from nI_ge (b := 144) hi (by decide)), da_isFree hi, h6.I 39 i (by decide) (by simp), wa_leastAround hw h2 h4 (wV_le σ0 a hr k) hi, da_whoCasts hh hi, who_k (h6.rowI 38 (by decide) (by decide)) (h6.rowI 39 (by decide) (by decide)), WkC.drf1 hw h3, wV_succ]
      simp only [bnd1_s, letv, nI_1, grd_t (inb_j hi (show 144 < 2 ^ 31 by decide)), nI_clamp (show i < 2 ^ 31 by omega)]
      by_cases c : mI σ0 39 i = 0
      · rw [if_pos c, if_neg ne10, if_pos c]
        by_cases c1 : lA (wV σ0 a hr k) i < 1000
        · rw [if_neg (show ¬ (1000 : Int32) ≤ nI (lA (wV σ0 a hr k) i) from nI_ge (b := 1000) c1 (by decide))]
          by_cases c2 : mI σ0 34 ((hr + k / 6) % 24) = 0
          · rw [if_pos c2, if_neg (fun z => z.2.1 c2)]
            rfl
          · rw [if_neg c2]
            by_cases c3 : who σ0 ((hr + k / 6) % 24) i = 0
            · rw [if_pos c3, if_pos ⟨c1, c2, c3⟩]
              rfl
            · rw [if_neg c3, if_neg (fun z => c3 z.2.2)]
              rfl
        · rw [if_pos (show (1000 : Int32) ≤ nI (lA (wV σ0 a hr k) i) from nI_le (a := 1000) (by omega) (by omega)), if_neg (fun z => c1 z.1)]
          rfl
      · rw [if_neg c, if_pos rfl, if_neg c]
        rfl
    · show mI (sI s (91 - w) i _) w q = _
      rw [sI_n _ _ (by omega)]
      exact h4 q hq
    · show mI (sI s (91 - w) i _) (91 - w) q = _
      rw [rdI]
      by_cases e : q = i
      · subst e; rw [if_pos ⟨rfl, rfl⟩]
      · rw [if_neg (fun z => e z.2)]
        exact h5 q (by omega)
    · refine h6.aI rfl ?_
      rcases hw with rfl | rfl <;> decide
  · rintro z ⟨x, s⟩ ⟨h1, h2, h3, h4, h5, h6⟩
    have hx : x = nI 144 := h1
    subst hx
    change mR s 44 0 = _ at h2
    change mR s 44 1 = _ at h3
    change ∀ q, q < 144 → mI s (91 - w) q = _ at h5
    change Fr _ _ σ0 s at h6
    refine ⟨sR (sR s 44 0 (91 - w + 1)) 44 1 (w + 1), ?_, ⟨91 - w, by omega, ?_, ?_, h5⟩, (h6.fR (σ2 := sR s 44 0 (91 - w + 1)) rfl (by decide)).fR rfl (by decide)⟩
    · show B_Wa_step_l9 N _ _ _ (nI 144) s = _
      unfold B_Wa_step_l9
      rw [if_pos (by decide), WkC.drf0 hw h2, WkC.drf1 hw h3]
      rfl
    · rcases hw with rfl | rfl <;> rfl
    · rcases hw with rfl | rfl <;> rfl
theorem wa_begin {N : Nat} {σ : Mem} {a hr : Nat} (hN : 1000 < N) (hI : Inv N σ) (ha : a < 144) : ∃ σ', f_Wa_begin N σ (nI a) = some σ' ∧ (WkC σ' (wV σ a hr 0) ∧ Fr [45, 46] [(44, 0), (44, 1)] σ σ') := by
  obtain ⟨w, hw, e0, e1⟩ : ∃ w, (w = 45 ∨ w = 46) ∧ mR σ 44 0 = w + 1 ∧ mR σ 44 1 = 92 - w := by
    rcases hI.2.2.2.2.2.1 with ⟨h1, h2⟩ | ⟨h1, h2⟩
    · exact ⟨45, Or.inl rfl, h1, h2⟩
    · exact ⟨46, Or.inr rfl, h1, h2⟩
  obtain ⟨s, p, v⟩ := ja_fill (N := N) (σ := σ) (g := w) (n := 144) 1000 (by omega) (by decide)
  have Fs := fm_JA_fill_53178 p
  have hw44 : 44 ∉ [w] := by simp; omega
  have e0' : mR s 44 0 = w + 1 := (Fs.R 44 0 hw44 (by simp)).trans e0
  have e1' : mR s 44 1 = 92 - w := (Fs.R 44 1 hw44 (by simp)).trans e1
  refine ⟨sI s w a 0, ?_, ⟨w, hw, e0', e1', fun q hq => ?_⟩, ?_⟩
  · unfold f_Wa_begin
    rw [WkC.drf0 hw e0]
    simp only [bnd1_s]
    rw [p]
    simp only [bnd1_s]
    rw [WkC.drf0 hw e0']
    simp only [bnd1_s, letv]
    rw [grd_t (inb_j ha (by decide)), nI_clamp (by omega)]
  · rw [rdI]
    show _ = nI (if q = a then 0 else 1000)
    by_cases e : q = a
    · rw [if_pos ⟨rfl, e⟩, if_pos e]; rfl
    · rw [if_neg (fun z => e z.2), if_neg e, v q, if_pos hq]; rfl
  · have F1 : Fr [45, 46] [(44, 0), (44, 1)] σ s := Fs.mono (by rcases hw with rfl | rfl <;> decide) (by simp)
    exact F1.aI rfl (by rcases hw with rfl | rfl <;> decide)
theorem Inv.walk {N : Nat} {σ σ' : Mem} {V : Nat → Nat} (hI : Inv N σ) (F : Fr [45, 46] [(44, 0), (44, 1)] σ σ') (hW : WkC σ' V) : Inv N σ' := by
  obtain ⟨k0, k1, k2, k3, k4, k5, k6⟩ := hI
  refine ⟨k0.k (F.keeps (by decide)), k1.k (F.keeps (by decide)), k2.k (F.keeps (by decide)), k3.k (F.keeps (by decide)), k4.k (F.keeps (by decide)), ?_, k6.k (F.keeps (by decide))⟩
  obtain ⟨w, hw, e0, e1, -⟩ := hW
  rcases hw with rfl | rfl
  · exact Or.inl ⟨e0, e1⟩
  · exact Or.inr ⟨e0, e1⟩
theorem hourE (hr k : Nat) (h1 : hr < 24) (hk : k < 100) : nI hr + nI k / 6 - (nI hr + nI k / 6) / 24 * 24 = nI ((hr + k / 6) % 24) := by
  rw [show nI k / 6 = nI (k / 6) from pk_div (d := 6) (by omega) (by decide) (by decide), nI_add]
  exact pk_rem (d := 24) (by omega) (by decide) (by decide)
/-- the first part, from i on, at which there are no parts in the sun -/
def snS (V : Nat → Nat → Nat) (b : Nat) (i : Nat) : Nat → Int32
  | 0 => if V i b = 0 then nI i else -2
  | m + 1 => if V i b = 0 then nI i else snS V b (i + 1) m
theorem wa_soonest {N : Nat} {σ : Mem} {a b hr : Nat} (hN : 1000 < N) (hI : Inv N σ) (hR : Rdy σ) (ha : a < 144) (hb : b < 144) (hh : hr < 24) : ∃ σ', f_Wa_soonestInShade N σ (nI a) (nI b) (nI hr) = some (snS (wV σ a hr) b 0 72, σ') ∧ Inv N σ' ∧ Fr [45, 46] [(44, 0), (44, 1)] σ σ' := by
  obtain ⟨s0, p0, W0, F0⟩ := wa_begin (N := N) (hr := hr) hN hI ha
  have hL : ∀ m K i s, i + m = 72 → m < K → WkC s (wV σ a hr i) → Fr [45, 46] [(44, 0), (44, 1)] σ s → ∃ r s' j, L_Wa_soonestInShade_l8 N (nI b) (nI hr) K (nI i) s = some r ∧ WkC s' (wV σ a hr j) ∧ Fr [45, 46] [(44, 0), (44, 1)] σ s' ∧ ((r = .inl (snS (wV σ a hr) b i m, s')) ∨ (r = .inr s' ∧ j = 72 ∧ snS (wV σ a hr) b i m = if wV σ a hr 72 b = 0 then 72 else -2)) := by
    intro m
    induction m with
    | zero =>
      intro K i s e hK W F
      obtain ⟨z, rfl⟩ : ∃ z, K = z + 1 := ⟨K - 1, by omega⟩
      have : i = 72 := by omega
      subst this
      refine ⟨.inr s, s, 72, ?_, W, F, Or.inr ⟨rfl, rfl, rfl⟩⟩
      show B_Wa_soonestInShade_l8 _ _ _ _ _ _ = _
      unfold B_Wa_soonestInShade_l8
      rw [if_pos (by decide)]
    | succ m ih =>
      intro K i s e hK W F
      obtain ⟨z, rfl⟩ : ∃ z, K = z + 1 := ⟨K - 1, by omega⟩
      have hi : i < 72 := by omega
      have W' := W
      obtain ⟨w, hw, e0, e1, hV⟩ := W'
      show ∃ r s' j, B_Wa_soonestInShade_l8 N (nI b) (nI hr) (L_Wa_soonestInShade_l8 N (nI b) (nI hr) z) (nI i) s = _ ∧ _
      unfold B_Wa_soonestInShade_l8
      rw [if_neg (show ¬ ((72 : Int32) ≤ nI i) from nI_ge (b := 72) hi (by decide)), WkC.drf0 hw e0]
      simp only [bnd1_s]
      rw [grd_t (inb_j hb (by decide)), nI_clamp (by omega), hV b hb]
      have hle := wV_le σ a hr i b
      unfold snS
      by_cases c : wV σ a hr i b = 0
      · rw [if_pos (by rw [c]; rfl), if_pos c]
        exact ⟨_, s, i, rfl, W, F, Or.inl rfl⟩
      · rw [if_neg (nI_ne0 (by omega) (by omega)), if_neg c, hourE hr i hh (by omega)]
        obtain ⟨s1, p1, W1, F1⟩ := wa_step (N := N) hN hI hR F W (by omega)
        rw [p1]
        simp only [bnd1_s, letv, nI_1]
        exact ih z (i + 1) s1 (by omega) (by omega) W1 F1
  obtain ⟨r, s', j, p1, W1, F1, h⟩ := hL 72 N 0 s0 (by omega) (by omega) W0 F0
  refine ⟨s', ?_, hI.walk F1 W1, F1⟩
  unfold f_Wa_soonestInShade
  rw [p0]
  simp only [bnd1_s]
  rw [show L_Wa_soonestInShade_l8 N (nI b) (nI hr) N 0 s0 = some r from p1]
  simp only [bnd1_s]
  rcases h with rfl | ⟨rfl, rfl, e⟩
  · rfl
  · obtain ⟨w, hw, e0, e1, hV⟩ := W1
    show (bnd1 (drf s' 44 0) _) = _
    rw [WkC.drf0 hw e0]
    simp only [bnd1_s]
    rw [grd_t (inb_j hb (by decide)), nI_clamp (by omega), hV b hb, e]
    have hle := wV_le σ a hr 72 b
    by_cases c : wV σ a hr 72 b = 0
    · rw [if_pos (by rw [c]; rfl), if_pos c]
    · rw [if_neg (nI_ne0 (by omega) (by omega)), if_neg c]
/-- fewest parts in the sun, of like ones the soonest, of the first i -/
def bS (V : Nat → Nat → Nat) (b : Nat) : Nat → Option (Nat × Nat)
  | 0 => none
  | i + 1 => match bS V b i with
    | none => if V i b < 1000 then some (V i b, i) else none
    | some q => if V i b < 1000 ∧ V i b < q.1 then some (V i b, i) else some q
theorem bS_succ (V : Nat → Nat → Nat) (b i : Nat) : bS V b (i + 1) = match bS V b i with
    | none => if V i b < 1000 then some (V i b, i) else none
    | some q => if V i b < 1000 ∧ V i b < q.1 then some (V i b, i) else some q := rfl
theorem bS_ok (V : Nat → Nat → Nat) (b : Nat) : ∀ i q, bS V b i = some q → q.1 < 1000 ∧ q.2 < i := by
  intro i
  induction i with
  | zero => intro q h; cases h
  | succ i ih =>
    intro q h
    rw [bS_succ] at h
    cases hb : bS V b i with
    | none =>
      rw [hb] at h
      simp only at h
      by_cases c : V i b < 1000
      · rw [if_pos c] at h; cases h; exact ⟨c, by show i < i + 1; omega⟩
      · rw [if_neg c] at h; cases h
    | some q' =>
      rw [hb] at h
      simp only at h
      by_cases c : V i b < 1000 ∧ V i b < q'.1
      · rw [if_pos c] at h; cases h; exact ⟨c.1, by show i < i + 1; omega⟩
      · rw [if_neg c] at h
        have e := Option.some.inj h
        obtain ⟨h1, h2⟩ := ih q' hb
        rw [← e]
        exact ⟨h1, by omega⟩
def bSn : Option (Nat × Nat) → Nat
  | none => 1000000
  | some q => q.1 * 1000 + q.2
theorem bS_step (V : Nat → Nat → Nat) (b i : Nat) (hi : i < 500) (hV : V i b ≤ 1000) : bSn (bS V b (i + 1)) = min (bSn (bS V b i)) (V i b * 1000 + i) := by
  rw [bS_succ]
  cases hb : bS V b i with
  | none =>
    simp only
    by_cases c : V i b < 1000
    · rw [if_pos c]
      show V i b * 1000 + i = min 1000000 (V i b * 1000 + i)
      omega
    · rw [if_neg c]
      show 1000000 = min 1000000 (V i b * 1000 + i)
      omega
  | some q =>
    obtain ⟨q1, q2⟩ := bS_ok V b i q hb
    simp only
    by_cases c : V i b < 1000 ∧ V i b < q.1
    · rw [if_pos c]
      show V i b * 1000 + i = min (q.1 * 1000 + q.2) (V i b * 1000 + i)
      omega
    · rw [if_neg c]
      show q.1 * 1000 + q.2 = min (q.1 * 1000 + q.2) (V i b * 1000 + i)
      omega
theorem wa_leastSun {N : Nat} {σ : Mem} {a b hr : Nat} (hN : 1000 < N) (hI : Inv N σ) (hR : Rdy σ) (ha : a < 144) (hb : b < 144) (hh : hr < 24) : ∃ σ', f_Wa_leastSun N σ (nI a) (nI b) (nI hr) = some (match bS (wV σ a hr) b 37 with
      | none => -2
      | some q => nI (q.1 * 1000 + q.2), σ') ∧ Inv N σ' ∧ Fr [45, 46] [(44, 0), (44, 1)] σ σ' := by
  obtain ⟨s0, p0, W0, F0⟩ := wa_begin (N := N) (hr := hr) hN hI ha
  have hmin : ∀ i, i < 500 → bSn (bS (wV σ a hr) b (i + 1)) = min (bSn (bS (wV σ a hr) b i)) (wV σ a hr i b * 1000 + i) := fun i hi => bS_step (wV σ a hr) b i hi (wV_le σ a hr i b)
  have hlt : ∀ i, i ≤ 37 → bSn (bS (wV σ a hr) b i) ≤ 1000000 := fun i hi => by
    cases hq : bS (wV σ a hr) b i with
    | none => exact Nat.le_refl _
    | some q =>
      obtain ⟨q1, q2⟩ := bS_ok _ b i q hq
      show q.1 * 1000 + q.2 ≤ 1000000
      omega
  obtain ⟨⟨r, s1⟩, p1, v1, W1, F1⟩ : ∃ r, L_Wa_leastSun_l20 N (nI b) (nI hr) N (nI (bSn (bS (wV σ a hr) b 1))) 0 s0 = some r ∧ (r.1 = nI (bSn (bS (wV σ a hr) b 37)) ∧ WkC r.2 (wV σ a hr 36) ∧ Fr [45, 46] [(44, 0), (44, 1)] σ r.2) := by
    refine loopR (L := fun z (x : Int32 × Int32 × Mem) => L_Wa_leastSun_l20 N (nI b) (nI hr) z x.1 x.2.1 x.2.2) (P := fun i x => x.1 = nI (bSn (bS (wV σ a hr) b (i + 1))) ∧ x.2.1 = nI i ∧ WkC x.2.2 (wV σ a hr i) ∧ Fr [45, 46] [(44, 0), (44, 1)] σ x.2.2) (a := (_, 0, s0)) 36 ?_ ?_ (by omega) ⟨rfl, rfl, W0, F0⟩
    · rintro z i ⟨x, y, s⟩ hi ⟨h1, h2, h3, h4⟩
      have hx : x = _ := h1
      have hy : y = nI i := h2
      subst hx; subst hy
      obtain ⟨s2, p2, W2, F2⟩ := wa_step (N := N) hN hI hR h4 h3 (by omega)
      refine Or.inr ⟨(nI (bSn (bS (wV σ a hr) b (i + 1 + 1))), nI (i + 1), s2), ?_, rfl, rfl, W2, F2⟩
      show B_Wa_leastSun_l20 N (nI b) (nI hr) (L_Wa_leastSun_l20 N (nI b) (nI hr) z) (nI (bSn (bS (wV σ a hr) b (i + 1)))) (nI i) s = _
      obtain ⟨w, hw, e0, e1, hV⟩ := W2
      unfold B_Wa_leastSun_l20
      rw [if_neg (show ¬ ((36 : Int32) ≤ nI i) from nI_ge (b := 36) hi (by decide)), hourE hr i hh (by omega), p2]
      simp only [bnd1_s]
      rw [WkC.drf0 hw e0]
      simp only [bnd1_s]
      have hle := wV_le σ a hr (i + 1) b
      have hb1 := hlt (i + 1) (by omega)
      rw [grd_t (inb_j hb (by decide)), nI_clamp (by omega), hV b hb, show nI (wV σ a hr (i + 1) b) * 1000 = nI (wV σ a hr (i + 1) b * 1000) from pk_mul _ 1000, nI_add, nI_1, jm_min, minI_n (by omega) (by omega)]
      simp only [bnd1_s, letv, nI_1]
      rw [hmin (i + 1) (by omega), ← Nat.add_assoc]
    · rintro z ⟨x, y, s⟩ ⟨h1, h2, h3, h4⟩
      have hy : y = nI 36 := h2
      subst hy
      refine ⟨(x, s), ?_, h1, h3, h4⟩
      show B_Wa_leastSun_l20 N (nI b) (nI hr) _ x (nI 36) s = _
      unfold B_Wa_leastSun_l20
      rw [if_pos (by decide)]
  change r = _ at v1
  refine ⟨s1, ?_, hI.walk F1 W1, F1⟩
  unfold f_Wa_leastSun
  rw [p0]
  simp only [bnd1_s]
  obtain ⟨w, hw, e0, e1, hV⟩ := W0
  rw [WkC.drf0 hw e0]
  simp only [bnd1_s, letv]
  have hle := wV_le σ a hr 0 b
  have hfirst : wV σ a hr 0 b * 1000 = bSn (bS (wV σ a hr) b 1) := by
    rw [hmin 0 (by omega)]
    show _ = min 1000000 _
    omega
  rw [grd_t (inb_j hb (by decide)), nI_clamp (by omega), hV b hb, show nI (wV σ a hr 0 b) * 1000 = nI (wV σ a hr 0 b * 1000) from pk_mul _ 1000, hfirst, p1]
  simp only [bnd1_s, q2]
  rw [v1]
  cases hq : bS (wV σ a hr) b 37 with
  | none =>
    show (if (1000000 : Int32) ≤ nI 1000000 then _ else _) = _
    rw [if_pos (by decide)]
  | some q =>
    obtain ⟨q1, q2'⟩ := bS_ok _ b 37 q hq
    show (if (1000000 : Int32) ≤ nI (q.1 * 1000 + q.2) then _ else _) = _
    rw [if_neg (show ¬ (1000000 : Int32) ≤ nI (q.1 * 1000 + q.2) from nI_ge (b := 1000000) (by omega) (by decide))]
    rfl
