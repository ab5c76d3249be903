-- ===== days by drawn clouds =====
theorem sumI_ext {f : Nat → Int32} {m : Nat} (d : Nat) (h : ∀ i, m ≤ i → i < m + d → f i = 0) : sumI f (m + d) = sumI f m := by
  rw [sumI_split, sumI_zero d (fun i hi => h (m + i) (by omega) (by omega)), Int32.add_zero]
def dOc (σ : Mem) (c : Nat) : Nat := (mI σ 24 c).toNatClampNeg
def dW (σ : Mem) (h q : Nat) : Nat := (who σ h q).toNatClampNeg
def dE (W : LW) (σ : Mem) (h q : Nat) : Int32 := prc W σ h q / bitsW (who σ h q)
def dBr (W : LW) (σ : Mem) (h o : Nat) : Int32 := sumI (fun q => sumI (fun c => if ((dW σ h q).testBit c && decide (dOc σ c = o)) = true then dE W σ h q else 0) 16) 144
theorem dW_k {σ σ' : Mem} (h1 : mI σ' 38 = mI σ 38) (h2 : mI σ' 39 = mI σ 39) (h q : Nat) : dW σ' h q = dW σ h q := by
  unfold dW
  rw [who_k h1 h2]
theorem dE_k (W : LW) {σ σ' : Mem} (h0 : mI σ' 19 8 = mI σ 19 8) (h1 : mI σ' 38 = mI σ 38) (h2 : mI σ' 39 = mI σ 39) (h q : Nat) : dE W σ' h q = dE W σ h q := by
  unfold dE
  rw [prc_k W h0 h1 h2, who_k h1 h2]
theorem dOc_k {σ σ' : Mem} (h1 : mI σ' 24 = mI σ 24) : dOc σ' = dOc σ := by
  unfold dOc
  rw [h1]
/-- who casts on a square: bits of casters that are there, with owners -/
theorem dW_ok {N : Nat} {σ : Mem} (hI : Inv N σ) (hR : Rdy σ) {h q : Nat} (hh : h < 24) (hq : q < 144) : dW σ h q < 65536 ∧ who σ h q = nI (dW σ h q) ∧ ∀ c, (dW σ h q).testBit c = true → c < (mI σ 19 6).toNatClampNeg ∧ c < 16 ∧ dOc σ c < 6 ∧ mI σ 24 c = nI (dOc σ c) := by
  obtain ⟨w, n, hn, e6, hw, ew, hb⟩ := who_bits hI hR hh hq
  have hw16 : w < 65536 := Nat.lt_of_lt_of_le hw (Nat.pow_le_pow_right (n := 2) (by decide) hn)
  have e : dW σ h q = w := by
    unfold dW
    rw [ew, nI_clamp (by omega)]
  rw [e]
  refine ⟨hw16, ew, fun c hc => ?_⟩
  have hcn := (hb c hc).1
  obtain ⟨⟨-, n', s', q1, q2, q3', q4, q5, q6, q7⟩, -⟩ := hI
  have hnn : n' = n := (nI_eq (by omega) (by omega)).mp (q3'.symm.trans e6)
  subst hnn
  obtain ⟨o, ho, eo⟩ := (q7 c hcn).2.2.2.2
  change mI σ 24 c = nI o at eo
  have : dOc σ c = o := by
    unfold dOc
    rw [eo, nI_clamp (by omega)]
  rw [e6, nI_clamp (by omega), this]
  exact ⟨hcn, by omega, ho, eo⟩
theorem has_bit {w c : Nat} (hw : w < 65536) (hc : c < 32) : ((nI w >>> (nI c &&& 31)) &&& 1 = 1) ↔ w.testBit c = true := by
  have := stands_bit (s := w) (by omega) (c := c) hc
  unfold stands at this
  rw [← this]
  simp
section DaysC
variable {N : Nat} {σ : Mem} {W : LW}
theorem cl_put {h w : Nat} (hN : 100 < N) (hh : h < 24) (hw : w < 65536) (v a4 : Int32) (ho : ∀ c, w.testBit c = true → c < 16 ∧ dOc σ c < 6 ∧ mI σ 24 c = nI (dOc σ c)) : ∃ σ', L_Cl_bringHour_l43 N (nI h) a4 (nI w) v N 0 σ = some σ' ∧ ((∀ j, mI σ' 64 j = mI σ 64 j + sumI (fun c => if (w.testBit c && decide (6 * h + dOc σ c = j)) = true then v else 0) 16) ∧ Fr [64] [] σ σ') := by
  refine loopR (L := fun k (x : Int32 × Mem) => L_Cl_bringHour_l43 N (nI h) a4 (nI w) v k x.1 x.2) (P := fun i x => x.1 = nI i ∧ (∀ j, mI x.2 64 j = mI σ 64 j + sumI (fun c => if (w.testBit c && decide (6 * h + dOc σ c = j)) = true then v else 0) i) ∧ Fr [64] [] σ x.2) (a := (0, σ)) 16 ?_ ?_ (by omega) ⟨rfl, fun j => (Int32.add_zero _).symm, Fr.rf _ _ _⟩
  · rintro k i ⟨x, s⟩ hi ⟨h1, h2, h3⟩
    have hx : x = nI i := h1
    subst hx
    change Fr _ _ σ s at h3
    change ∀ j, mI s 64 j = _ at h2
    right
    show ∃ a' : Int32 × Mem, B_Cl_bringHour_l43 N (nI h) a4 (nI w) v (L_Cl_bringHour_l43 N (nI h) a4 (nI w) v k) (nI i) s = L_Cl_bringHour_l43 N (nI h) a4 (nI w) v k a'.1 a'.2 ∧ _
    unfold B_Cl_bringHour_l43
    rw [if_neg (show ¬ ((16 : Int32) ≤ nI i) from nI_ge (b := 16) hi (by decide))]
    simp only [letv, nI_1]
    by_cases c : w.testBit i = true
    · obtain ⟨-, o1, o2⟩ := ho i c
      rw [if_pos ((has_bit hw (by omega)).mpr c), grd_t (inb_j (show i < 17 by omega) (by decide)), nI_clamp (by omega), h3.I 24 i (by decide) (by simp), o2, show nI h * 6 + nI (dOc σ i) = nI (6 * h + dOc σ i) by
        show nI h * nI 6 + _ = _
        rw [pk_mul, nI_add, Nat.mul_comm], grd_t (inb_j (by omega) (by decide)), grd_t (inb_j (by omega) (by decide)), nI_clamp (by omega)]
      refine ⟨(_, _), rfl, rfl, fun j => ?_, h3.aI rfl (by decide)⟩
      show mI (sI s 64 (6 * h + dOc σ i) (mI s 64 (6 * h + dOc σ i) + v)) 64 j = _
      rw [rdI, sumI_succ, c, Bool.true_and]
      by_cases e : j = 6 * h + dOc σ i
      · subst e
        rw [if_pos ⟨rfl, rfl⟩, h2, Int32.add_assoc]
        simp
      · rw [if_neg (fun z => e z.2), h2 j, if_neg (by simpa using fun z => e z.symm), Int32.add_zero]
    · rw [if_neg (fun z => c ((has_bit hw (by omega)).mp z))]
      refine ⟨(_, _), rfl, rfl, fun j => ?_, h3⟩
      show mI s 64 j = _
      rw [sumI_succ, h2 j, if_neg (by simp [c]), Int32.add_zero]
  · rintro k ⟨x, s⟩ ⟨h1, h2, h3⟩
    have hx : x = nI 16 := h1
    subst hx
    refine ⟨s, ?_, h2, h3⟩
    show B_Cl_bringHour_l43 N (nI h) a4 (nI w) v _ (nI 16) s = _
    unfold B_Cl_bringHour_l43
    rw [if_pos (by decide)]
theorem bits_nz {w : Nat} (hw : w < 65536) (h0 : w ≠ 0) : ¬ nI (pcR w 16) = 0 := nI_ne0 (pcR_pos h0 hw) (by have := pcR_le w; omega)
theorem cl_bring {h : Nat} (hN : 1000 < N) (hI : Inv N σ) (hR : Rdy σ) (hL : DayL N σ W) (hh : h < 24) : ∃ σ', f_Cl_bringHour N σ (nI h) = some σ' ∧ ((∀ j, mI σ' 64 j = mI σ 64 j + sumI (fun q => sumI (fun c => if ((dW σ h q).testBit c && decide (6 * h + dOc σ c = j)) = true then dE W σ h q else 0) 16) 144) ∧ Fr [8, 9, 64] [] σ σ') := by
  unfold f_Cl_bringHour
  refine loopR (L := fun k (x : Int32 × Mem) => L_Cl_bringHour_l3 N (nI h) k x.1 x.2) (P := fun i x => x.1 = nI i ∧ (∀ j, mI x.2 64 j = mI σ 64 j + sumI (fun q => sumI (fun c => if ((dW σ h q).testBit c && decide (6 * h + dOc σ c = j)) = true then dE W σ h q else 0) 16) i) ∧ Fr [8, 9, 64] [] σ x.2) (a := (0, σ)) 144 ?_ ?_ (by omega) ⟨rfl, fun j => (Int32.add_zero _).symm, Fr.rf _ _ _⟩
  · rintro k i ⟨x, s⟩ hi ⟨h1, h2, h3⟩
    have hx : x = nI i := h1
    subst hx
    change Fr _ _ σ s at h3
    change ∀ j, mI s 64 j = _ at h2
    obtain ⟨hw, ew, hb⟩ := dW_ok hI hR hh hi
    have r38 : mI s 38 = mI σ 38 := h3.rowI 38 (by decide) (by simp)
    have r39 : mI s 39 = mI σ 39 := h3.rowI 39 (by decide) (by simp)
    have Is := hI.k (h3.keeps (by decide))
    have Rs := hR.k (h3.keeps (by decide))
    right
    show ∃ a' : Int32 × Mem, B_Cl_bringHour_l3 N (nI h) (L_Cl_bringHour_l3 N (nI h) k) (nI i) s = L_Cl_bringHour_l3 N (nI h) k a'.1 a'.2 ∧ _
    unfold B_Cl_bringHour_l3
    rw [if_neg (show ¬ ((144 : Int32) ≤ nI i) from nI_ge (b := 144) hi (by decide)), da_whoCasts hh hi, who_k r38 r39]
    simp only [bnd1_s, letv, nI_1]
    by_cases c : dW σ h i = 0
    · rw [ew, if_pos (by rw [c]; rfl)]
      refine ⟨(_, _), rfl, rfl, fun j => ?_, h3⟩
      show mI s 64 j = _
      rw [sumI_succ, h2 j, sumI_zero 16 (fun d _ => by rw [c]; simp), Int32.add_zero]
    · obtain ⟨s1, p1⟩ := da_priceOf (N := N) (W := W) (by omega) Is Rs (hL.k (h3.keeps (by decide))) hh hi
      have F1 := fm_Da_priceOf p1
      rw [prc_k W (h3.I 19 8 (by decide) (by simp)) r38 r39] at p1
      obtain ⟨s2, p2, v2, F2⟩ := cl_put (N := N) (σ := s1) (h := h) (w := dW σ h i) (by omega) hh hw (dE W σ h i) (nI i) (fun d hd => by
        have F01 : Fr [8, 9, 64] [] σ s1 := h3.c F1 (by decide) (by simp)
        rw [dOc_k (F01.rowI 24 (by decide) (by simp)), F01.I 24 d (by decide) (by simp)]
        exact (hb d hd).2)
      have F01 : Fr [8, 9, 64] [] σ s1 := h3.c F1 (by decide) (by simp)
      have hbw : bitsW (who σ h i) = nI (pcR (dW σ h i) 16) := rfl
      have hbc : f_JI_bitCount_0f7a4 (who σ h i) = some (nI (pcR (dW σ h i) 16)) := by
        rw [ew, bitCount_eq hw]
      rw [if_neg (by rw [ew]; exact nI_ne0 (by omega) (by omega)), p1]
      simp only [bnd2_s]
      rw [hbc]
      simp only [bnd1_s]
      rw [grd_t (by simp [bits_nz hw c]), ← hbw, show prc W σ h i / bitsW (who σ h i) = dE W σ h i from rfl, ew, p2]
      refine ⟨(_, _), rfl, rfl, fun j => ?_, F01.c F2 (by decide) (by simp)⟩
      show mI s2 64 j = _
      rw [v2 j, F1.I 64 j (by decide) (by simp), h2 j, sumI_succ _ i, Int32.add_assoc, dOc_k (F01.rowI 24 (by decide) (by simp))]
  · rintro k ⟨x, s⟩ ⟨h1, h2, h3⟩
    have hx : x = nI 144 := h1
    subst hx
    refine ⟨s, ?_, h2, h3⟩
    show B_Cl_bringHour_l3 N (nI h) _ (nI 144) s = _
    unfold B_Cl_bringHour_l3
    rw [if_pos (by decide)]
theorem dBr_at (hI : Inv N σ) (hR : Rdy σ) {h g o : Nat} (hh : h < 24) (ho : o < 6) : sumI (fun q => sumI (fun c => if ((dW σ h q).testBit c && decide (6 * h + dOc σ c = 6 * g + o)) = true then dE W σ h q else 0) 16) 144 = if g = h then dBr W σ h o else 0 := by
  by_cases e : g = h
  · subst e
    rw [if_pos rfl]
    unfold dBr
    refine sumI_congr 144 (fun q _ => sumI_congr 16 (fun c _ => ?_))
    have : decide (6 * g + dOc σ c = 6 * g + o) = decide (dOc σ c = o) := by
      by_cases q : dOc σ c = o
      · simp [q]
      · simp [q]
    rw [this]
  · rw [if_neg e]
    refine sumI_zero 144 (fun q hq => sumI_zero 16 (fun c _ => ?_))
    rw [if_neg]
    intro z
    simp only [Bool.and_eq_true, decide_eq_true_eq] at z
    obtain ⟨-, -, h1, -⟩ := (dW_ok hI hR hh hq).2.2 c z.1
    omega
theorem cl_allHours (hN : 1000 < N) (hI : Inv N σ) (hR : Rdy σ) (hL : DayL N σ W) (a3 : Int32) : ∃ σ', (bnd1 (f_JA_fill_53178 N σ 64 144 0) fun σ5 => L_Cl_drawDays_l11 N a3 N 0 σ5) = some σ' ∧ ((∀ h o, h < 24 → o < 6 → mI σ' 64 (6 * h + o) = if mI σ 34 h = 0 then 0 else dBr W σ h o) ∧ Fr [8, 9, 64] [] σ σ') := by
  obtain ⟨s0, q0, v0⟩ := ja_fill (N := N) (σ := σ) (g := 64) (n := 144) 0 (by omega) (by decide)
  have F0 := fm_JA_fill_53178 q0
  rw [q0]
  simp only [bnd1_s]
  obtain ⟨r, p, v, F⟩ := loopR (L := fun k (x : Int32 × Mem) => L_Cl_drawDays_l11 N a3 k x.1 x.2) (P := fun i x => x.1 = nI i ∧ (∀ h o, h < 24 → o < 6 → mI x.2 64 (6 * h + o) = if h < i ∧ mI σ 34 h ≠ 0 then dBr W σ h o else 0) ∧ Fr [8, 9, 64] [] σ x.2) (Q := fun r => (∀ h o, h < 24 → o < 6 → mI r 64 (6 * h + o) = if h < 24 ∧ mI σ 34 h ≠ 0 then dBr W σ h o else 0) ∧ Fr [8, 9, 64] [] σ r) (a := (0, s0)) (K := N) 24 (by
    rintro k i ⟨x, s⟩ hi ⟨h1, h2, h3⟩
    have hx : x = nI i := h1
    subst hx
    change Fr _ _ σ s at h3
    change ∀ h o, h < 24 → o < 6 → mI s 64 (6 * h + o) = _ at h2
    have Is := hI.k (h3.keeps (by decide))
    have Rs := hR.k (h3.keeps (by decide))
    right
    show ∃ a' : Int32 × Mem, B_Cl_drawDays_l11 N a3 (L_Cl_drawDays_l11 N a3 k) (nI i) s = L_Cl_drawDays_l11 N a3 k a'.1 a'.2 ∧ _
    unfold B_Cl_drawDays_l11
    rw [if_neg (show ¬ ((24 : Int32) ≤ nI i) from nI_ge (b := 24) hi (by decide)), da_isUp Is Rs hi, h3.I 34 i (by decide) (by simp)]
    simp only [bnd1_s, letv, nI_1]
    by_cases c : mI σ 34 i = 0
    · rw [if_pos c]
      refine ⟨(_, _), rfl, rfl, fun h o hh ho => ?_, h3⟩
      show mI s 64 (6 * h + o) = _
      rw [h2 h o hh ho]
      by_cases e : h = i
      · subst e
        rw [if_neg (fun z => z.2 c), if_neg (fun z => z.2 c)]
      · by_cases q : h < i
        · by_cases u : mI σ 34 h = 0
          · rw [if_neg (fun z => z.2 u), if_neg (fun z => z.2 u)]
          · rw [if_pos ⟨q, u⟩, if_pos ⟨by omega, u⟩]
        · rw [if_neg (fun z => q z.1), if_neg (fun z => by omega)]
    · obtain ⟨s1, p1, v1, F1⟩ := cl_bring (N := N) (W := W) hN Is Rs (hL.k (h3.keeps (by decide))) hi
      rw [if_neg c, p1]
      refine ⟨(_, _), rfl, rfl, fun h o hh ho => ?_, h3.t F1⟩
      show mI s1 64 (6 * h + o) = _
      rw [v1, h2 h o hh ho, dBr_at Is Rs hi ho]
      have eB : dBr W s i o = dBr W σ i o := by
        unfold dBr
        refine sumI_congr 144 (fun q _ => ?_)
        rw [dW_k (h3.rowI 38 (by decide) (by simp)) (h3.rowI 39 (by decide) (by simp)), dOc_k (h3.rowI 24 (by decide) (by simp)), dE_k W (h3.I 19 8 (by decide) (by simp)) (h3.rowI 38 (by decide) (by simp)) (h3.rowI 39 (by decide) (by simp))]
      rw [eB]
      by_cases e : h = i
      · subst e
        rw [if_neg (fun z => Nat.lt_irrefl h z.1), if_pos rfl, if_pos ⟨by omega, c⟩, Int32.zero_add]
      · rw [if_neg e, Int32.add_zero]
        by_cases q : h < i
        · by_cases u : mI σ 34 h = 0
          · rw [if_neg (fun z => z.2 u), if_neg (fun z => z.2 u)]
          · rw [if_pos ⟨q, u⟩, if_pos ⟨by omega, u⟩]
        · rw [if_neg (fun z => q z.1), if_neg (fun z => by omega)]) (by
    rintro k ⟨x, s⟩ ⟨h1, h2, h3⟩
    have hx : x = nI 24 := h1
    subst hx
    refine ⟨s, ?_, h2, h3⟩
    show B_Cl_drawDays_l11 N a3 _ (nI 24) s = _
    unfold B_Cl_drawDays_l11
    rw [if_pos (by decide)]) (by omega) ⟨rfl, fun h o hh ho => by rw [if_neg (fun z => absurd z.1 (Nat.not_lt_zero h))]; show mI s0 64 _ = 0; rw [v0, if_pos (by omega)], F0.mono (by decide) (by simp)⟩
  refine ⟨r, p, fun h o hh ho => ?_, F⟩
  rw [v h o hh ho]
  by_cases u : mI σ 34 h = 0
  · rw [if_neg (fun z => z.2 u), if_pos u]
  · rw [if_pos ⟨hh, u⟩, if_neg u]
theorem cl_payHour {h : Nat} {B : Nat → Int32} (hN : 100 < N) (hh : h < 24) (hB : ∀ o, o < 6 → mI σ 64 (6 * h + o) = B o) : ∃ r, f_Cl_payHour N σ (nI h) = some r ∧ (r.1 = sumI B 6 ∧ (∀ o, o < 6 → mI r.2 25 o = mI σ 25 o + B o) ∧ Fr [25] [] σ r.2) := by
  unfold f_Cl_payHour
  obtain ⟨r, p, v1, v2, v3⟩ := loopR (L := fun k (x : Int32 × Int32 × Mem) => L_Cl_payHour_l5 N (nI h) k x.1 x.2.1 x.2.2) (P := fun i x => x.1 = sumI B i ∧ x.2.1 = nI i ∧ (∀ o, o < 6 → mI x.2.2 25 o = if o < i then mI σ 25 o + B o else mI σ 25 o) ∧ Fr [25] [] σ x.2.2) (Q := fun r => r.1 = sumI B 6 ∧ (∀ o, o < 6 → mI r.2 25 o = if o < 6 then mI σ 25 o + B o else mI σ 25 o) ∧ Fr [25] [] σ r.2) (a := (0, 0, σ)) (K := N) 6 (by
    rintro k i ⟨x, y, s⟩ hi ⟨h1, h2, h3, h4⟩
    have hx : x = _ := h1
    have hy : y = nI i := h2
    subst hx; subst hy
    change Fr _ _ σ s at h4
    change ∀ o, o < 6 → mI s 25 o = _ at h3
    refine Or.inr ⟨(sumI B (i + 1), nI (i + 1), sI s 25 i (mI σ 25 i + B i)), ?_, rfl, rfl, fun o ho => ?_, h4.aI rfl (by decide)⟩
    · show B_Cl_payHour_l5 N (nI h) (L_Cl_payHour_l5 N (nI h) k) (sumI B i) (nI i) s = _
      unfold B_Cl_payHour_l5
      rw [if_neg (show ¬ ((6 : Int32) ≤ nI i) from nI_ge (b := 6) hi (by decide)), show nI h * 6 + nI i = nI (6 * h + i) by
        show nI h * nI 6 + _ = _
        rw [pk_mul, nI_add, Nat.mul_comm], grd_t (inb_j (by omega) (by decide)), nI_clamp (by omega), h4.I 64 _ (by decide) (by simp), hB i hi]
      simp only [letv, nI_1]
      rw [grd_t (inb_j hi (by decide)), grd_t (inb_j hi (by decide)), nI_clamp (by omega), h3 i hi, if_neg (Nat.lt_irrefl i)]
      rfl
    · show mI (sI s 25 i (mI σ 25 i + B i)) 25 o = _
      rw [rdI]
      by_cases e : o = i
      · subst e
        rw [if_pos ⟨rfl, rfl⟩, if_pos (by omega)]
      · rw [if_neg (fun z => e z.2), h3 o ho]
        by_cases q : o < i
        · rw [if_pos q, if_pos (by omega)]
        · rw [if_neg q, if_neg (by omega)]) (by
    rintro k ⟨x, y, s⟩ ⟨h1, h2, h3, h4⟩
    have hy : y = nI 6 := h2
    subst hy
    refine ⟨(x, s), ?_, h1, h3, h4⟩
    show B_Cl_payHour_l5 N (nI h) _ x (nI 6) s = _
    unfold B_Cl_payHour_l5
    rw [if_pos (by decide)]) (by omega) ⟨rfl, rfl, fun o _ => by rw [if_neg (Nat.not_lt_zero o)], Fr.rf _ _ _⟩
  exact ⟨r, p, v1, fun o ho => by rw [v2 o ho, if_pos ho], v3⟩
end DaysC
-- what both sides come to
def lcg (x : Int32) : Int32 := ((25173 * x) + 13849) - ((25173 * x) + 13849) / 65536 * 65536
def xS (x : Int32) : Nat → Int32
  | 0 => x
  | k + 1 => lcg (xS x k)
theorem lcg_ok {x : Nat} (h : x < 65536) : ∃ y : Nat, y < 65536 ∧ lcg (nI x) = nI y := by
  refine ⟨(25173 * x + 13849) % 65536, Nat.mod_lt _ (by decide), ?_⟩
  unfold lcg
  have e : (25173 : Int32) * nI x + 13849 = nI (25173 * x + 13849) := by
    show nI 25173 * nI x + nI 13849 = _
    rw [pk_mul, nI_add]
  rw [e]
  exact pk_rem (d := 65536) (by omega) (by decide) (by decide)
theorem xS_ok {x : Nat} (h : x < 65536) : ∀ k, ∃ y : Nat, y < 65536 ∧ xS (nI x) k = nI y := by
  intro k
  induction k with
  | zero => exact ⟨x, h, rfl⟩
  | succ k ih =>
    obtain ⟨y, hy, ey⟩ := ih
    show ∃ y, y < 65536 ∧ lcg (xS (nI x) k) = nI y
    rw [ey]
    exact lcg_ok hy
/-- whether an hour pays, its X drawn -/
def pyB (σ : Mem) (h : Nat) (x : Int32) : Bool := decide (mI σ 34 h ≠ 0) && !decide (x - x / 10 * 10 < mI σ 37 h)
def tmT (W : LW) (σ : Mem) (x : Int32) (k : Nat) : Int32 := if pyB σ (k % 24) (xS x (k + 1)) then sumI (dBr W σ (k % 24)) 6 else 0
def tmP (W : LW) (σ : Mem) (x : Int32) (o k : Nat) : Int32 := if pyB σ (k % 24) (xS x (k + 1)) then dBr W σ (k % 24) o else 0
theorem da_cloudAt {σ : Mem} {h : Nat} (hh : h < 24) : f_Da_cloudAt σ (nI h) = some (mI σ 37 h) := by
  unfold f_Da_cloudAt
  rw [hour_t hh]
  simp only [bnd1_s, if_neg ne10]
  rw [grd_t (inb_j hh (by decide)), nI_clamp (by omega)]
theorem cl_draw {N : Nat} {σ σ0 : Mem} {W : LW} {d : Nat} (hN : 5000 < N) (hI : Inv N σ0) (hR : Rdy σ0) (hd : d ≤ 30) (F0 : Fr [8, 9, 64] [] σ0 σ) (hB : ∀ h o, h < 24 → o < 6 → mI σ 64 (6 * h + o) = if mI σ0 34 h = 0 then 0 else dBr W σ0 h o) : ∃ r, L_Cl_drawDays_l47 N (nI d) N 0 0 σ = some r ∧ (r.1 = sumI (tmT W σ0 (mI σ0 19 9)) (24 * d) ∧ mI r.2 19 9 = xS (mI σ0 19 9) (24 * d) ∧ (∀ o, o < 6 → mI r.2 25 o = mI σ0 25 o + sumI (tmP W σ0 (mI σ0 19 9) o) (24 * d)) ∧ Fr [8, 9, 25, 64] [(19, 9)] σ0 r.2) := by
  have ed : nI d * 24 = nI (24 * d) := by
    show nI d * nI 24 = _
    rw [pk_mul, Nat.mul_comm]
  refine loopR (L := fun k (x : Int32 × Int32 × Mem) => L_Cl_drawDays_l47 N (nI d) k x.1 x.2.1 x.2.2) (P := fun i x => x.1 = sumI (tmT W σ0 (mI σ0 19 9)) i ∧ x.2.1 = nI i ∧ mI x.2.2 19 9 = xS (mI σ0 19 9) i ∧ (∀ o, o < 6 → mI x.2.2 25 o = mI σ0 25 o + sumI (tmP W σ0 (mI σ0 19 9) o) i) ∧ mI x.2.2 64 = mI σ 64 ∧ Fr [8, 9, 25, 64] [(19, 9)] σ0 x.2.2) (a := (0, 0, σ)) (24 * d) ?_ ?_ (by omega) ⟨rfl, rfl, F0.I 19 9 (by decide) (by simp), fun o _ => (congrFun (F0.rowI 25 (by decide) (by simp)) o).trans (Int32.add_zero _).symm, rfl, F0.mono (by decide) (by simp)⟩
  · rintro k i ⟨x, y, s⟩ hi ⟨h1, h2, h3, h4, h5, h6⟩
    have hx : x = _ := h1
    have hy : y = nI i := h2
    subst hx; subst hy
    change mI s 19 9 = _ at h3
    change ∀ o, o < 6 → mI s 25 o = _ at h4
    change mI s 64 = _ at h5
    change Fr _ _ σ0 s at h6
    have hm : i % 24 < 24 := Nat.mod_lt _ (by decide)
    obtain ⟨X, hX⟩ : ∃ X, X = xS (mI σ0 19 9) (i + 1) := ⟨_, rfl⟩
    have F72 : Fr [8, 9, 25, 64] [(19, 9)] σ0 (sI s 19 9 X) := h6.fI rfl (by decide)
    have e34 : mI (sI s 19 9 X) 34 (i % 24) = mI σ0 34 (i % 24) := F72.I 34 _ (by decide) (by simp)
    have e37 : mI (sI s 19 9 X) 37 (i % 24) = mI σ0 37 (i % 24) := F72.I 37 _ (by decide) (by simp)
    have hup : f_Da_isUp (sI s 19 9 X) (nI (i % 24)) = some (mI σ0 34 (i % 24)) := by
      unfold f_Da_isUp
      rw [hour_t hm]
      simp only [bnd1_s, if_neg ne10]
      rw [grd_t (inb_j hm (by decide)), nI_clamp (by omega), e34]
      rcases up01 hI hR hm with e | e <;> rw [e] <;> rfl
    right
    show ∃ a' : Int32 × Int32 × Mem, B_Cl_drawDays_l47 N (nI d) (L_Cl_drawDays_l47 N (nI d) k) _ (nI i) s = L_Cl_drawDays_l47 N (nI d) k a'.1 a'.2.1 a'.2.2 ∧ _
    unfold B_Cl_drawDays_l47
    rw [ed, if_neg (nI_ge hi (by omega)), h3, show ((25173 * xS (mI σ0 19 9) i) + 13849) - ((25173 * xS (mI σ0 19 9) i) + 13849) / 65536 * 65536 = X from hX.symm, show nI i - nI i / 24 * 24 = nI (i % 24) from pk_rem (d := 24) (by omega) (by decide) (by decide)]
    simp only [letv, nI_1]
    rw [hup]
    simp only [bnd1_s]
    rw [da_cloudAt hm, e37, sI_s]
    simp only [bnd1_s]
    have hT : tmT W σ0 (mI σ0 19 9) i = if pyB σ0 (i % 24) X then sumI (dBr W σ0 (i % 24)) 6 else 0 := by rw [hX]; rfl
    have hP : ∀ o, tmP W σ0 (mI σ0 19 9) o i = if pyB σ0 (i % 24) X then dBr W σ0 (i % 24) o else 0 := fun o => by rw [hX]; rfl
    have hno : pyB σ0 (i % 24) X = false → ∃ a' : Int32 × Int32 × Mem, L_Cl_drawDays_l47 N (nI d) k (sumI (tmT W σ0 (mI σ0 19 9)) i) (nI (i + 1)) (sI s 19 9 X) = L_Cl_drawDays_l47 N (nI d) k a'.1 a'.2.1 a'.2.2 ∧ (a'.1 = sumI (tmT W σ0 (mI σ0 19 9)) (i + 1) ∧ a'.2.1 = nI (i + 1) ∧ mI a'.2.2 19 9 = xS (mI σ0 19 9) (i + 1) ∧ (∀ o, o < 6 → mI a'.2.2 25 o = mI σ0 25 o + sumI (tmP W σ0 (mI σ0 19 9) o) (i + 1)) ∧ mI a'.2.2 64 = mI σ 64 ∧ Fr [8, 9, 25, 64] [(19, 9)] σ0 a'.2.2) := fun hf => by
      refine ⟨(_, _, sI s 19 9 X), rfl, ?_, rfl, (sI_s _ _ _ _).trans hX, fun o ho => ?_, h5, F72⟩
      · rw [sumI_succ, hT, hf, if_neg f10, Int32.add_zero]
      · rw [sumI_succ, hP, hf, if_neg f10, Int32.add_zero]
        exact (sI_n _ _ (by omega)).trans (h4 o ho)
    by_cases c1 : mI σ0 34 (i % 24) = 0
    · rw [if_pos c1]
      exact hno (by unfold pyB; simp [c1])
    · rw [if_neg c1]
      by_cases c2 : X - X / 10 * 10 < mI σ0 37 (i % 24)
      · rw [if_pos c2]
        exact hno (by unfold pyB; simp [c2])
      · rw [if_neg c2]
        have hpy : pyB σ0 (i % 24) X = true := by
          unfold pyB
          simp only [c1, c2, ne_eq, not_false_eq_true, decide_true, decide_false, Bool.not_false, Bool.and_self]
        obtain ⟨⟨r, s'⟩, p, v1, v2, v3⟩ := cl_payHour (N := N) (σ := sI s 19 9 X) (h := i % 24) (B := dBr W σ0 (i % 24)) (by omega) hm (fun o ho => by
          rw [sI_n _ _ (by omega), h5, hB _ o hm ho, if_neg c1])
        change r = _ at v1
        change ∀ o, o < 6 → mI s' 25 o = _ at v2
        change Fr _ _ _ s' at v3
        rw [p]
        refine ⟨(_, _, s'), rfl, ?_, rfl, ?_, fun o ho => ?_, ?_, F72.c v3 (by decide) (by simp)⟩
        · rw [v1, sumI_succ _ i, hT, hpy, if_pos rfl]
        · show mI s' 19 9 = _
          rw [v3.I 19 9 (by decide) (by simp), sI_s, hX]
        · show mI s' 25 o = _
          rw [v2 o ho, sI_n _ _ (by omega), h4 o ho, sumI_succ, hP, hpy, if_pos rfl, Int32.add_assoc]
        · show mI s' 64 = _
          rw [v3.rowI 64 (by decide) (by simp)]
          exact h5
  · rintro k ⟨x, y, s⟩ ⟨h1, h2, h3, h4, h5, h6⟩
    have hy : y = nI (24 * d) := h2
    subst hy
    refine ⟨(x, s), ?_, h1, h3, h4, h6⟩
    show B_Cl_drawDays_l47 N (nI d) _ x (nI (24 * d)) s = _
    unfold B_Cl_drawDays_l47
    rw [ed, if_pos (nI_le (Nat.le_refl _) (by omega))]
