-- ===== days by drawn clouds: the reference =====
section DaysM
variable {N : Nat} {σ : Mem} {W : LW}
theorem mo_put {n w : Nat} (hN : 100 < N) (hn : n ≤ 16) (e0 : mI σ 65 0 = nI n) (hw : w < 65536) (v : Int32) (ho : ∀ c, w.testBit c = true → c < n ∧ dOc σ c < 6 ∧ mI σ 70 c = nI (dOc σ c)) : ∃ r, L_Mo_pays_l29 N (nI w) v N 0 σ = some r ∧ (r.1 = v * nI (pcR w 16) ∧ (∀ o, mI r.2 71 o = mI σ 71 o + sumI (fun c => if (w.testBit c && decide (dOc σ c = o)) = true then v else 0) 16) ∧ Fr [71] [] σ r.2) := by
  obtain ⟨r, p, v1, v2, v3⟩ := loopR (L := fun k (x : Int32 × Mem) => L_Mo_pays_l29 N (nI w) v k x.1 x.2) (P := fun i x => x.1 = nI i ∧ (∀ o, mI x.2 71 o = mI σ 71 o + sumI (fun c => if (w.testBit c && decide (dOc σ c = o)) = true then v else 0) i) ∧ Fr [71] [] σ x.2) (Q := fun r => r.1 = v * nI (pcR w 16) ∧ (∀ o, mI r.2 71 o = mI σ 71 o + sumI (fun c => if (w.testBit c && decide (dOc σ c = o)) = true then v else 0) n) ∧ Fr [71] [] σ r.2) (a := (0, σ)) (K := N) n (by
    rintro k i ⟨x, s⟩ hi ⟨h1, h2, h3⟩
    have hx : x = nI i := h1
    subst hx
    change Fr _ _ σ s at h3
    change ∀ j, mI s 71 j = _ at h2
    right
    show ∃ a' : Int32 × Mem, B_Mo_pays_l29 N (nI w) v (L_Mo_pays_l29 N (nI w) v k) (nI i) s = L_Mo_pays_l29 N (nI w) v k a'.1 a'.2 ∧ _
    unfold B_Mo_pays_l29
    rw [h3.I 65 0 (by decide) (by simp), e0, if_neg (nI_ge hi (by omega)), mo_has, stands_bit (by omega) (by omega)]
    simp only [bnd1_s, letv, nI_1]
    by_cases c : w.testBit i = true
    · obtain ⟨-, o1, o2⟩ := ho i c
      rw [if_pos c, if_neg ne10, grd_t (inb_j (show i < 17 by omega) (by decide)), grd_t (inb_j (show i < 17 by omega) (by decide)), nI_clamp (show i < 2 ^ 31 by omega), h3.I 70 i (by decide) (by simp), o2, grd_t (inb_j o1 (by decide)), grd_t (inb_j o1 (by decide)), nI_clamp (show dOc σ i < 2 ^ 31 by omega)]
      refine ⟨(_, _), rfl, rfl, fun j => ?_, h3.aI rfl (by decide)⟩
      show mI (sI s 71 (dOc σ i) (mI s 71 (dOc σ i) + v)) 71 j = _
      rw [rdI, sumI_succ, c, Bool.true_and]
      by_cases e : j = dOc σ i
      · subst e
        rw [if_pos ⟨rfl, rfl⟩, h2, Int32.add_assoc]
        simp
      · rw [if_neg (fun z => e z.2), h2 j, if_neg (by simpa using fun z => e z.symm), Int32.add_zero]
    · rw [if_neg c, if_pos rfl]
      refine ⟨(_, _), rfl, rfl, fun j => ?_, h3⟩
      show mI s 71 j = _
      rw [sumI_succ, h2 j, if_neg (by simp [c]), Int32.add_zero]) (by
    rintro k ⟨x, s⟩ ⟨h1, h2, h3⟩
    have hx : x = nI n := h1
    subst hx
    change Fr _ _ σ s at h3
    refine ⟨(_, s), ?_, rfl, h2, h3⟩
    show B_Mo_pays_l29 N (nI w) v _ (nI n) s = _
    unfold B_Mo_pays_l29
    rw [h3.I 65 0 (by decide) (by simp), e0, if_pos (nI_le (Nat.le_refl _) (by omega)), mo_bits hN hw]
    rfl) (by omega) ⟨rfl, fun j => (Int32.add_zero _).symm, Fr.rf _ _ _⟩
  refine ⟨r, p, v1, fun o => ?_, v3⟩
  rw [v2 o, ← sumI_ext (m := n) (16 - n) (fun c h1 h2 => by
    rw [if_neg]
    intro z
    simp only [Bool.and_eq_true] at z
    have := (ho c z.1).1
    omega), show n + (16 - n) = 16 by omega]
/-- what the reference's day rests on, purses and X aside -/
def DyM (N : Nat) (σ : Mem) (W : LW) (nt : Nat) : Prop := nt ≤ 16 ∧ mI σ 65 0 = nI nt ∧ mI σ 65 2 = mI σ 19 8 ∧ LawOk W.1 W.2.2.1 ∧ LawM N σ W.1 W.2.1 W.2.2.1 W.2.2.2 ∧ DayEq σ ∧ SkyOk σ W.1 W.2.1 W.2.2.1 W.2.2.2 ∧ (∀ c, c < 16 → mI σ 70 c = mI σ 24 c) ∧ ∀ h q, h < 24 → q < 144 → dW σ h q < 65536 ∧ who σ h q = nI (dW σ h q) ∧ ∀ c, (dW σ h q).testBit c = true → c < nt ∧ c < 16 ∧ dOc σ c < 6 ∧ mI σ 24 c = nI (dOc σ c)
theorem DyM.of {N : Nat} {σ : Mem} {W : LW} (hI : Inv N σ) (hR : Rdy σ) (hL : DayL N σ W) (hD : DayEq σ) : ∃ nt, DyM N σ W nt := by
  obtain ⟨nt, hnt, e6, e0, e1, e2, e3, ec, hz, hT⟩ := hI.mtown
  refine ⟨nt, hnt, e0, e2, hL.1, hL.2.2.1, hD, hL.2.2.2, fun c hc => (ec c hc).2.2.2.2, fun h q hh hq => ?_⟩
  have := dW_ok hI hR hh hq
  rw [e6, nI_clamp (by omega)] at this
  exact this
theorem DyM.k {N : Nat} {σ σ' : Mem} {W : LW} {nt : Nat} (h : DyM N σ W nt) (g : Keeps [24, 34, 35, 36, 37, 38, 39, 70, 79, 80, 81, 82, 83, 86, 87, 88] [(65, 0), (65, 2), (19, 8), (65, 20), (33, 6)] σ σ') : DyM N σ' W nt := by
  obtain ⟨h1, h2, h3, h4, h5, h6, h7, h8, h9⟩ := h
  refine ⟨h1, (g.f 65 0 (by decide)).trans h2, by rw [g.f 65 2 (by decide), g.f 19 8 (by decide)]; exact h3, h4, h5.k (g.sub (by decide) (by decide)), h6.k (g.sub (by decide) (by decide)), h7.k (g.sub (by decide) (by decide)), fun c hc => by rw [g.r 70 (by decide), g.r 24 (by decide)]; exact h8 c hc, fun a q ha hq => ?_⟩
  rw [dW_k (g.r 38 (by decide)) (g.r 39 (by decide)), dOc_k (g.r 24 (by decide)), who_k (g.r 38 (by decide)) (g.r 39 (by decide)), g.r 24 (by decide)]
  exact h9 a q ha hq
theorem mo_priceG {N : Nat} {σ : Mem} {W : LW} {nt : Nat} (hN : 100 < N) (hM : DyM N σ W nt) {h sq : Nat} (hh : h < 24) (hs : sq < 144) : ∃ σ', f_Mo_priceOf N σ (nI sq) (nI h) = some (prc W σ h sq, σ') := by
  obtain ⟨-, -, e2, ok, hm, hD, -, -, hb⟩ := hM
  obtain ⟨hw, ew, -⟩ := hb h sq hh hs
  obtain ⟨s, p, t⟩ := mo_feels hN σ (nI h)
  rw [e2] at t
  have F := fm_Mo_feels p
  have F2 : Fr [85] [] σ (sI (sI s 85 2 (nI sq - nI sq / 12 * 12)) 85 3 (nI sq / 12)) := (F.aI rfl (by decide)).aI rfl (by decide)
  have F3 : Fr [85] [] σ (sI (sI (sI s 85 2 (nI sq - nI sq / 12 * 12)) 85 3 (nI sq / 12)) 85 4 (bitsW (who σ h sq))) := F2.aI rfl (by decide)
  have t2 : FF (sI (sI (sI s 85 2 (nI sq - nI sq / 12 * 12)) 85 3 (nI sq / 12)) 85 4 (bitsW (who σ h sq))) (fSq (nI h) (mI σ 19 8) (nI sq) (bitsW (who σ h sq))) := fun j hj => by
    rw [rdI, rdI, rdI, fSq_at]
    by_cases e4 : j = 4
    · rw [if_pos ⟨rfl, e4⟩, if_pos e4]
    · rw [if_neg (fun z => e4 z.2), if_neg e4]
      by_cases e3 : j = 3
      · rw [if_pos ⟨rfl, e3⟩, if_pos e3]
      · rw [if_neg (fun z => e3 z.2), if_neg e3]
        by_cases e2 : j = 2
        · rw [if_pos ⟨rfl, e2⟩, if_pos e2]
        · rw [if_neg (fun z => e2 z.2), if_neg e2]
          exact t j hj
  obtain ⟨⟨r, s'⟩, q1, q2⟩ := mo_byLaw hN ok hm (F3.mono (by decide) (by simp)) t2 (l := 112) (lo := 0) (hi := 99) (by decide)
  refine ⟨s', ?_⟩
  have hbm : f_Mo_bits N (who σ h sq) = some (bitsW (who σ h sq)) := by
    unfold bitsW
    rw [ew, mo_bits hN hw, nI_clamp (by omega)]
  unfold f_Mo_priceOf
  rw [p]
  simp only [bnd1_s, letv]
  rw [mo_whoOn (hD.k (F2.keeps (by decide))) hh hs, who_k (F2.rowI 38 (by decide) (by simp)) (F2.rowI 39 (by decide) (by simp))]
  simp only [bnd1_s]
  rw [hbm]
  simp only [bnd1_s]
  rw [q1]
  change r = _ at q2
  rw [q2]
  rfl
theorem mo_pays {h q nt : Nat} (hN : 1000 < N) (hM : DyM N σ W nt) (hh : h < 24) (hq : q < 144) : ∃ r, f_Mo_pays N σ (nI h) (nI q) = some r ∧ (r.1 = dE W σ h q * bitsW (who σ h q) ∧ (∀ o, mI r.2 71 o = mI σ 71 o + sumI (fun c => if ((dW σ h q).testBit c && decide (dOc σ c = o)) = true then dE W σ h q else 0) 16) ∧ Fr [71, 84, 85] [] σ r.2) := by
  have hM' := hM
  obtain ⟨hnt, e0, e2, ok, hm, hD, -, ec, hb⟩ := hM'
  obtain ⟨hw, ew, hb⟩ := hb h q hh hq
  unfold f_Mo_pays
  rw [mo_whoOn hD hh hq]
  simp only [bnd1_s]
  by_cases c : dW σ h q = 0
  · rw [if_pos (by rw [ew, c]; rfl)]
    refine ⟨(0, σ), rfl, ?_, fun o => ?_, Fr.rf _ _ _⟩
    · have : bitsW (who σ h q) = 0 := by
        unfold bitsW
        rw [show (who σ h q).toNatClampNeg = 0 from c]
        decide
      rw [this, Int32.mul_zero]
    · rw [sumI_zero 16 (fun d _ => by rw [c]; simp), Int32.add_zero]
  · rw [if_neg (by rw [ew]; exact nI_ne0 (by omega) (by omega))]
    obtain ⟨s1, p1⟩ := mo_priceG (N := N) (W := W) (by omega) hM hh hq
    have F1 := fm_Mo_priceOf p1
    have hbw : bitsW (who σ h q) = nI (pcR (dW σ h q) 16) := rfl
    have hbc : f_Mo_bits N (who σ h q) = some (nI (pcR (dW σ h q) 16)) := by
      rw [ew, mo_bits (by omega) hw]
    obtain ⟨r, p2, v1, v2, v3⟩ := mo_put (N := N) (σ := s1) (n := nt) (w := dW σ h q) (by omega) hnt ((F1.I 65 0 (by decide) (by simp)).trans e0) hw (dE W σ h q) (fun d hd => by
      obtain ⟨q1, q2, q3, q4⟩ := hb d hd
      rw [dOc_k (F1.rowI 24 (by decide) (by simp)), F1.I 70 d (by decide) (by simp), ec d q2]
      exact ⟨q1, q3, q4⟩)
    rw [p1]
    simp only [bnd2_s]
    rw [hbc]
    simp only [bnd1_s, letv]
    rw [grd_t (by simp [bits_nz hw c]), ← hbw, show prc W σ h q / bitsW (who σ h q) = dE W σ h q from rfl, ew, p2]
    refine ⟨r, rfl, ?_, fun o => ?_, (F1.mono (by decide) (by simp)).c v3 (by decide) (by simp)⟩
    · rw [v1, ← ew, hbw]
    · rw [v2 o, F1.I 71 o (by decide) (by simp), dOc_k (F1.rowI 24 (by decide) (by simp))]
/-- what an hour brings in all -/
theorem hour_sum {nt : Nat} (hM : DyM N σ W nt) {h : Nat} (hh : h < 24) : sumI (fun q => dE W σ h q * bitsW (who σ h q)) 144 = sumI (dBr W σ h) 6 := by
  unfold dBr
  rw [sumI_comm (fun o q => sumI (fun c => if ((dW σ h q).testBit c && decide (dOc σ c = o)) = true then dE W σ h q else 0) 16)]
  refine sumI_congr 144 (fun q hq => ?_)
  obtain ⟨hw, ew, hb⟩ := hM.2.2.2.2.2.2.2.2 h q hh hq
  rw [show bitsW (who σ h q) = nI (pcR (dW σ h q) 16) from rfl, pcR_cnt, mul_cnt]
  rw [sumI_comm (fun o c => if ((dW σ h q).testBit c && decide (dOc σ c = o)) = true then dE W σ h q else 0)]
  refine sumI_congr 16 (fun c _ => ?_)
  show (if (dW σ h q).testBit c = true then _ else _) = _
  by_cases t : (dW σ h q).testBit c = true
  · obtain ⟨-, -, o1, -⟩ := hb c t
    rw [if_pos t, sumI_one (j := dOc σ c) 6 o1 (fun i _ hne => by rw [if_neg]; simp only [Bool.and_eq_true, decide_eq_true_eq]; exact fun z => hne z.2.symm)]
    simp [t]
  · rw [if_neg t]
    exact (sumI_zero 6 (fun i _ => by rw [if_neg]; simp [t])).symm
theorem mo_hourPays {h nt : Nat} (hN : 1000 < N) (hM : DyM N σ W nt) (hh : h < 24) (x : Int32) {s0 : Mem} (F0 : Fr [71, 84, 85] [(65, 3)] σ s0) : ∃ r, L_Mo_dayPays_l59 N (nI h) N x 0 s0 = some r ∧ (r.1 = x + sumI (dBr W σ h) 6 ∧ (∀ o, mI r.2 71 o = mI s0 71 o + dBr W σ h o) ∧ Fr [71, 84, 85] [] s0 r.2) := by
  rw [← hour_sum (N := N) (W := W) hM hh]
  obtain ⟨r, p, v1, v2, v3⟩ := loopR (L := fun k (y : Int32 × Int32 × Mem) => L_Mo_dayPays_l59 N (nI h) k y.1 y.2.1 y.2.2) (P := fun i y => y.1 = x + sumI (fun q => dE W σ h q * bitsW (who σ h q)) i ∧ y.2.1 = nI i ∧ (∀ o, mI y.2.2 71 o = mI s0 71 o + sumI (fun q => sumI (fun c => if ((dW σ h q).testBit c && decide (dOc σ c = o)) = true then dE W σ h q else 0) 16) i) ∧ Fr [71, 84, 85] [] s0 y.2.2) (Q := fun r => r.1 = x + sumI (fun q => dE W σ h q * bitsW (who σ h q)) 144 ∧ (∀ o, mI r.2 71 o = mI s0 71 o + sumI (fun q => sumI (fun c => if ((dW σ h q).testBit c && decide (dOc σ c = o)) = true then dE W σ h q else 0) 16) 144) ∧ Fr [71, 84, 85] [] s0 r.2) (a := (x, 0, s0)) (K := N) 144 (by
    rintro k i ⟨y, z, s⟩ hi ⟨h1, h2, h3, h4⟩
    have hy : y = _ := h1
    have hz : z = nI i := h2
    subst hy; subst hz
    change ∀ o, mI s 71 o = _ at h3
    change Fr _ _ s0 s at h4
    have Fs : Fr [71, 84, 85] [(65, 3)] σ s := F0.c h4 (fun _ z => z) (by simp)
    have r38 : mI s 38 = mI σ 38 := Fs.rowI 38 (by decide) (by decide)
    have r39 : mI s 39 = mI σ 39 := Fs.rowI 39 (by decide) (by decide)
    obtain ⟨⟨r, s'⟩, p, v1, v2, v3⟩ := mo_pays (N := N) (W := W) hN (hM.k (Fs.keeps (by decide))) hh hi
    rw [dW_k r38 r39, dOc_k (Fs.rowI 24 (by decide) (by decide)), dE_k W (Fs.I 19 8 (by decide) (by decide)) r38 r39] at v2
    rw [dE_k W (Fs.I 19 8 (by decide) (by decide)) r38 r39, who_k r38 r39] at v1
    change r = _ at v1
    change ∀ o, mI s' 71 o = _ at v2
    change Fr _ _ s s' at v3
    refine Or.inr ⟨(x + sumI (fun q => dE W σ h q * bitsW (who σ h q)) (i + 1), nI (i + 1), s'), ?_, rfl, rfl, fun o => ?_, h4.t v3⟩
    · show B_Mo_dayPays_l59 N (nI h) (L_Mo_dayPays_l59 N (nI h) k) _ (nI i) s = _
      unfold B_Mo_dayPays_l59
      rw [if_neg (show ¬ ((144 : Int32) ≤ nI i) from nI_ge (b := 144) hi (by decide)), p]
      simp only [bnd2_s, letv, nI_1]
      rw [v1, sumI_succ _ i, Int32.add_assoc]
    · show mI s' 71 o = _
      rw [v2 o, h3 o, sumI_succ _ i, Int32.add_assoc]) (by
    rintro k ⟨y, z, s⟩ ⟨h1, h2, h3, h4⟩
    have hz : z = nI 144 := h2
    subst hz
    refine ⟨(y, s), ?_, h1, h3, h4⟩
    show B_Mo_dayPays_l59 N (nI h) _ y (nI 144) s = _
    unfold B_Mo_dayPays_l59
    rw [if_pos (by decide)]) (by omega) ⟨(Int32.add_zero x).symm, rfl, fun o => (Int32.add_zero _).symm, Fr.rf _ _ _⟩
  exact ⟨r, p, v1, v2, v3⟩
theorem mo_dayPays {j nt : Nat} {x0 : Int32} {p0 : Nat → Int32} (hN : 1000 < N) (hM : DyM N σ W nt) {s0 : Mem} (F0 : Fr [71, 84, 85] [(65, 3)] σ s0) (hx : mI s0 65 3 = xS x0 (24 * j)) (hp : ∀ o, o < 6 → mI s0 71 o = p0 o + sumI (tmP W σ x0 o) (24 * j)) : ∃ r, f_Mo_dayPays N s0 = some r ∧ (r.1 = sumI (fun i => tmT W σ x0 (24 * j + i)) 24 ∧ mI r.2 65 3 = xS x0 (24 * j + 24) ∧ (∀ o, o < 6 → mI r.2 71 o = p0 o + sumI (tmP W σ x0 o) (24 * j + 24)) ∧ Fr [71, 84, 85] [(65, 3)] σ r.2) := by
  unfold f_Mo_dayPays
  refine loopR (L := fun k (y : Int32 × Int32 × Mem) => L_Mo_dayPays_l4 N k y.1 y.2.1 y.2.2) (P := fun i y => y.1 = sumI (fun i => tmT W σ x0 (24 * j + i)) i ∧ y.2.1 = nI i ∧ mI y.2.2 65 3 = xS x0 (24 * j + i) ∧ (∀ o, o < 6 → mI y.2.2 71 o = p0 o + sumI (tmP W σ x0 o) (24 * j + i)) ∧ Fr [71, 84, 85] [(65, 3)] σ y.2.2) (a := (0, 0, s0)) 24 ?_ ?_ (by omega) ⟨rfl, rfl, hx, hp, F0⟩
  · rintro k i ⟨y, z, s⟩ hi ⟨h1, h2, h3, h4, h5⟩
    have hy : y = _ := h1
    have hz : z = nI i := h2
    subst hy; subst hz
    change mI s 65 3 = _ at h3
    change ∀ o, o < 6 → mI s 71 o = _ at h4
    change Fr _ _ σ s at h5
    have hmod : (24 * j + i) % 24 = i := by omega
    obtain ⟨X, hX⟩ : ∃ X, X = xS x0 (24 * j + i + 1) := ⟨_, rfl⟩
    have F27 : Fr [71, 84, 85] [(65, 3)] σ (sI s 65 3 X) := h5.fI rfl (by decide)
    have hT : tmT W σ x0 (24 * j + i) = if pyB σ i X then sumI (dBr W σ i) 6 else 0 := by unfold tmT; rw [hmod, hX]
    have hP : ∀ o, tmP W σ x0 o (24 * j + i) = if pyB σ i X then dBr W σ i o else 0 := fun o => by unfold tmP; rw [hmod, hX]
    obtain ⟨-, -, e2, ok, hm, hD, hS, -, -⟩ := hM.k (F27.keeps (by decide))
    have e87 : mI (sI s 65 3 X) 87 i = mI σ 34 i := by rw [hD.1 i hi, F27.I 34 i (by decide) (by simp)]
    obtain ⟨⟨r4, s4⟩, p4, v4⟩ := mo_cloudsIn (N := N) (σ := sI s 65 3 X) (by omega) ok hm (nI i)
    change r4 = _ at v4
    rw [e2, ← (hS i hi).2.2.2, F27.I 37 i (by decide) (by simp)] at v4
    have F4 := fm_Mo_cloudsIn p4
    have F04 : Fr [71, 84, 85] [(65, 3)] σ s4 := F27.c F4 (by decide) (by simp)
    right
    show ∃ a' : Int32 × Int32 × Mem, B_Mo_dayPays_l4 N (L_Mo_dayPays_l4 N k) _ (nI i) s = L_Mo_dayPays_l4 N k a'.1 a'.2.1 a'.2.2 ∧ _
    unfold B_Mo_dayPays_l4
    rw [if_neg (show ¬ ((24 : Int32) ≤ nI i) from nI_ge (b := 24) hi (by decide)), h3, show ((25173 * xS x0 (24 * j + i)) + 13849) - ((25173 * xS x0 (24 * j + i)) + 13849) / 65536 * 65536 = X from hX.symm]
    simp only [letv, nI_1]
    rw [grd_t (inb_j hi (by decide)), nI_clamp (by omega), e87, p4, sI_s]
    simp only [bnd2_s]
    have hno : ∀ s' : Mem, mI s' 65 3 = X → (∀ o, mI s' 71 o = mI s 71 o) → Fr [71, 84, 85] [(65, 3)] σ s' → pyB σ i X = false → ∃ a' : Int32 × Int32 × Mem, L_Mo_dayPays_l4 N k (sumI (fun i => tmT W σ x0 (24 * j + i)) i) (nI (i + 1)) s' = L_Mo_dayPays_l4 N k a'.1 a'.2.1 a'.2.2 ∧ (a'.1 = sumI (fun i => tmT W σ x0 (24 * j + i)) (i + 1) ∧ a'.2.1 = nI (i + 1) ∧ mI a'.2.2 65 3 = xS x0 (24 * j + (i + 1)) ∧ (∀ o, o < 6 → mI a'.2.2 71 o = p0 o + sumI (tmP W σ x0 o) (24 * j + (i + 1))) ∧ Fr [71, 84, 85] [(65, 3)] σ a'.2.2) := fun s' w1 w2 w3 hf => by
      refine ⟨(_, _, s'), rfl, ?_, rfl, w1.trans hX, fun o ho => ?_, w3⟩
      · rw [sumI_succ _ i, hT, hf, if_neg f10, Int32.add_zero]
      · show mI s' 71 o = _
        rw [← Nat.add_assoc, sumI_succ _ (24 * j + i), hP, hf, if_neg f10, Int32.add_zero, w2 o]
        exact h4 o ho
    by_cases c1 : mI σ 34 i = 0
    · rw [if_pos c1]
      exact hno _ (sI_s _ _ _ _) (fun o => sI_n _ _ (by omega)) F27 (by unfold pyB; simp [c1])
    · rw [if_neg c1, v4]
      by_cases c2 : X - X / 10 * 10 < mI σ 37 i
      · rw [if_neg (Int32.not_le.mpr c2)]
        exact hno s4 ((F4.I 65 3 (by decide) (by simp)).trans (sI_s _ _ _ _)) (fun o => (F4.I 71 o (by decide) (by simp)).trans (sI_n _ _ (by omega))) F04 (by unfold pyB; simp [c2])
      · rw [if_pos (Int32.not_lt.mp c2)]
        have hpy : pyB σ i X = true := by
          unfold pyB
          simp only [c1, c2, ne_eq, not_false_eq_true, decide_true, decide_false, Bool.not_false, Bool.and_self]
        obtain ⟨⟨r5, s5⟩, p5, v5, w5, F5⟩ := mo_hourPays (N := N) (W := W) hN hM hi (sumI (fun i => tmT W σ x0 (24 * j + i)) i) F04
        change r5 = _ at v5
        change ∀ o, mI s5 71 o = _ at w5
        change Fr _ _ s4 s5 at F5
        rw [p5]
        refine ⟨(_, _, s5), rfl, ?_, rfl, ?_, fun o ho => ?_, F04.c F5 (fun _ z => z) (by simp)⟩
        · rw [v5, sumI_succ _ i, hT, hpy, if_pos rfl]
        · show mI s5 65 3 = _
          rw [F5.I 65 3 (by decide) (by simp), F4.I 65 3 (by decide) (by simp), sI_s, hX]
          rfl
        · show mI s5 71 o = _
          rw [w5 o, F4.I 71 o (by decide) (by simp), sI_n _ _ (by omega), h4 o ho, ← Nat.add_assoc, sumI_succ _ (24 * j + i), hP, hpy, if_pos rfl, Int32.add_assoc]
  · rintro k ⟨y, z, s⟩ ⟨h1, h2, h3, h4, h5⟩
    have hz : z = nI 24 := h2
    subst hz
    refine ⟨(y, s), ?_, h1, h3, h4, h5⟩
    show B_Mo_dayPays_l4 N _ y (nI 24) s = _
    unfold B_Mo_dayPays_l4
    rw [if_pos (by decide)]
end DaysM
theorem st_days {N : Nat} (hN : 70000 ≤ N) : St_days N := by
  intro σ a1 hI
  unfold f_Sh_days f_Mo_days
  rcases in1_cases a1 1 30 (by decide) (by decide) with g | ⟨g, d, hd1, hd2, rfl⟩
  · have g0 : f_Mo_in a1 1 30 = some 0 := g
    refine ⟨-1, σ, σ, ?_, by rw [g0]; rfl, hI⟩
    rw [mo_in] at g0
    by_cases c1 : a1 < 1
    · rw [if_pos c1]
    · rw [if_neg c1]
      by_cases c2 : 30 < a1
      · rw [if_neg (Int32.not_le.mpr c2)]
      · rw [if_neg c1, if_neg c2] at g0
        exact absurd g0 (by decide)
  have g : f_Mo_in (nI d) 1 30 = some 1 := g
  obtain ⟨σ1, t1, I1, R1⟩ := today_ok hN hI
  obtain ⟨W, L1⟩ := I1.dayL R1
  rw [if_neg (show ¬ nI d < 1 from nI_nlt (b := 1) hd1 (by omega)), if_pos (show nI d ≤ 30 from nI_le (b := 30) hd2 (by decide)), g, t1]
  simp only [bnd1_s, if_neg ne10]
  obtain ⟨s1, p1, b1, F1⟩ := cl_allHours (N := N) (W := W) (by omega) I1 R1 L1 (nI d)
  obtain ⟨⟨r, s2⟩, p2, v2, x2, u2, F2⟩ := cl_draw (N := N) (W := W) (d := d) (by omega) I1 R1 hd2 F1 b1
  change r = _ at v2
  change mI s2 19 9 = _ at x2
  change ∀ o, o < 6 → mI s2 25 o = _ at u2
  change Fr _ _ σ1 s2 at F2
  have hcl : f_Cl_drawDays N σ1 (nI d) = some (r, s2) := by
    unfold f_Cl_drawDays
    obtain ⟨s0, q1, q2⟩ := bnd1_e p1
    rw [q1]
    simp only [bnd1_s]
    rw [q2]
    exact p2
  -- the reference lays its day
  obtain ⟨nt, hnt, e6, e0, e1, e2, e3, ec, hz, hT⟩ := I1.mtown
  have hm2 := L1.2.2.1.k (F2.keeps (by decide))
  obtain ⟨s3, p3, w1, w2, w3⟩ := mo_laysDayG (N := N) hN L1.1 hm2 hnt ((F2.I 65 0 (by decide) (by decide)).trans e0) (fun c hc => by rw [F2.I 68 c (by decide) (by simp)]; exact hz c hc)
  have F3 := fm_Mo_laysDay p3
  have F13 : Fr [8, 9, 25, 64, 84, 85, 86, 87, 88] [(19, 9), (65, 37)] σ1 s3 := (F2.mono (by decide) (by decide)).c F3 (by decide) (by decide)
  obtain ⟨σv, q1, D1, -, -, Fv⟩ := mo_laysDay hN I1 R1
  obtain ⟨n, lt, Hs, Vs, ok, hc, hm, hS, hB⟩ := I1.day R1
  have D3 : DayEq s3 := by
    obtain ⟨σw, q2, y1, y2, y3⟩ := mo_laysDayG (N := N) hN L1.1 L1.2.2.1 hnt e0 hz
    have : σw = σv := by rw [q1] at q2; exact (Option.some.inj q2).symm
    subst this
    obtain ⟨d1, d2, d3⟩ := D1
    rw [F2.I 65 1 (by decide) (by decide), F2.I 65 2 (by decide) (by decide), F2.rowI 66 (by decide) (by decide), F2.rowI 67 (by decide) (by decide), F2.rowI 68 (by decide) (by decide), F2.rowI 69 (by decide) (by decide)] at *
    refine ⟨fun h hh => ?_, fun sq hs => ?_, fun h hh sq hs => ?_⟩
    · rw [w1 h hh, ← y1 h hh, d1 h hh, Fv.I 34 h (by decide) (by simp), F13.I 34 h (by decide) (by simp)]
    · rw [w2 sq hs, ← y2 sq hs, d2 sq hs, Fv.I 39 sq (by decide) (by simp), F13.I 39 sq (by decide) (by simp)]
    · rw [w3 h hh sq hs, ← y3 h hh sq hs, d3 h hh sq hs, who_k (Fv.rowI 38 (by decide) (by simp)) (Fv.rowI 39 (by decide) (by simp)), who_k (F13.rowI 38 (by decide) (by decide)) (F13.rowI 39 (by decide) (by decide))]
  have hM : DyM N s3 W nt := by
    refine ⟨hnt, (F13.I 65 0 (by decide) (by decide)).trans e0, by rw [F13.I 65 2 (by decide) (by decide), F13.I 19 8 (by decide) (by decide)]; exact e2, L1.1, L1.2.2.1.k (F13.keeps (by decide)), D3, L1.2.2.2.k (F13.keeps (by decide)), fun c hc => by rw [F13.I 70 c (by decide) (by simp), F13.I 24 c (by decide) (by simp)]; exact (ec c hc).2.2.2.2, fun h q hh hq => ?_⟩
    rw [dW_k (F13.rowI 38 (by decide) (by decide)) (F13.rowI 39 (by decide) (by decide)), dOc_k (F13.rowI 24 (by decide) (by decide)), who_k (F13.rowI 38 (by decide) (by decide)) (F13.rowI 39 (by decide) (by decide)), F13.rowI 24 (by decide) (by decide)]
    have := dW_ok I1 R1 hh hq
    rw [e6, nI_clamp (by omega)] at this
    exact this
  have eBr : ∀ h o, dBr W s3 h o = dBr W σ1 h o := fun h o => by
    unfold dBr
    refine sumI_congr 144 (fun q _ => ?_)
    rw [dW_k (F13.rowI 38 (by decide) (by decide)) (F13.rowI 39 (by decide) (by decide)), dOc_k (F13.rowI 24 (by decide) (by decide)), dE_k W (F13.I 19 8 (by decide) (by decide)) (F13.rowI 38 (by decide) (by decide)) (F13.rowI 39 (by decide) (by decide))]
  have epy : ∀ h x, pyB s3 h x = pyB σ1 h x := fun h x => by
    unfold pyB
    rw [F13.rowI 34 (by decide) (by decide), F13.rowI 37 (by decide) (by decide)]
  have eT : tmT W s3 = tmT W σ1 := funext fun x => funext fun k => by
    unfold tmT
    rw [epy, sumI_congr 6 (fun o _ => eBr (k % 24) o)]
  have eP : tmP W s3 = tmP W σ1 := funext fun x => funext fun o => funext fun k => by
    unfold tmP
    rw [epy, eBr]
  obtain ⟨⟨r4, s4⟩, p4, v4, x4, u4, F4⟩ : ∃ r, L_Mo_days_l20 N (nI d) N 0 0 s3 = some r ∧ (r.1 = sumI (tmT W s3 (mI s3 65 3)) (24 * d) ∧ mI r.2 65 3 = xS (mI s3 65 3) (24 * d) ∧ (∀ o, o < 6 → mI r.2 71 o = mI s3 71 o + sumI (tmP W s3 (mI s3 65 3) o) (24 * d)) ∧ Fr [71, 84, 85] [(65, 3)] s3 r.2) := by
    refine loopR (L := fun k (x : Int32 × Int32 × Mem) => L_Mo_days_l20 N (nI d) k x.1 x.2.1 x.2.2) (P := fun i x => x.1 = sumI (tmT W s3 (mI s3 65 3)) (24 * i) ∧ x.2.1 = nI i ∧ mI x.2.2 65 3 = xS (mI s3 65 3) (24 * i) ∧ (∀ o, o < 6 → mI x.2.2 71 o = mI s3 71 o + sumI (tmP W s3 (mI s3 65 3) o) (24 * i)) ∧ Fr [71, 84, 85] [(65, 3)] s3 x.2.2) (a := (0, 0, s3)) d ?_ ?_ (by omega) ⟨rfl, rfl, rfl, fun o _ => (Int32.add_zero _).symm, Fr.rf _ _ _⟩
    · rintro k i ⟨x, y, s⟩ hi ⟨h1, h2, h3, h4, h5⟩
      have hx : x = _ := h1
      have hy : y = nI i := h2
      subst hx; subst hy
      change Fr _ _ s3 s at h5
      obtain ⟨⟨r', s'⟩, p, y1, y2, y3, y4⟩ := mo_dayPays (N := N) (W := W) (j := i) (by omega) hM h5 h3 h4
      change r' = _ at y1
      refine Or.inr ⟨(sumI (tmT W s3 (mI s3 65 3)) (24 * i) + r', nI (i + 1), s'), ?_, ?_, rfl, y2, y3, y4⟩
      · show B_Mo_days_l20 N (nI d) (L_Mo_days_l20 N (nI d) k) _ (nI i) s = _
        unfold B_Mo_days_l20
        rw [if_neg (nI_ge hi (by omega)), p]
        simp only [bnd2_s, letv, nI_1]
      · show _ + r' = _
        rw [y1, Nat.mul_succ, sumI_split]
    · rintro k ⟨x, y, s⟩ ⟨h1, h2, h3, h4, h5⟩
      have hy : y = nI d := h2
      subst hy
      refine ⟨(x, s), ?_, h1, h3, h4, h5⟩
      show B_Mo_days_l20 N (nI d) _ x (nI d) s = _
      unfold B_Mo_days_l20
      rw [if_pos (nI_le (Nat.le_refl _) (by omega))]
  change r4 = _ at v4
  change mI s4 65 3 = _ at x4
  change ∀ o, o < 6 → mI s4 71 o = _ at u4
  change Fr _ _ s3 s4 at F4
  have ex : mI s3 65 3 = mI σ1 19 9 := (F13.I 65 3 (by decide) (by decide)).trans e3
  rw [eT, ex, ← v2] at v4
  rw [ex] at x4
  rw [eP, ex] at u4
  subst v4
  have F14 : Fr [8, 9, 25, 64, 71, 84, 85, 86, 87, 88] [(19, 9), (65, 3), (65, 37)] σ1 s4 := (F13.mono (by decide) (by decide)).c F4 (by decide) (by decide)
  have F24 : Fr [71, 84, 85, 86, 87, 88] [(65, 3), (65, 37)] s2 s4 := (F3.mono (by decide) (by decide)).c F4 (by decide) (by decide)
  refine ⟨r4, s2, s4, ?_, ?_, ?_⟩
  · rw [hcl]
    rfl
  · rw [p3]
    exact p4
  · have I1' := I1
    obtain ⟨⟨k01, k02⟩, k1, k2, k3, k4, k5, k6⟩ := I1'
    refine ⟨⟨?_, ?_⟩, k1.k (F14.keeps (by decide)), k2.k (F14.keeps (by decide)), k3.k (F14.keeps (by decide)), k4.k (F14.keeps (by decide)), k5.k (F14.keeps (by decide)), k6.k (F14.keeps (by decide))⟩
    · obtain ⟨z1, z2, z3, z4, z5, z6⟩ := k01
      unfold tc tm
      rw [F14.I 19 6 (by decide) (by decide), F14.I 19 7 (by decide) (by decide), F14.I 19 8 (by decide) (by decide), F14.I 65 0 (by decide) (by decide), F14.I 65 1 (by decide) (by decide), F14.I 65 2 (by decide) (by decide), F14.rowI 20 (by decide) (by decide), F14.rowI 21 (by decide) (by decide), F14.rowI 22 (by decide) (by decide), F14.rowI 23 (by decide) (by decide), F14.rowI 24 (by decide) (by decide), F14.rowI 66 (by decide) (by decide), F14.rowI 67 (by decide) (by decide), F14.rowI 68 (by decide) (by decide), F14.rowI 69 (by decide) (by decide), F14.rowI 70 (by decide) (by decide)]
      refine ⟨z1, z2, z3, ?_, z5, fun o ho => ?_⟩
      · show mI s4 19 9 = mI s4 65 3
        rw [F24.I 19 9 (by decide) (by decide), x2, x4]
      · show mI s4 25 o = mI s4 71 o
        rw [F24.I 25 o (by decide) (by simp), u2 o ho, u4 o ho, F13.I 71 o (by decide) (by simp)]
        have := z6 o ho
        change mI σ1 25 o = mI σ1 71 o at this
        rw [this]
    · obtain ⟨n', s', z1, z2, z3, z4, z5, z6, z7⟩ := k02
      unfold tc
      rw [F14.I 19 6 (by decide) (by decide), F14.I 19 7 (by decide) (by decide), F14.I 19 8 (by decide) (by decide), F14.rowI 20 (by decide) (by decide), F14.rowI 21 (by decide) (by decide), F14.rowI 22 (by decide) (by decide), F14.rowI 23 (by decide) (by decide), F14.rowI 24 (by decide) (by decide)]
      refine ⟨n', s', z1, z2, z3, z4, z5, ?_, z7⟩
      show ∃ x' : Nat, x' < 65536 ∧ mI s4 19 9 = nI x'
      rw [F24.I 19 9 (by decide) (by decide), x2]
      obtain ⟨x, hx, ex⟩ := z6
      change mI σ1 19 9 = nI x at ex
      rw [ex]
      exact xS_ok hx _
