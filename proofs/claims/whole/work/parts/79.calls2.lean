-- ===== standing ones of a kind, a free square: both sides =====
theorem moStands_k {σ σ' : Mem} (h0 : mI σ' 65 0 = mI σ 65 0) (h1 : mI σ' 65 1 = mI σ 65 1) (a : Int32) : f_Mo_stands σ' a = f_Mo_stands σ a := by
  unfold f_Mo_stands f_Mo_isCaster
  rw [h0, h1]
theorem moCaster_k {σ σ' : Mem} (h0 : mI σ' 65 0 = mI σ 65 0) (a : Int32) : f_Mo_isCaster σ' a = f_Mo_isCaster σ a := by
  unfold f_Mo_isCaster
  rw [h0]
theorem stOf_eq {N : Nat} {σ : Mem} (hI : Inv N σ) (a w : Int32) : (f_To_isStandingOf σ a w = some 0 ∧ (f_Mo_stands σ a = some 0 ∨ ∃ c n : Nat, n ≤ 16 ∧ c < n ∧ a = nI c ∧ f_Mo_stands σ a = some 1 ∧ mI σ 66 c ≠ w)) ∨ (f_To_isStandingOf σ a w = some 1 ∧ f_Mo_stands σ a = some 1 ∧ ∃ c n : Nat, n ≤ 16 ∧ c < n ∧ mI σ 19 6 = nI n ∧ a = nI c ∧ mI σ 66 c = w ∧ mI σ 20 c = w ∧ stands (mI σ 19 7) c = true) := by
  obtain ⟨n, hn, e6, e0, e1, e2, e3, ec, hz, hT⟩ := hI.mtown
  rcases caster_cases (by omega) e0 a with h | ⟨h, c, hc, rfl⟩
  · left
    have h1 : f_To_isStanding σ a = some 0 := by
      unfold f_To_isStanding
      rw [to_isCaster (e6.trans e0.symm), h]
      rfl
    refine ⟨?_, Or.inl ?_⟩
    · unfold f_To_isStandingOf
      rw [h1]
      rfl
    · rw [stands_eq (e6.trans e0.symm) e1.symm, h1]
  · have h2 := to_isStOf hn e6 hc w
    have h3 : f_Mo_stands σ (nI c) = some (if stands (mI σ 19 7) c = true then 1 else 0) := by
      rw [stands_eq (e6.trans e0.symm) e1.symm, to_isSt hn e6 hc]
    have ek := (ec c (by omega)).1
    by_cases hs : stands (mI σ 19 7) c = true
    · rw [if_pos hs] at h3
      by_cases hk : mI σ 20 c = w
      · rw [if_pos ⟨hs, hk⟩] at h2
        exact Or.inr ⟨h2, h3, c, n, hn, hc, e6, rfl, ek.trans hk, hk, hs⟩
      · rw [if_neg (fun z => hk z.2)] at h2
        exact Or.inl ⟨h2, Or.inr ⟨c, n, hn, hc, rfl, h3, fun z => hk (ek.symm.trans z)⟩⟩
    · rw [if_neg hs] at h3
      rw [if_neg (fun z => hs z.1)] at h2
      exact Or.inl ⟨h2, Or.inl h3⟩
theorem free_b {N : Nat} {σ : Mem} (hN : 100 < N) (hI : Inv N σ) (hR : Rdy σ) {sq : Nat} (hs : sq < 144) : f_Mo_isFree N σ (nI sq) = some (if mI σ 39 sq = 0 then 1 else 0) := by
  obtain ⟨n, lt, Hs, Vs, ok, hc, hm, hS, hB⟩ := hI.day hR
  rw [mo_free hN hI.1, hB.1 sq hs]
  cases blt (mI σ 19 7) (mI σ 20) (mI σ 21) sq (mI σ 19 6).toNatClampNeg <;> rfl
theorem moFree_k {N : Nat} {σ σ' : Mem} {nt : Nat} (hN : 100 < N) (hnt : nt ≤ 16) (e0 : mI σ 65 0 = nI nt) (g : Keeps [66, 67] [(65, 0), (65, 1)] σ σ') (sq : Nat) : f_Mo_isFree N σ' (nI sq) = f_Mo_isFree N σ (nI sq) := by
  rw [mo_freeB hN hnt e0, mo_freeB hN hnt ((g.f 65 0 (by decide)).trans e0), g.f 65 1 (by decide), g.r 66 (by decide), g.r 67 (by decide)]
theorem sh_isFree {N : Nat} {σ : Mem} (hN : 70000 ≤ N) (hI : Inv N σ) (x y : Int32) : ∃ σ1, Inv N σ1 ∧ Fr [8, 9, 34, 35, 36, 37, 38, 39] [(33, 6), (33, 9)] σ σ1 ∧ ((f_Sh_isFree N σ x y = some (0, σ1) ∧ (f_Mo_isIn x y = some 0 ∨ (f_Mo_isIn x y = some 1 ∧ ∃ sq, sq < 144 ∧ 12 * y + x = nI sq ∧ f_Mo_isFree N σ1 (nI sq) = some 0))) ∨ (f_Sh_isFree N σ x y = some (1, σ1) ∧ Rdy σ1 ∧ f_Mo_isIn x y = some 1 ∧ ∃ sq, sq < 144 ∧ 12 * y + x = nI sq ∧ f_Mo_isFree N σ1 (nI sq) = some 1 ∧ mI σ1 39 sq = 0)) := by
  unfold f_Sh_isFree
  rw [mo_isIn, sh_inTown]
  by_cases hT : inT x y = true
  · obtain ⟨a, b, ha, hb, ex, ey, es⟩ := inT_sq hT
    obtain ⟨σ1, t1, I1, R1⟩ := today_ok hN hI
    refine ⟨σ1, I1, fm_Sh_today t1, ?_⟩
    have hf := free_b (N := N) (by omega) I1 R1 (show 12 * b + a < 144 by omega)
    have hd := da_isFree (σ := σ1) (show 12 * b + a < 144 by omega)
    rw [if_pos hT]
    simp only [bnd1_s, if_neg ne10, t1, es, hd]
    by_cases c : mI σ1 39 (12 * b + a) = 0
    · rw [if_pos c] at hf ⊢
      rw [if_neg ne10]
      exact Or.inr ⟨by trivial, R1, by trivial, 12 * b + a, by omega, rfl, hf, c⟩
    · rw [if_neg c] at hf ⊢
      rw [if_pos rfl]
      exact Or.inl ⟨by trivial, Or.inr ⟨by trivial, 12 * b + a, by omega, rfl, hf⟩⟩
  · refine ⟨σ, hI, Fr.rf _ _ _, ?_⟩
    rw [if_neg hT]
    simp only [bnd1_s, if_true]
    exact Or.inl ⟨trivial, Or.inl trivial⟩
theorem st_move {N : Nat} (hN : 70000 ≤ N) : St_move N := by
  intro σ a1 a2 a3 hI
  unfold f_Sh_move f_Mo_move
  rcases stOf_eq hI a1 3 with ⟨h1, h2⟩ | ⟨h1, h2, c, n, hn, hc, e6, rfl, hk, hk', hs⟩
  · refine ⟨0, σ, σ, by rw [h1]; rfl, ?_, hI⟩
    rcases h2 with h2 | ⟨c, n, hn, hc, rfl, h2, h3⟩
    · rw [h2]; rfl
    · rw [h2]
      simp only [bnd1_s, if_neg ne10]
      rw [grd_t (inb_j (show c < 17 by omega) (by decide)), nI_clamp (by omega), if_neg h3]
  · obtain ⟨σ1, I1, F1, hf⟩ := sh_isFree hN hI a2 a3
    have g := inb_j (show c < 17 by omega) (show 17 < 2 ^ 31 by decide)
    have hcl : (nI c).toNatClampNeg = c := nI_clamp (by omega)
    obtain ⟨nt, hnt, -, e0, -⟩ := I1.mtown
    rcases hf with ⟨q1, q2⟩ | ⟨q1, R1, q2, sq, hsq, es, q3, q4⟩
    · refine ⟨0, σ1, σ1, ?_, ?_, I1⟩
      · rw [h1]
        simp only [bnd1_s, if_neg ne10]
        rw [q1]
        rfl
      · rw [moStands_k (F1.I 65 0 (by decide) (by decide)) (F1.I 65 1 (by decide) (by decide)), h2]
        simp only [bnd1_s, if_neg ne10]
        rw [grd_t g, hcl, F1.I 66 c (by decide) (by simp), if_pos hk]
        rcases q2 with q2 | ⟨q2, sq, hsq, es, q3⟩
        · rw [q2]; rfl
        · rw [q2]
          simp only [bnd1_s, if_neg ne10]
          rw [es, q3]
          rfl
    · have F2 : Fr [21] [(33, 9)] σ1 (sI (sI σ1 21 c (nI sq)) 33 9 0) := ((Fr.rf _ _ σ1).aI (σ2 := sI σ1 21 c (nI sq)) rfl (by decide)).fI rfl (by decide)
      have F3 : Fr [21, 67] [(33, 9)] σ1 (sI (sI (sI σ1 21 c (nI sq)) 33 9 0) 67 c (nI sq)) := (F2.mono (by decide) (by simp)).aI rfl (by decide)
      refine ⟨1, sI (sI σ1 21 c (nI sq)) 33 9 0, sI (sI (sI σ1 21 c (nI sq)) 33 9 0) 67 c (nI sq), ?_, ?_, ?_⟩
      · rw [h1]
        simp only [bnd1_s, if_neg ne10]
        rw [q1]
        simp only [bnd2_s, if_neg ne10]
        rw [grd_t g, hcl, es]
        rfl
      · have F02 : Fr [8, 9, 21, 34, 35, 36, 37, 38, 39] [(33, 6), (33, 9)] σ (sI (sI σ1 21 c (nI sq)) 33 9 0) := (F1.mono (by decide) (by simp)).c F2 (by decide) (by decide)
        rw [moStands_k (F02.I 65 0 (by decide) (by decide)) (F02.I 65 1 (by decide) (by decide)), h2]
        simp only [bnd1_s, if_neg ne10]
        rw [grd_t g, hcl, F02.I 66 c (by decide) (by simp), if_pos hk, q2]
        simp only [bnd1_s, if_neg ne10]
        rw [es, moFree_k (by omega) hnt e0 (F2.keeps (by decide)), q3]
        simp only [bnd1_s, if_neg ne10, grd_t g, hcl]
        rfl
      · obtain ⟨⟨k01, k02⟩, k1, k2, k3, k4, k5, k6⟩ := I1
        refine ⟨⟨?_, ?_⟩, k1.k (F3.keeps (by decide)), k2.k (F3.keeps (by decide)), k3.k (F3.keeps (by decide)), k4.k (F3.keeps (by decide)), k5.k (F3.keeps (by decide)), k6.offS (F3.keeps (by decide)) ?_⟩
        · obtain ⟨p1, p2, p3, p4, p5, p6⟩ := k01
          refine ⟨p1, p2, p3, p4, fun d hd => ?_, p6⟩
          obtain ⟨r1, r2, r3, r4, r5⟩ := p5 d hd
          refine ⟨r1, ?_, r3, r4, r5⟩
          show mI (sI (sI (sI σ1 21 c (nI sq)) 33 9 0) 67 c (nI sq)) 21 d = mI (sI (sI (sI σ1 21 c (nI sq)) 33 9 0) 67 c (nI sq)) 67 d
          rw [rdI, rdI, rdI, rdI, rdI, rdI]
          change mI σ1 21 d = mI σ1 67 d at r2
          by_cases e : d = c
          · subst e; simp
          · simp [e, r2]
        · obtain ⟨n', s', p1, p2, p3, p4, p5, p6, p7⟩ := k02
          refine ⟨n', s', p1, p2, p3, p4, p5, p6, fun d hd => ?_⟩
          obtain ⟨r1, r2, r3, r4, r5⟩ := p7 d hd
          refine ⟨r1, ?_, r3, r4, r5⟩
          show ∃ p' : Nat, p' < 144 ∧ mI (sI (sI (sI σ1 21 c (nI sq)) 33 9 0) 67 c (nI sq)) 21 d = nI p'
          rw [rdI, rdI, rdI]
          by_cases e : d = c
          · subst e
            exact ⟨sq, hsq, by simp⟩
          · obtain ⟨p', u1, u2⟩ := r2
            change mI σ1 21 d = nI p' at u2
            exact ⟨p', u1, by simp [e, u2]⟩
        · rw [sI_n _ _ (by omega), sI_s]
-- ===== how many squares =====
theorem in_casesB (a : Int32) (n : Nat) (hn : n + 1 < 2 ^ 31) : (f_Mo_in a 0 (nI n) = some 0 ∧ (a < 0 ∨ (¬ a < 0 ∧ ¬ a ≤ nI n))) ∨ (f_Mo_in a 0 (nI n) = some 1 ∧ ¬ a < 0 ∧ a ≤ nI n ∧ ∃ j : Nat, j ≤ n ∧ a = nI j) := by
  rcases in_cases a n hn with h | ⟨h, j, hj, rfl⟩
  · refine Or.inl ⟨h, ?_⟩
    rw [mo_in] at h
    by_cases h1 : a < 0
    · exact Or.inl h1
    · refine Or.inr ⟨h1, fun h2 => ?_⟩
      rw [if_neg h1, if_neg (Int32.not_lt.mpr h2)] at h
      exact absurd h (by decide)
  · exact Or.inr ⟨h, nI_pos (by omega), nI_le hj (by omega), j, hj, rfl⟩
theorem da_squaresOf {N : Nat} {σ : Mem} {c h : Nat} (hN : 1000 < N) (hh : h < 24) : f_Da_squaresOf N σ (nI c) (nI h) = some (sumI (fun sq => (who σ h sq >>> (nI c &&& 31)) &&& 1) 144) := by
  unfold f_Da_squaresOf
  refine loopS (L := fun k (a : Int32 × Int32) => L_Da_squaresOf_l5 N (nI c) (nI h) σ k a.1 a.2) (fun i => (sumI (fun sq => (who σ h sq >>> (nI c &&& 31)) &&& 1) i, nI i)) _ 144 (fun k i hi => ?_) (fun k => ?_) (by omega)
  · show B_Da_squaresOf_l5 N (nI c) (nI h) σ (L_Da_squaresOf_l5 N (nI c) (nI h) σ k) _ (nI i) = L_Da_squaresOf_l5 N (nI c) (nI h) σ k _ (nI (i + 1))
    unfold B_Da_squaresOf_l5
    rw [if_neg (show ¬ ((144 : Int32) ≤ nI i) from nI_ge (b := 144) hi (by decide)), da_whoCasts hh hi]
    simp only [bnd1_s, letv]
    rw [nI_1]
    rfl
  · show B_Da_squaresOf_l5 N (nI c) (nI h) σ (L_Da_squaresOf_l5 N (nI c) (nI h) σ k) _ (nI 144) = _
    unfold B_Da_squaresOf_l5
    rw [if_pos (by decide)]
theorem sh_castL {N : Nat} {σ : Mem} {c : Nat} (hN : 1000 < N) : L_Sh_cast_l47 N (nI c) N 0 0 σ = some (sumI (fun h => sumI (fun sq => (who σ h sq >>> (nI c &&& 31)) &&& 1) 144) 24, σ) := by
  refine loopS (L := fun k (a : Int32 × Int32 × Mem) => L_Sh_cast_l47 N (nI c) k a.1 a.2.1 a.2.2) (fun i => (sumI (fun h => sumI (fun sq => (who σ h sq >>> (nI c &&& 31)) &&& 1) 144) i, nI i, σ)) _ 24 (fun k i hi => ?_) (fun k => ?_) (by omega)
  · show B_Sh_cast_l47 N (nI c) (L_Sh_cast_l47 N (nI c) k) _ (nI i) σ = L_Sh_cast_l47 N (nI c) k _ (nI (i + 1)) σ
    unfold B_Sh_cast_l47
    rw [if_neg (show ¬ ((24 : Int32) ≤ nI i) from nI_ge (b := 24) hi (by decide)), da_squaresOf hN hi]
    simp only [bnd1_s, letv]
    rw [nI_1]
    rfl
  · show B_Sh_cast_l47 N (nI c) (L_Sh_cast_l47 N (nI c) k) _ (nI 24) σ = _
    unfold B_Sh_cast_l47
    rw [if_pos (by decide)]
theorem mo_castL {N : Nat} {σ : Mem} {c a : Nat} (hN : 5000 < N) (ha : a ≤ 24) (hD : DayEq σ) : L_Mo_cast_l29 N (nI c) (nI a) N 0 0 σ = some (sumI (fun h => if a = 24 ∨ h = a then sumI (fun sq => (who σ h sq >>> (nI c &&& 31)) &&& 1) 144 else 0) 24, σ) := by
  have hfl : sumI (fun k => if a = 24 ∨ k / 144 = a then (mI σ 86 k >>> (nI c &&& 31)) &&& 1 else 0) (144 * 24) = sumI (fun h => if a = 24 ∨ h = a then sumI (fun sq => (who σ h sq >>> (nI c &&& 31)) &&& 1) 144 else 0) 24 := by
    rw [sumI_flat (g := fun h sq => if a = 24 ∨ h = a then (who σ h sq >>> (nI c &&& 31)) &&& 1 else 0) 24 (fun h hh s hs => by
      rw [show (144 * h + s) / 144 = h by omega, hD.2.2 h hh s hs])]
    refine sumI_congr 24 (fun h hh => ?_)
    by_cases e : a = 24 ∨ h = a
    · simp only [if_pos e]
    · simp only [if_neg e]
      exact sumI_zero _ (fun _ _ => rfl)
  rw [← hfl]
  refine loopS (L := fun k (b : Int32 × Int32 × Mem) => L_Mo_cast_l29 N (nI c) (nI a) k b.1 b.2.1 b.2.2) (fun i => (sumI (fun k => if a = 24 ∨ k / 144 = a then (mI σ 86 k >>> (nI c &&& 31)) &&& 1 else 0) i, nI i, σ)) _ 3456 (fun k i hi => ?_) (fun k => ?_) (by omega)
  · show B_Mo_cast_l29 N (nI c) (nI a) (L_Mo_cast_l29 N (nI c) (nI a) k) _ (nI i) σ = L_Mo_cast_l29 N (nI c) (nI a) k _ (nI (i + 1)) σ
    unfold B_Mo_cast_l29
    have ed : nI i / 144 = nI (i / 144) := pk_div (d := 144) (by omega) (by decide) (by decide)
    rw [if_neg (show ¬ ((3456 : Int32) ≤ nI i) from nI_ge (b := 3456) hi (by decide)), ed, grd_t (inb_j hi (by decide)), nI_clamp (by omega), sumI_succ]
    have e1 : nI a = 24 ↔ a = 24 := nI_eq (b := 24) (by omega) (by decide)
    have e2 : nI (i / 144) = nI a ↔ i / 144 = a := nI_eq (by omega) (by omega)
    simp only [letv, nI_1, e1, e2]
    by_cases c1 : a = 24
    · simp only [if_pos c1, bnd1_s, if_true, if_pos (show a = 24 ∨ i / 144 = a from Or.inl c1)]
    · by_cases c2 : i / 144 = a
      · simp only [if_neg c1, if_pos c2, bnd1_s, if_true, if_pos (show a = 24 ∨ i / 144 = a from Or.inr c2)]
      · simp only [if_neg c1, if_neg c2, bnd1_s, if_neg (show ¬ (1 = 0) by decide), if_neg (show ¬ (a = 24 ∨ i / 144 = a) from fun z => by omega), Int32.add_zero]
  · show B_Mo_cast_l29 N (nI c) (nI a) (L_Mo_cast_l29 N (nI c) (nI a) k) _ (nI 3456) σ = _
    unfold B_Mo_cast_l29
    rw [if_pos (by decide)]
theorem st_cast {N : Nat} (hN : 70000 ≤ N) : St_cast N := by
  intro σ a1 a2 hI
  obtain ⟨n, hn, e6, e0, -⟩ := hI.mtown
  unfold f_Sh_cast f_Mo_cast
  rw [to_isCaster (e6.trans e0.symm)]
  rcases caster_cases (by omega) e0 a1 with h | ⟨h, c, hc, rfl⟩
  · exact ⟨-1, σ, σ, by rw [h]; rfl, by rw [h]; rfl, hI⟩
  · rcases in_casesB a2 24 (by decide) with ⟨g, g'⟩ | ⟨g, g1, g2, a, ha, rfl⟩
    · have g : f_Mo_in a2 0 24 = some 0 := g
      refine ⟨-1, σ, σ, ?_, by rw [h]; simp only [bnd1_s, if_neg ne10]; rw [g]; rfl, hI⟩
      rw [h]
      simp only [bnd1_s, if_neg ne10]
      rcases g' with g' | ⟨g', g2⟩
      · rw [if_pos g']
      · rw [if_neg g', if_neg (show ¬ a2 ≤ 24 from g2)]
    · have g : f_Mo_in (nI a) 0 24 = some 1 := g
      obtain ⟨σ1, t1, I1, R1⟩ := today_ok hN hI
      have F1 := fm_Sh_today t1
      obtain ⟨σ2, p2, D2, I2, R2, F2⟩ := mo_laysDay hN I1 R1
      have hm := mo_castL (N := N) (c := c) (by omega) ha D2
      have hw : ∀ h sq, who σ2 h sq = who σ1 h sq := who_k (F2.rowI 38 (by decide) (by simp)) (F2.rowI 39 (by decide) (by simp))
      simp only [hw] at hm
      refine ⟨sumI (fun h => if a = 24 ∨ h = a then sumI (fun sq => who σ1 h sq >>> (nI c &&& 31) &&& 1) 144 else 0) 24, σ1, σ2, ?_, ?_, I2⟩
      rotate_left
      · rw [moCaster_k (F1.I 65 0 (by decide) (by decide)), h, g, p2]
        simp only [bnd1_s, if_neg ne10]
        exact hm
      · rw [h, t1]
        simp only [bnd1_s, if_neg ne10]
        rw [if_neg g1, if_pos (show nI a ≤ 24 from g2)]
        by_cases c1 : a = 24
        · subst c1
          rw [if_pos (by decide), sh_castL (by omega)]
          simp
        · rw [if_neg (show ¬ (24 : Int32) ≤ nI a from nI_ge (b := 24) (by omega) (by decide)), da_squaresOf (by omega) (by omega)]
          simp only [bnd1_s]
          rw [sumI_one (j := a) 24 (by omega) (fun i hi hne => by rw [if_neg (fun z => by omega)])]
          simp
