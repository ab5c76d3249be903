theorem st_sun {N : Nat} (hN : 70000 ≤ N) : St_sun N := by
  intro σ a1 a2 hI
  unfold f_Sh_sun f_Mo_sun
  rw [mo_isHour]
  rcases hour_cases a1 with h | ⟨h, hr, hh, rfl⟩
  · refine ⟨-100, σ, σ, ?_, ?_, hI⟩
    · rw [h]; simp only [bnd1_s, if_true]
    · rw [h]; simp only [bnd1_s, if_true]
  · obtain ⟨σ1, t1, I1, R1⟩ := today_ok hN hI
    obtain ⟨nt, hnt, e6, e0, e1, e2, -⟩ := I1.mtown
    obtain ⟨n, lt, Hs, Vs, ok, hc, hm, hS, hB⟩ := I1.day R1
    rw [h, t1]
    simp only [bnd1_s, if_neg ne10]
    obtain ⟨⟨r1, s1⟩, p1, v1⟩ := mo_isUp (N := N) (by omega) ok hm (nI hr)
    obtain ⟨⟨r2, s2⟩, p2, v2⟩ := mo_eastOf (N := N) (by omega) ok hm (nI hr)
    obtain ⟨⟨r3, s3⟩, p3, v3⟩ := mo_northOf (N := N) (by omega) ok hm (nI hr)
    obtain ⟨⟨r4, s4⟩, p4, v4⟩ := mo_cloudsIn (N := N) (by omega) ok hm (nI hr)
    rw [e2] at v1 v2 v3 v4
    change r1 = _ at v1
    change r2 = _ at v2
    change r3 = _ at v3
    change r4 = _ at v4
    obtain ⟨w1, w2, w3, w4⟩ := hS hr hh
    have J1 := I1.k ((fm_Mo_isUp p1).keeps (by decide))
    have J2 := I1.k ((fm_Mo_eastOf p2).keeps (by decide))
    have J3 := I1.k ((fm_Mo_northOf p3).keeps (by decide))
    have J4 := I1.k ((fm_Mo_cloudsIn p4).keeps (by decide))
    by_cases c0 : a2 = 0
    · refine ⟨r1, σ1, s1, ?_, ?_, J1⟩
      · rw [if_pos c0, da_isUp I1 R1 hh]
        simp only [bnd1_s]
        rw [w1, ← v1]
        by_cases q : r1 = 0
        · rw [if_pos q, q]
        · rw [if_neg q]
          rcases sup01 n lt Hs (fHour (nI hr) (mI σ1 19 8)) with z | z
          · exact absurd (v1.trans z) q
          · rw [v1, z]
      · rw [if_pos c0, p1]
        simp only [bnd2_s]
        by_cases q : r1 = 0
        · rw [if_pos q, q]
        · rw [if_neg q]
          rcases sup01 n lt Hs (fHour (nI hr) (mI σ1 19 8)) with z | z
          · exact absurd (v1.trans z) q
          · rw [v1, z]
    simp only [if_neg c0]
    by_cases c1 : a2 = 1
    · refine ⟨r2, σ1, s2, ?_, ?_, J2⟩
      · unfold f_Da_eastAt
        rw [if_pos c1, h]
        simp only [bnd1_s, if_neg ne10]
        rw [grd_t (inb_j hh (by decide)), nI_clamp (by omega), w2, ← v2]
        rfl
      · rw [if_pos c1, p2]; rfl
    simp only [if_neg c1]
    by_cases c2 : a2 = 2
    · refine ⟨r3, σ1, s3, ?_, ?_, J3⟩
      · unfold f_Da_northAt
        rw [if_pos c2, h]
        simp only [bnd1_s, if_neg ne10]
        rw [grd_t (inb_j hh (by decide)), nI_clamp (by omega), w3, ← v3]
        rfl
      · rw [if_pos c2, p3]; rfl
    simp only [if_neg c2]
    by_cases c3 : a2 = 3
    · refine ⟨r4, σ1, s4, ?_, ?_, J4⟩
      · unfold f_Da_cloudAt
        rw [if_pos c3, h]
        simp only [bnd1_s, if_neg ne10]
        rw [grd_t (inb_j hh (by decide)), nI_clamp (by omega), w4, ← v4]
        rfl
      · rw [if_pos c3, p4]; rfl
    simp only [if_neg c3]
    exact ⟨-100, σ1, σ1, rfl, rfl, I1⟩
theorem st_shade {N : Nat} (hN : 70000 ≤ N) : St_shade N := by
  intro σ a1 a2 a3 hI
  unfold f_Sh_shade f_Mo_shade
  rw [mo_isIn, sh_inTown, mo_isHour]
  by_cases hT : inT a1 a2 = true
  · obtain ⟨x, y, hx, hy, ex, ey, es⟩ := inT_sq hT
    simp only [hT, bnd1_s, if_true, if_neg ne10]
    rcases hour_cases a3 with h | ⟨h, hr, hh, rfl⟩
    · refine ⟨-1, σ, σ, ?_, ?_, hI⟩
      · rw [h]; simp only [bnd1_s, if_true]
      · rw [h]; simp only [bnd1_s, if_true]
    · obtain ⟨σ1, t1, I1, R1⟩ := today_ok hN hI
      obtain ⟨σ2, p2, D2, I2, R2, F2⟩ := mo_laysDay hN I1 R1
      refine ⟨who σ1 hr (12 * y + x), σ1, σ2, ?_, ?_, I2⟩
      · rw [h, t1]
        simp only [bnd1_s, if_neg ne10]
        rw [es, da_whoCasts hh (by omega)]
        rfl
      · rw [h, p2]
        simp only [bnd1_s, if_neg ne10]
        rw [es, mo_whoOn D2 hh (by omega), who_k (F2.rowI 38 (by decide) (by simp)) (F2.rowI 39 (by decide) (by simp))]
        rfl
  · have hT' : inT a1 a2 = false := by simpa using hT
    refine ⟨-1, σ, σ, ?_, ?_, hI⟩
    · simp only [bnd1_s, hT', if_neg f10, if_true]
    · simp only [bnd1_s, hT', if_neg f10, if_true]
theorem st_price {N : Nat} (hN : 70000 ≤ N) : St_price N := by
  intro σ a1 a2 a3 hI
  unfold f_Sh_price f_Mo_price
  rw [mo_isIn, sh_inTown, mo_isHour]
  by_cases hT : inT a1 a2 = true
  · obtain ⟨x, y, hx, hy, ex, ey, es⟩ := inT_sq hT
    simp only [hT, bnd1_s, if_true, if_neg ne10]
    rcases hour_cases a3 with h | ⟨h, hr, hh, rfl⟩
    · refine ⟨-1, σ, σ, ?_, ?_, hI⟩
      · rw [h]; simp only [bnd1_s, if_true]
      · rw [h]; simp only [bnd1_s, if_true]
    · obtain ⟨σ1, t1, I1, R1⟩ := today_ok hN hI
      obtain ⟨W, L1⟩ := I1.dayL R1
      obtain ⟨s1, q1⟩ := da_priceOf (N := N) (by omega) I1 R1 L1 hh (show 12 * y + x < 144 by omega)
      have F1 := fm_Da_priceOf q1
      have J1 := I1.k (F1.keeps (by decide))
      obtain ⟨σ2, p2, D2, I2, R2, F2⟩ := mo_laysDay hN J1 (R1.k (F1.keeps (by decide)))
      have F12 : Fr [8, 9, 84, 85, 86, 87, 88] [(65, 37)] σ1 σ2 := (F1.mono (by decide) (by simp)).c F2 (by decide) (by decide)
      obtain ⟨s3, q3⟩ := mo_priceOf (N := N) (by omega) I2 R2 (L1.k (F12.keeps (by decide))) D2 hh (show 12 * y + x < 144 by omega)
      rw [prc_k W (F12.I 19 8 (by decide) (by decide)) (F12.rowI 38 (by decide) (by decide)) (F12.rowI 39 (by decide) (by decide))] at q3
      refine ⟨prc W σ1 hr (12 * y + x), s1, s3, ?_, ?_, I2.k ((fm_Mo_priceOf q3).keeps (by decide))⟩
      · rw [h, t1]
        simp only [bnd1_s, if_neg ne10]
        rw [es, q1]
        rfl
      · rw [h, p2]
        simp only [bnd1_s, if_neg ne10]
        rw [es, q3]
        rfl
  · have hT' : inT a1 a2 = false := by simpa using hT
    refine ⟨-1, σ, σ, ?_, ?_, hI⟩
    · simp only [bnd1_s, hT', if_neg f10, if_true]
    · simp only [bnd1_s, hT', if_neg f10, if_true]
theorem told_eq {N : Nat} {σ : Mem} (hI : Inv N σ) (a : Int32) : (f_Ma_isTold σ a = some 0 ∧ f_Mo_isBuyer σ a = some 0) ∨ (f_Ma_isTold σ a = some 1 ∧ f_Mo_isBuyer σ a = some 1 ∧ ∃ i : Nat, i < 8 ∧ a = nI i ∧ stands (mI σ 47 1) i = true) := by
  obtain ⟨⟨t, ht, e1, e2⟩, -⟩ := hI.2.2.2.1
  unfold f_Ma_isTold f_Mo_isBuyer f_Ma_isNumber
  rcases pk_ix a (n := 8) (by decide) with q | q | ⟨i, hi, rfl⟩
  · left
    rw [if_pos q, if_pos q]
    exact ⟨rfl, rfl⟩
  · left
    by_cases q0 : a < 0
    · rw [if_pos q0, if_pos q0]; exact ⟨rfl, rfl⟩
    · rw [if_neg q0, if_neg q0, if_pos (show (8 : Int32) ≤ a from q), if_pos (show (8 : Int32) ≤ a from q)]
      exact ⟨rfl, rfl⟩
  · rw [if_neg (nI_pos (by omega)), if_neg (nI_pos (by omega)), if_neg (show ¬ ((8 : Int32) ≤ nI i) from nI_ge (b := 8) hi (by decide)), if_neg (show ¬ ((8 : Int32) ≤ nI i) from nI_ge (b := 8) hi (by decide)), mo_has, e2, e1]
    simp only [bnd1_s, if_neg ne10]
    by_cases c : (nI t >>> (nI i &&& 31)) &&& 1 = 1
    · have : stands (nI t) i = true := by simp [stands, c]
      right
      rw [if_pos c, this]
      exact ⟨rfl, rfl, i, hi, rfl, this⟩
    · have : stands (nI t) i = false := by simp [stands, c]
      left
      rw [if_neg c, this]
      exact ⟨rfl, rfl⟩
theorem isBuyer_k {σ σ' : Mem} (h : mI σ' 65 47 = mI σ 65 47) (a : Int32) : f_Mo_isBuyer σ' a = f_Mo_isBuyer σ a := by
  unfold f_Mo_isBuyer
  rw [h]
theorem st_worth {N : Nat} (hN : 70000 ≤ N) : St_worth N := by
  intro σ a1 a2 a3 a4 hI
  unfold f_Sh_worth f_Mo_worth
  rw [mo_isIn, sh_inTown, mo_isHour]
  rcases told_eq hI a1 with ⟨b1, b2⟩ | ⟨b1, b2, i, hi, rfl, -⟩
  · refine ⟨-1, σ, σ, ?_, ?_, hI⟩
    · rw [b1]; simp only [bnd1_s, if_true]
    · rw [b2]; simp only [bnd1_s, if_true]
  by_cases hT : inT a2 a3 = true
  · obtain ⟨x, y, hx, hy, ex, ey, es⟩ := inT_sq hT
    simp only [hT, bnd1_s, if_true, if_neg ne10]
    rcases hour_cases a4 with h | ⟨h, hr, hh, rfl⟩
    · refine ⟨-1, σ, σ, ?_, ?_, hI⟩
      · rw [b1, h]; simp only [bnd1_s, if_true, if_neg ne10]
      · rw [b2, h]; simp only [bnd1_s, if_true, if_neg ne10]
    · obtain ⟨σ1, t1, I1, R1⟩ := today_ok hN hI
      have F0 := fm_Sh_today t1
      obtain ⟨W, L1⟩ := I1.dayL R1
      obtain ⟨s1, q1⟩ := da_worthOf (N := N) (by omega) I1 R1 L1 hi hh (show 12 * y + x < 144 by omega)
      have F1 := fm_Ma_worthOf q1
      have J1 := I1.k (F1.keeps (by decide))
      obtain ⟨σ2, p2, D2, I2, R2, F2⟩ := mo_laysDay hN J1 (R1.k (F1.keeps (by decide)))
      have F12 : Fr [8, 9, 84, 85, 86, 87, 88] [(65, 37)] σ1 σ2 := (F1.mono (by decide) (by simp)).c F2 (by decide) (by decide)
      obtain ⟨s3, q3⟩ := mo_worthOf (N := N) (by omega) I2 R2 (L1.k (F12.keeps (by decide))) D2 hi hh (show 12 * y + x < 144 by omega)
      rw [wth_k W (F12.I 19 8 (by decide) (by decide)) (F12.rowI 38 (by decide) (by decide)) (F12.rowI 39 (by decide) (by decide)) (F12.rowI 48 (by decide) (by decide))] at q3
      have eb : mI s1 65 47 = mI σ 65 47 := (F1.I 65 47 (by decide) (by simp)).trans (F0.I 65 47 (by decide) (by decide))
      refine ⟨wth W σ1 i hr (12 * y + x), s1, s3, ?_, ?_, I2.k ((fm_Mo_worthOf q3).keeps (by decide))⟩
      · rw [b1, h, t1]
        simp only [bnd1_s, if_neg ne10]
        rw [es, q1]
        rfl
      · rw [isBuyer_k eb, b2, h, p2]
        simp only [bnd1_s, if_neg ne10]
        rw [es, q3]
        rfl
  · have hT' : inT a2 a3 = false := by simpa using hT
    refine ⟨-1, σ, σ, ?_, ?_, hI⟩
    · rw [b1]; simp only [bnd1_s, hT', if_neg f10, if_true, if_neg ne10]
    · rw [b2]; simp only [bnd1_s, hT', if_neg f10, if_true, if_neg ne10]
theorem da_howManyFree {N : Nat} (hN : 1000 < N) (σ : Mem) : f_Da_howManyFree N σ = some (nI (cntB (fun sq => decide (mI σ 39 sq = 0)) 144)) := by
  unfold f_Da_howManyFree
  obtain ⟨r, h1, h2⟩ := loopR (L := fun k (a : Int32 × Int32) => L_Da_howManyFree_l4 N σ k a.1 a.2) (P := fun i a => a = (nI (cntB (fun sq => decide (mI σ 39 sq = 0)) i), nI i)) (Q := fun r => r = nI (cntB (fun sq => decide (mI σ 39 sq = 0)) 144)) (K := N) (a := (0, 0)) 144 (by
    rintro k i a hi rfl
    refine Or.inr ⟨(nI (cntB (fun sq => decide (mI σ 39 sq = 0)) (i + 1)), nI (i + 1)), ?_, rfl⟩
    show B_Da_howManyFree_l4 N σ (L_Da_howManyFree_l4 N σ k) _ (nI i) = _
    unfold B_Da_howManyFree_l4
    rw [if_neg (show ¬ ((144 : Int32) ≤ nI i) from nI_ge (b := 144) hi (by decide)), da_isFree hi]
    simp only [bnd1_s, letv]
    rw [cntB_succ]
    by_cases c : mI σ 39 i = 0
    · rw [if_pos c, if_neg ne10]
      simp only [bnd1_s, c, decide_true, if_true]
      rw [nI_1, nI_1]
    · rw [if_neg c, if_pos rfl]
      simp only [bnd1_s, c, decide_false, if_neg f10]
      rw [nI_1]
      show L_Da_howManyFree_l4 N σ k (nI _ + nI 0) _ = _
      rw [nI_add]) (by
    rintro k a rfl
    refine ⟨_, ?_, rfl⟩
    show B_Da_howManyFree_l4 N σ (L_Da_howManyFree_l4 N σ k) _ (nI 144) = _
    unfold B_Da_howManyFree_l4
    rw [if_pos (by decide)]) (by omega) rfl
  exact h1.trans (by rw [h2])
theorem st_count {N : Nat} (hN : 70000 ≤ N) : St_count N := by
  intro σ a1 hI
  have hI' := hI
  obtain ⟨⟨q, -⟩, -, ⟨u, hu, u1, u2, -⟩, ⟨⟨t, ht, t1, t2⟩, -⟩, ⟨⟨w, hw, w1, w2⟩, -⟩, -, ⟨n, lt, Hs, Vs, -, hc, hm, -⟩⟩ := hI'
  obtain ⟨q1, q2, q3, q4, -⟩ := q
  change mI σ 19 6 = mI σ 65 0 at q1
  change mI σ 19 7 = mI σ 65 1 at q2
  change mI σ 19 8 = mI σ 65 2 at q3
  change mI σ 19 9 = mI σ 65 3 at q4
  unfold f_Sh_count f_Mo_count
  by_cases c0 : a1 = 0
  · rw [if_pos c0]
    exact ⟨_, σ, σ, rfl, by rw [if_pos c0, q1], hI⟩
  rw [if_neg c0]
  by_cases c1 : a1 = 1
  · rw [if_pos c1]
    exact ⟨_, σ, σ, rfl, by rw [if_neg c0, if_pos c1, q2], hI⟩
  rw [if_neg c1]
  by_cases c2 : a1 = 2
  · rw [if_pos c2]
    exact ⟨_, σ, σ, rfl, by rw [if_neg c0, if_neg c1, if_pos c2, hc.1, hm.1], hI⟩
  rw [if_neg c2]
  by_cases c3 : a1 = 3
  · rw [if_pos c3]
    exact ⟨_, σ, σ, rfl, by rw [if_neg c0, if_neg c1, if_neg c2, if_pos c3, u1, u2], hI⟩
  rw [if_neg c3]
  by_cases c4 : a1 = 4
  · rw [if_pos c4]
    exact ⟨_, σ, σ, rfl, by rw [if_neg c0, if_neg c1, if_neg c2, if_neg c3, if_pos c4, q3], hI⟩
  rw [if_neg c4]
  by_cases c5 : a1 = 5
  · rw [if_pos c5]
    exact ⟨_, σ, σ, rfl, by rw [if_neg c0, if_neg c1, if_neg c2, if_neg c3, if_neg c4, if_pos c5, q4], hI⟩
  rw [if_neg c5]
  by_cases c6 : a1 = 6
  · rw [if_pos c6]
    unfold f_Ma_howManyTold
    refine ⟨nI (pcR t 16), σ, σ, ?_, ?_, hI⟩
    · rw [t1, bitCount_eq (by omega)]; rfl
    · rw [if_neg c0, if_neg c1, if_neg c2, if_neg c3, if_neg c4, if_neg c5, if_pos c6, t2, mo_bits (by omega) (by omega)]; rfl
  rw [if_neg c6]
  by_cases c7 : a1 = 7
  · rw [if_pos c7]
    exact ⟨_, σ, σ, rfl, by rw [if_neg c0, if_neg c1, if_neg c2, if_neg c3, if_neg c4, if_neg c5, if_neg c6, if_pos c7, w1, w2], hI⟩
  rw [if_neg c7]
  by_cases c8 : a1 = 8
  · obtain ⟨σ1, t1, I1, R1⟩ := today_ok hN hI
    obtain ⟨nt, hnt, e6, e0, e1, e2, e3, ec, hz, hT⟩ := I1.mtown
    obtain ⟨-, -, -, -, -, -, -, -, hB⟩ := I1.day R1
    obtain ⟨σ2, p2, v2, v3⟩ := mo_laysFree hN hnt e0
    refine ⟨mI σ2 65 37, σ1, σ2, ?_, ?_, I1.k ((fm_Mo_laysFree p2).keeps (by decide))⟩
    · rw [if_pos c8, t1]
      simp only [bnd1_s]
      rw [da_howManyFree (by omega), v3]
      have : cntB (fun sq => decide (mI σ1 39 sq = 0)) 144 = cntB (fun sq => !blt (mI σ1 65 1) (mI σ1 66) (mI σ1 67) sq nt) 144 := by
        refine cntB_congr 144 (fun sq hs => ?_)
        rw [hB.1 sq hs, e6, nI_clamp (by omega), e1, blt_congr (k' := mI σ1 20) (p' := mI σ1 21) nt (fun c hc => ⟨(ec c (by omega)).1, (ec c (by omega)).2.1⟩)]
        cases blt (mI σ1 19 7) (mI σ1 20) (mI σ1 21) sq nt <;> rfl
      rw [this]
      rfl
    · rw [if_neg c0, if_neg c1, if_neg c2, if_neg c3, if_neg c4, if_neg c5, if_neg c6, if_neg c7, if_pos c8, p2]
      rfl
  rw [if_neg c8]
  exact ⟨-1, σ, σ, rfl, by rw [if_neg c0, if_neg c1, if_neg c2, if_neg c3, if_neg c4, if_neg c5, if_neg c6, if_neg c7, if_neg c8], hI⟩
