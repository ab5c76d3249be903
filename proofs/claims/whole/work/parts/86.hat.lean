-- ===== a hat =====
def hatB (σ : Mem) (c : Nat) (w : Bool) (h sq : Nat) : Bool := if w then (!shB σ sq h && trX σ c h sq) else (shB σ sq h && !trX σ c h sq)
theorem da_changed {N : Nat} {σ : Mem} {c h : Nat} (hN : 1000 < N) (hI : Inv N σ) (hR : Rdy σ) (hz : (mI σ 22 16).toNatClampNeg < 100) (hh : h < 24) (w : Bool) : ∃ r, f_Da_changedByTrial N σ (nI c) (nI h) (if w then 1 else 0) = some r ∧ r.1 = sumI (fun sq => if hatB σ c w h sq then 1 else 0) 144 := by
  obtain ⟨s, p, v⟩ := da_layTrial (N := N) hN hI hR hz hh
  have F := fm_Da_layTrial p
  refine ⟨(sumI (fun sq => if hatB σ c w h sq then 1 else 0) 144, s), ?_, rfl⟩
  unfold f_Da_changedByTrial
  rw [p]
  simp only [bnd1_s]
  refine loopS (L := fun z (a : Int32 × Int32 × Mem) => L_Da_changedByTrial_l11 N (nI c) (nI h) (if w then 1 else 0) z a.1 a.2.1 a.2.2) (fun i => (sumI (fun sq => if hatB σ c w h sq then 1 else 0) i, nI i, s)) _ 144 (fun z i hi => ?_) (fun z => ?_) (by omega)
  · show B_Da_changedByTrial_l11 N (nI c) (nI h) (if w then 1 else 0) (L_Da_changedByTrial_l11 N (nI c) (nI h) (if w then 1 else 0) z) (sumI _ i) (nI i) s = L_Da_changedByTrial_l11 N (nI c) (nI h) (if w then 1 else 0) z (sumI _ (i + 1)) (nI (i + 1)) s
    unfold B_Da_changedByTrial_l11
    rw [if_neg (show ¬ ((144 : Int32) ≤ nI i) from nI_ge (b := 144) hi (by decide)), da_whoCasts hh hi, da_onTrial hh hi F (v i hi), sumI_succ, who_k (F.rowI 38 (by decide) (by simp)) (F.rowI 39 (by decide) (by simp))]
    simp only [bnd1_s, letv, nI_1]
    unfold hatB shB
    by_cases q : who σ h i = 0 <;> cases w <;> cases trX σ c h i <;> simp [q, bnd1_s]
  · show B_Da_changedByTrial_l11 N (nI c) (nI h) (if w then 1 else 0) _ _ (nI 144) s = _
    unfold B_Da_changedByTrial_l11
    rw [if_pos (by decide)]
theorem hatB_k {σ σ' : Mem} (g : Keeps [20, 21, 22, 23, 34, 35, 36, 38, 39] [] σ σ') (c : Nat) (w : Bool) (h : Nat) : hatB σ' c w h = hatB σ c w h := funext fun sq => by
  unfold hatB
  rw [trX_k g, shB_k (g.r 38 (by decide)) (g.r 39 (by decide))]
theorem sh_hatL {N : Nat} {σ : Mem} {c a : Nat} (hN : 1000 < N) (hI : Inv N σ) (hR : Rdy σ) (hz : (mI σ 22 16).toNatClampNeg < 100) : ∃ r, L_Sh_hat_l69 N (nI c) (nI a) N 0 0 σ = some r ∧ (r.1 = sumI (fun h => sumI (fun sq => if hatB σ c (decide (nI a = 0)) h sq then 1 else 0) 144) 24 ∧ Fr [40] [] σ r.2) := by
  refine loopR (L := fun z (x : Int32 × Int32 × Mem) => L_Sh_hat_l69 N (nI c) (nI a) z x.1 x.2.1 x.2.2) (P := fun i x => x.1 = sumI (fun h => sumI (fun sq => if hatB σ c (decide (nI a = 0)) h sq then 1 else 0) 144) i ∧ x.2.1 = nI i ∧ Fr [40] [] σ x.2.2) (a := (0, 0, σ)) 24 ?_ ?_ (by omega) ⟨rfl, rfl, Fr.rf _ _ _⟩
  · rintro z i ⟨x, y, s⟩ hi ⟨h1, h2, h3⟩
    have hx : x = _ := h1
    have hy : y = nI i := h2
    subst hx; subst hy
    change Fr _ _ σ s at h3
    obtain ⟨⟨r, s'⟩, p, v⟩ := da_changed (N := N) (σ := s) (c := c) hN (hI.k (h3.keeps (by decide))) (hR.k (h3.keeps (by decide))) (by rw [h3.I 22 16 (by decide) (by simp)]; exact hz) hi (decide (nI a = 0))
    change r = _ at v
    rw [hatB_k (h3.keeps (by decide))] at v
    refine Or.inr ⟨(sumI _ i + r, nI (i + 1), s'), ?_, by rw [v]; rfl, rfl, h3.t (fm_Da_changedByTrial p)⟩
    show B_Sh_hat_l69 N (nI c) (nI a) (L_Sh_hat_l69 N (nI c) (nI a) z) _ (nI i) s = _
    unfold B_Sh_hat_l69
    have ey : (if nI a = 0 then some 1 else some 0 : Option Int32) = some (if decide (nI a = 0) = true then 1 else 0) := by
      by_cases c0 : nI a = 0 <;> simp [c0]
    rw [if_neg (show ¬ ((24 : Int32) ≤ nI i) from nI_ge (b := 24) hi (by decide)), ey]
    simp only [bnd1_s]
    rw [p]
    simp only [bnd2_s, letv, nI_1]
  · rintro z ⟨x, y, s⟩ ⟨h1, h2, h3⟩
    have hy : y = nI 24 := h2
    subst hy
    refine ⟨(x, s), ?_, h1, h3⟩
    show B_Sh_hat_l69 N (nI c) (nI a) (L_Sh_hat_l69 N (nI c) (nI a) z) x (nI 24) s = _
    unfold B_Sh_hat_l69
    rw [if_pos (by decide)]
theorem mo_hatW {N : Nat} {σ : Mem} (hN : 5000 < N) (a1 a2 a3 a4 : Int32) : ∃ σ', L_Mo_hat_l58 N a1 a2 a3 a4 N 0 σ = some σ' ∧ ((∀ k, k < 3456 → mI σ' 105 k = if mI σ 86 k = 0 then 0 else 1) ∧ Fr [105] [] σ σ') := by
  refine loopR (L := fun z (x : Int32 × Mem) => L_Mo_hat_l58 N a1 a2 a3 a4 z x.1 x.2) (P := fun i x => x.1 = nI i ∧ (∀ k, k < i → mI x.2 105 k = if mI σ 86 k = 0 then 0 else 1) ∧ Fr [105] [] σ x.2) (a := (0, σ)) 3456 ?_ ?_ (by omega) ⟨rfl, fun k hk => absurd hk (Nat.not_lt_zero k), Fr.rf _ _ _⟩
  · rintro z i ⟨x, s⟩ hi ⟨h1, h2, h3⟩
    have hx : x = nI i := h1
    subst hx
    change Fr _ _ σ s at h3
    refine Or.inr ⟨(nI (i + 1), sI s 105 i (if mI σ 86 i = 0 then 0 else 1)), ?_, rfl, fun k hk => ?_, h3.aI rfl (by decide)⟩
    · show B_Mo_hat_l58 N a1 a2 a3 a4 (L_Mo_hat_l58 N a1 a2 a3 a4 z) (nI i) s = _
      unfold B_Mo_hat_l58
      rw [if_neg (show ¬ ((3456 : Int32) ≤ nI i) from nI_ge (b := 3456) hi (by decide)), grd_t (inb_j hi (by decide)), nI_clamp (by omega), h3.I 86 i (by decide) (by simp)]
      simp only [letv, nI_1]
      by_cases c : mI σ 86 i = 0
      · rw [if_pos c]
        simp only [bnd1_s, if_pos c]
        rw [grd_t (inb_j hi (by decide))]
        rfl
      · rw [if_neg c]
        simp only [bnd1_s, if_neg c]
        rw [grd_t (inb_j hi (by decide))]
        rfl
    · show mI (sI s 105 i _) 105 k = _
      rw [rdI]
      by_cases e : k = i
      · subst e; rw [if_pos ⟨rfl, rfl⟩]
      · rw [if_neg (fun z => e z.2)]
        exact h2 k (by omega)
  · rintro z ⟨x, s⟩ ⟨h1, h2, h3⟩
    have hx : x = nI 3456 := h1
    subst hx
    refine ⟨s, ?_, h2, h3⟩
    show B_Mo_hat_l58 N a1 a2 a3 a4 (L_Mo_hat_l58 N a1 a2 a3 a4 z) (nI 3456) s = _
    unfold B_Mo_hat_l58
    rw [if_pos (by decide)]
theorem mo_hatC {N : Nat} {σ : Mem} {a : Nat} (hN : 5000 < N) (ha : a ≤ 1) (B A : Nat → Bool) (hB : ∀ k, k < 3456 → mI σ 105 k = if B k then 1 else 0) (hA : ∀ k, k < 3456 → (mI σ 86 k ≠ 0 ↔ A k = true)) : L_Mo_hat_l132 N (nI a) N 0 0 σ = some (sumI (fun k => if (if decide (nI a = 0) then (!B k && A k) else (B k && !A k)) then 1 else 0) 3456, σ) := by
  refine loopS (L := fun z (x : Int32 × Int32 × Mem) => L_Mo_hat_l132 N (nI a) z x.1 x.2.1 x.2.2) (fun i => (sumI (fun k => if (if decide (nI a = 0) then (!B k && A k) else (B k && !A k)) then 1 else 0) i, nI i, σ)) _ 3456 (fun z i hi => ?_) (fun z => ?_) (by omega)
  · show B_Mo_hat_l132 N (nI a) (L_Mo_hat_l132 N (nI a) z) (sumI _ i) (nI i) σ = L_Mo_hat_l132 N (nI a) z (sumI _ (i + 1)) (nI (i + 1)) σ
    unfold B_Mo_hat_l132
    rw [if_neg (show ¬ ((3456 : Int32) ≤ nI i) from nI_ge (b := 3456) hi (by decide)), grd_t (inb_j hi (by decide)), grd_t (inb_j hi (by decide)), nI_clamp (by omega), hB i hi, sumI_succ]
    have h86 : ∀ x y : Option Int32, (if mI σ 86 i = 0 then x else y) = if A i = false then x else y := fun x y => by
      have := hA i hi
      cases hAi : A i with
      | false =>
        rw [hAi] at this
        rw [if_pos (show mI σ 86 i = 0 by simpa using this), if_pos rfl]
      | true =>
        rw [hAi] at this
        rw [if_neg (show ¬ mI σ 86 i = 0 by simpa using this), if_neg (by decide)]
    rw [h86]
    simp only [letv, nI_1]
    rcases (show a = 0 ∨ a = 1 by omega) with rfl | rfl <;> cases B i <;> cases A i <;> simp [bnd1_s, nI_0, nI_one]
  · show B_Mo_hat_l132 N (nI a) _ _ (nI 3456) σ = _
    unfold B_Mo_hat_l132
    rw [if_pos (by decide)]
theorem up1_back {f : Nat → Int32} {c : Nat} {v : Int32} : up1 (up1 f c v) c (f c) = f := funext fun j => by
  unfold up1
  by_cases e : j = c
  · rw [if_pos e, e]
  · rw [if_neg e, if_neg e]
theorem st_hat {N : Nat} (hN : 70000 ≤ N) : St_hat N := by
  intro σ a1 a2 a3 a4 hI
  unfold f_Sh_hat f_Mo_hat
  rcases stOf_eq hI a1 3 with ⟨h1, h2⟩ | ⟨h1, h2, c, n, hn, hc, e6, rfl, hk, hk', hs⟩
  · refine ⟨-1, σ, σ, by rw [h1]; rfl, ?_, hI⟩
    rcases h2 with h2 | ⟨c, n, hn, hc, rfl, h2, h3⟩
    · rw [h2]; rfl
    · rw [h2]
      simp only [bnd1_s, if_neg ne10]
      rw [grd_t (inb_j (show c < 17 by omega) (by decide)), nI_clamp (by omega), if_neg h3]
  have g := inb_j (show c < 17 by omega) (show 17 < 2 ^ 31 by decide)
  have hcl : (nI c).toNatClampNeg = c := nI_clamp (by omega)
  rw [h1]
  simp only [bnd1_s, if_neg ne10, grd_t g, hcl]
  obtain ⟨σ1, I1, F1, hf⟩ := sh_isFree hN hI a2 a3
  have hm0 : f_Mo_stands σ1 (nI c) = some 1 := by
    rw [moStands_k (F1.I 65 0 (by decide) (by decide)) (F1.I 65 1 (by decide) (by decide)), h2]
  have hk1 : mI σ1 66 c = 3 := (F1.I 66 c (by decide) (by simp)).trans hk
  rcases hf with ⟨z1, z2⟩ | ⟨z1, R1, z2, sq, hsq, es, z3, z4⟩
  · refine ⟨-1, σ1, σ1, by rw [z1]; rfl, ?_, I1⟩
    rw [hm0]
    simp only [bnd1_s, if_neg ne10]
    rw [if_pos hk1]
    rcases z2 with z2 | ⟨z2, sq, hsq, es, z3⟩
    · rw [z2]; rfl
    · rw [z2]
      simp only [bnd1_s, if_neg ne10]
      rw [es, z3]
      rfl
  rw [z1]
  simp only [bnd2_s, if_neg ne10]
  rcases in_casesB a4 1 (by decide) with ⟨w, w'⟩ | ⟨w, w1, w2, a, ha, rfl⟩
  · have w : f_Mo_in a4 0 1 = some 0 := w
    refine ⟨-1, σ1, σ1, ?_, ?_, I1⟩
    · rcases w' with w' | ⟨w', w2⟩
      · rw [if_pos w']
      · rw [if_neg w', if_neg (show ¬ a4 ≤ 1 from w2)]
    · rw [hm0]
      simp only [bnd1_s, if_neg ne10]
      rw [if_pos hk1, z2]
      simp only [bnd1_s, if_neg ne10]
      rw [es, z3, w]
      rfl
  have w : f_Mo_in (nI a) 0 1 = some 1 := w
  rw [if_neg w1, if_pos (show nI a ≤ 1 from w2), es]
  obtain ⟨nt, hnt, e6', e0, e1, e2, e3, ec, hzz, hT⟩ := I1.mtown
  have hnn : n = nt := (nI_eq (by omega) (by omega)).mp (e6.symm.trans ((F1.I 19 6 (by decide) (by decide)).symm.trans e6'))
  subst hnn
  rw [to_trial hn e6' hc]
  simp only [bnd1_s]
  have FT := trM_fr σ1 c (nI sq) (mI σ1 22 c)
  obtain ⟨T1, T2, T3, T4, T5⟩ := trM_at σ1 c (nI sq) (mI σ1 22 c)
  generalize trM σ1 c (nI sq) (mI σ1 22 c) = σt at FT T1 T2 T3 T4 T5
  have It := I1.row16 FT T1
  obtain ⟨σ2, t2, I2, R2⟩ := today_ok hN It
  have F2 := fm_Sh_today t2
  rw [t2]
  simp only [bnd1_s]
  have hz16 : (mI σ2 22 16).toNatClampNeg < 100 := by
    rw [F2.I 22 16 (by decide) (by decide), T4]
    exact (hT.2.2 c hc).2
  obtain ⟨⟨r, σ3⟩, p3, v3, F3⟩ := sh_hatL (N := N) (σ := σ2) (c := c) (a := a) (by omega) I2 R2 hz16
  change r = _ at v3
  change Fr _ _ σ2 σ3 at F3
  have I3 := I2.k (F3.keeps (by decide))
  have R3 := R2.k (F3.keeps (by decide))
  -- the reference
  obtain ⟨σ4, p4, D4, I4, R4, F4⟩ := mo_laysDay hN I3 R3
  obtain ⟨σ5, p5, v5, F5⟩ := mo_hatW (N := N) (σ := σ4) (by omega) (nI c) a2 a3 (nI a)
  have F13 : Fr [8, 9, 20, 21, 22, 23, 34, 35, 36, 37, 38, 39, 40] [(33, 6), (33, 9)] σ1 σ3 := ((FT.mono (by decide) (by simp)).c F2 (by decide) (by decide)).c F3 (by decide) (by simp)
  have F35 : Fr [84, 85, 86, 87, 88, 105] [(65, 37)] σ3 σ5 := (F4.mono (by decide) (fun _ z => z)).c F5 (by decide) (by simp)
  have F25 : Fr [40, 84, 85, 86, 87, 88, 105] [(65, 37)] σ2 σ5 := (F3.mono (by decide) (by simp)).c F35 (by decide) (fun _ z => z)
  have I5 := I4.k (F5.keeps (by decide))
  have R5 := R4.k (F5.keeps (by decide))
  obtain ⟨W, L5⟩ := I5.dayL R5
  have F15 : Fr [8, 9, 20, 21, 22, 23, 34, 35, 36, 37, 38, 39, 40, 84, 85, 86, 87, 88, 105] [(33, 6), (33, 9), (65, 37)] σ1 σ5 := (F13.mono (by decide) (by decide)).c F35 (by decide) (by decide)
  -- rows of the reference at σ5
  have r66 : mI σ5 66 = mI σ1 66 := F15.rowI 66 (by decide) (by decide)
  have r67 : mI σ5 67 = mI σ1 67 := F15.rowI 67 (by decide) (by decide)
  have r68 : mI σ5 68 = mI σ1 68 := F15.rowI 68 (by decide) (by decide)
  have r69 : mI σ5 69 = mI σ1 69 := F15.rowI 69 (by decide) (by decide)
  have s20 : ∀ j, mI σ5 20 j = mI σt 20 j := fun j => by rw [F25.I 20 j (by decide) (by simp), F2.I 20 j (by decide) (by simp)]
  have s21 : ∀ j, mI σ5 21 j = mI σt 21 j := fun j => by rw [F25.I 21 j (by decide) (by simp), F2.I 21 j (by decide) (by simp)]
  have s22 : ∀ j, mI σ5 22 j = mI σt 22 j := fun j => by rw [F25.I 22 j (by decide) (by simp), F2.I 22 j (by decide) (by simp)]
  have s23 : ∀ j, mI σ5 23 j = mI σt 23 j := fun j => by rw [F25.I 23 j (by decide) (by simp), F2.I 23 j (by decide) (by simp)]
  have e6_5 : mI σ5 19 6 = nI n := (F15.I 19 6 (by decide) (by decide)).trans e6'
  have e7_5 : mI σ5 19 7 = mI σ1 19 7 := F15.I 19 7 (by decide) (by decide)
  have hst5 : stands (mI σ5 19 7) c = true := by rw [e7_5, F1.I 19 7 (by decide) (by decide)]; exact hs
  have FM : Fr [67] [] σ5 (sI σ5 67 c (nI sq)) := frA _ _ _ _
  obtain ⟨σ6, p6, u1, u2, u3⟩ := mo_trial (N := N) (σ := σ5) (σm := sI σ5 67 c (nI sq)) (c := c) (nt := n) hN I5 R5 L5 (L5.2.2.1.k (FM.keeps (by decide))) hn e6_5 hc hst5 ((FM.I 65 0 (by decide) (by simp)).trans ((F15.I 65 0 (by decide) (by decide)).trans e0)) (by rw [FM.I 65 1 (by decide) (by simp), F15.I 65 1 (by decide) (by decide), e1, e7_5]) (by rw [FM.I 65 2 (by decide) (by simp), F15.I 65 2 (by decide) (by decide), e2, F15.I 19 8 (by decide) (by decide)]) (fun j hj hne => by
      rw [FM.I 66 j (by decide) (by simp), FM.I 68 j (by decide) (by simp), FM.I 69 j (by decide) (by simp), rdI, if_neg (fun z => hne z.2), r66, r67, r68, r69, s20, s21, s22, s23, (T1 j hj).1, (T1 j hj).2.1, (T1 j hj).2.2.1, (T1 j hj).2.2.2]
      obtain ⟨q1, q2, q3, q4, -⟩ := ec j hj
      exact ⟨q1, q2, q3, q4⟩) (by
      rw [FM.I 66 c (by decide) (by simp), FM.I 68 c (by decide) (by simp), FM.I 69 c (by decide) (by simp), rdI, if_pos ⟨rfl, rfl⟩, r66, r68, r69, s20, s21, s22, s23, T2, T3, T4, T5]
      obtain ⟨q1, q2, q3, q4, -⟩ := ec c (by omega)
      exact ⟨q1, rfl, q3, q4⟩) (by rw [s20, s20, T2, (T1 c (by omega)).1]) (Or.inl (by
      rw [s20, (T1 c (by omega)).1, ← (ec c (by omega)).1, hk1]; decide)) (fun j hj => by rw [FM.I 68 j (by decide) (by simp), r68]; exact hzz j hj)
  have F6 := fm_Mo_laysDay p6
  have FF : Fr [67, 84, 85, 86, 87, 88] [(65, 37)] σ5 (sI σ6 67 c (mI σ5 67 c)) := ((FM.mono (by decide) (by simp)).c F6 (by decide) (fun _ z => z)).aI rfl (by decide)
  have r67f : mI (sI σ6 67 c (mI σ5 67 c)) 67 = mI σ5 67 := by
    rw [mI_sI, F6.rowI 67 (by decide) (by simp), mI_sI, up1_back]
  have IF : Inv N (sI σ6 67 c (mI σ5 67 c)) := I5.k (FF.keeps1 67 r67f (by decide))
  have hcnt := mo_hatC (N := N) (σ := sI σ6 67 c (mI σ5 67 c)) (a := a) (by omega) ha (fun k => shB σ2 (k % 144) (k / 144)) (fun k => trX σ2 c (k / 144) (k % 144)) (fun k hk => by
      rw [sI_n _ _ (by omega), F6.I 105 k (by decide) (by simp), FM.I 105 k (by decide) (by simp), v5 k hk]
      have hd := D4.2.2 (k / 144) (by omega) (k % 144) (by omega)
      rw [show 144 * (k / 144) + k % 144 = k by omega] at hd
      rw [hd]
      have F24 : Fr [40, 84, 85, 86, 87, 88] [(65, 37)] σ2 σ4 := (F3.mono (by decide) (by simp)).c F4 (by decide) (fun _ z => z)
      rw [who_k (F24.rowI 38 (by decide) (by decide)) (F24.rowI 39 (by decide) (by decide))]
      unfold shB
      by_cases q : who σ2 (k / 144) (k % 144) = 0 <;> simp [q]) (fun k hk => by
      rw [sI_n _ _ (by omega)]
      have := u3 (k / 144) (by omega) (k % 144) (by omega)
      rw [show 144 * (k / 144) + k % 144 = k by omega, trX_k (F25.keeps (by decide))] at this
      exact this)
  have hfl : sumI (fun k => if (if decide (nI a = 0) then (!shB σ2 (k % 144) (k / 144) && trX σ2 c (k / 144) (k % 144)) else (shB σ2 (k % 144) (k / 144) && !trX σ2 c (k / 144) (k % 144))) then 1 else 0) (144 * 24) = r := by
    rw [v3]
    refine sumI_flat 24 (fun h hh s hs => ?_)
    show (if (if decide (nI a = 0) then (!shB σ2 ((144 * h + s) % 144) ((144 * h + s) / 144) && trX σ2 c ((144 * h + s) / 144) ((144 * h + s) % 144)) else (shB σ2 ((144 * h + s) % 144) ((144 * h + s) / 144) && !trX σ2 c ((144 * h + s) / 144) ((144 * h + s) % 144))) = true then (1 : Int32) else 0) = _
    rw [show (144 * h + s) / 144 = h by omega, show (144 * h + s) % 144 = s by omega]
    rfl
  rw [show 144 * 24 = 3456 from rfl] at hfl
  rw [hfl] at hcnt
  refine ⟨r, σ3, sI σ6 67 c (mI σ5 67 c), p3, ?_, IF⟩
  have hm3 : f_Mo_stands σ3 (nI c) = some 1 := by
    rw [moStands_k (F13.I 65 0 (by decide) (by decide)) (F13.I 65 1 (by decide) (by decide)), hm0]
  have e0_3 : mI σ1 65 0 = nI n := e0
  rw [hm3]
  simp only [bnd1_s, if_neg ne10]
  rw [F13.I 66 c (by decide) (by simp), if_pos hk1, z2]
  simp only [bnd1_s, if_neg ne10]
  rw [moFree_k (by omega) hn e0_3 (F13.keeps (by decide)), z3, w]
  simp only [bnd1_s, if_neg ne10]
  rw [p4]
  simp only [bnd1_s]
  rw [p5]
  simp only [bnd1_s, letv]
  rw [p6]
  simp only [bnd1_s]
  exact hcnt
