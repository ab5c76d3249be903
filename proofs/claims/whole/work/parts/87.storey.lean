-- ===== a storey more =====
theorem mul_cnt (w : Int32) (f : Nat → Bool) : ∀ m, w * nI (cntB f m) = sumI (fun i => if f i then w else 0) m := by
  intro m
  induction m with
  | zero => show w * 0 = 0; exact Int32.mul_zero
  | succ m ih =>
    rw [cntB_succ, sumI_succ, ← ih]
    cases f m with
    | false => simp only [if_neg f10, Nat.add_zero, Int32.add_zero]
    | true =>
      simp only [if_true]
      rw [← nI_1, Int32.mul_add, Int32.mul_one]
/-- what a wish brings in an hour on trial -/
def trG (σ : Mem) (c : Nat) (s : Nat) (h k : Nat) : Int32 := if ((stands (mI σ 56 0) k && (decide ((mI σ 58 k).toNatClampNeg ≤ h) && (decide (h < (mI σ 59 k).toNatClampNeg) && (decide (mI σ 34 h ≠ 0) && decide (mI σ 39 (mI σ 57 k).toNatClampNeg = 0))))) && (decide (mI σ 60 k = nI s) && (trX σ c h (mI σ 57 k).toNatClampNeg != decide (s = 1)))) = true then mI σ 61 k else 0
theorem wi_trialL {N : Nat} {σ σ0 : Mem} {c h s : Nat} (hN : 1000 < N) (hI : Inv N σ0) (hR : Rdy σ0) (hs : s < 2) (hh : h < 24) (F : Fr [40] [] σ0 σ) (h40 : ∀ sq, sq < 144 → mI σ 40 sq = if (decide (mI σ0 34 h ≠ 0) && hit (hitL (mI σ0 20 16) (mI σ0 21 16) (mI σ0 22 16) (mI σ0 23 16) (mI σ0 35 h) (mI σ0 36 h)) sq) = true then 1 else 0) (x : Int32) : L_Wi_happinessOnTrial_l22 N (nI c) (nI s) (nI h) σ N x 0 = some (x + sumI (trG σ0 c s h) 16) := by
  have hI' := hI.k (F.keeps (by decide))
  have hR' := hR.k (F.keeps (by decide))
  have e0 : x = x + sumI (trG σ0 c s h) 0 := (Int32.add_zero x).symm
  rw [show L_Wi_happinessOnTrial_l22 N (nI c) (nI s) (nI h) σ N x 0 = L_Wi_happinessOnTrial_l22 N (nI c) (nI s) (nI h) σ N (x + sumI (trG σ0 c s h) 0) (nI 0) by rw [← e0]; rfl]
  refine loopS (L := fun z (a : Int32 × Int32) => L_Wi_happinessOnTrial_l22 N (nI c) (nI s) (nI h) σ z a.1 a.2) (fun i => (x + sumI (trG σ0 c s h) i, nI i)) _ 16 (fun z i hi => ?_) (fun z => ?_) (by omega)
  · show B_Wi_happinessOnTrial_l22 N (nI c) (nI s) (nI h) σ (L_Wi_happinessOnTrial_l22 N (nI c) (nI s) (nI h) σ z) (x + sumI (trG σ0 c s h) i) (nI i) = L_Wi_happinessOnTrial_l22 N (nI c) (nI s) (nI h) σ z (x + sumI (trG σ0 c s h) (i + 1)) (nI (i + 1))
    obtain ⟨p, f, t, w, s', hp, hf, ht, hw, hs', p1, p2, f1, f2, t1, t2, w1, w2, s1, s2⟩ := hI'.2.2.2.2.1.2 i hi
    unfold B_Wi_happinessOnTrial_l22
    have g : inb (nI i) 16 = true := inb_j hi (by decide)
    rw [if_neg (show ¬ ((16 : Int32) ≤ nI i) from nI_ge (b := 16) hi (by decide)), wi_isAsked hI' hR' hi hh hp hf ht p1 f1 t1, sumI_succ]
    simp only [bnd1_s, letv, grd_t g, nI_clamp (show i < 2 ^ 31 by omega), nI_1, p1, s1, w1]
    rw [da_onTrial hh hp F (h40 p hp)]
    have eG : trG σ0 c s h i = if ((stands (mI σ 56 0) i && (decide (f ≤ h) && (decide (h < t) && (decide (mI σ 34 h ≠ 0) && decide (mI σ 39 p = 0))))) && (decide (nI s' = nI s) && (trX σ0 c h p != decide (s = 1)))) = true then nI w else 0 := by
      unfold trG
      rw [← F.I 57 i (by decide) (by simp), ← F.I 58 i (by decide) (by simp), ← F.I 59 i (by decide) (by simp), ← F.I 60 i (by decide) (by simp), ← F.I 61 i (by decide) (by simp), ← F.I 56 0 (by decide) (by simp), p1, f1, t1, s1, w1, nI_clamp (by omega), nI_clamp (by omega), nI_clamp (by omega), F.I 34 h (by decide) (by simp), F.I 39 p (by decide) (by simp)]
    rw [eG]
    generalize (stands (mI σ 56 0) i && (decide (f ≤ h) && (decide (h < t) && (decide (mI σ 34 h ≠ 0) && decide (mI σ 39 p = 0))))) = A
    cases A with
    | false => simp [bnd1_s]
    | true =>
      by_cases q : nI s' = nI s
      · rcases (show s = 0 ∨ s = 1 by omega) with rfl | rfl <;> cases trX σ0 c h p <;> simp [q, bnd1_s, nI_0, nI_one, Int32.add_assoc]
      · simp [q, bnd1_s]
  · show B_Wi_happinessOnTrial_l22 N (nI c) (nI s) (nI h) σ _ _ (nI 16) = _
    unfold B_Wi_happinessOnTrial_l22
    rw [if_pos (by decide)]
theorem trG_k {σ σ' : Mem} (g : Keeps [20, 21, 22, 23, 34, 35, 36, 38, 39, 57, 58, 59, 60, 61] [(56, 0)] σ σ') (c s h : Nat) : trG σ' c s h = trG σ c s h := funext fun k => by
  unfold trG
  rw [g.f 56 0 (by decide), g.r 34 (by decide), g.r 39 (by decide), g.r 57 (by decide), g.r 58 (by decide), g.r 59 (by decide), g.r 60 (by decide), g.r 61 (by decide), trX_k (g.sub (by decide) (by decide))]
theorem wi_onTrial {N : Nat} {σ : Mem} {c s : Nat} (hN : 1000 < N) (hI : Inv N σ) (hR : Rdy σ) (hs : s < 2) (hz : (mI σ 22 16).toNatClampNeg < 100) : ∃ r, f_Wi_happinessOnTrial N σ (nI c) (nI s) = some r ∧ (r.1 = sumI (fun h => sumI (trG σ c s h) 16) 24 ∧ Fr [40] [] σ r.2) := by
  unfold f_Wi_happinessOnTrial
  refine loopR (L := fun z (x : Int32 × Int32 × Mem) => L_Wi_happinessOnTrial_l6 N (nI c) (nI s) z x.1 x.2.1 x.2.2) (P := fun i x => x.1 = sumI (fun h => sumI (trG σ c s h) 16) i ∧ x.2.1 = nI i ∧ Fr [40] [] σ x.2.2) (a := (0, 0, σ)) 24 ?_ ?_ (by omega) ⟨rfl, rfl, Fr.rf _ _ _⟩
  · rintro z i ⟨x, y, t⟩ hi ⟨h1, h2, h3⟩
    have hx : x = _ := h1
    have hy : y = nI i := h2
    subst hx; subst hy
    change Fr _ _ σ t at h3
    have It := hI.k (h3.keeps (by decide))
    have Rt := hR.k (h3.keeps (by decide))
    obtain ⟨t', p, v⟩ := da_layTrial (N := N) (σ := t) hN It Rt (by rw [h3.I 22 16 (by decide) (by simp)]; exact hz) hi
    have F' := fm_Da_layTrial p
    have hl := wi_trialL (N := N) (c := c) hN It Rt hs hi F' v (sumI (fun h => sumI (trG σ c s h) 16) i)
    rw [trG_k (h3.keeps (by decide))] at hl
    refine Or.inr ⟨(_, nI (i + 1), t'), ?_, rfl, rfl, h3.t F'⟩
    show B_Wi_happinessOnTrial_l6 N (nI c) (nI s) (L_Wi_happinessOnTrial_l6 N (nI c) (nI s) z) _ (nI i) t = _
    unfold B_Wi_happinessOnTrial_l6
    rw [if_neg (show ¬ ((24 : Int32) ≤ nI i) from nI_ge (b := 24) hi (by decide)), p]
    simp only [bnd1_s]
    rw [hl]
    simp only [bnd1_s, letv, nI_1]
  · rintro z ⟨x, y, t⟩ ⟨h1, h2, h3⟩
    have hy : y = nI 24 := h2
    subst hy
    refine ⟨(x, t), ?_, h1, h3⟩
    show B_Wi_happinessOnTrial_l6 N (nI c) (nI s) _ x (nI 24) t = _
    unfold B_Wi_happinessOnTrial_l6
    rw [if_pos (by decide)]
/-- the trial's sum is what the reference counts -/
theorem trial_hap {N : Nat} {σ : Mem} {c s : Nat} {D : DX} (hI : Inv N σ) (hs : s < 2) (h1 : ∀ h, h < 24 → D.1 h = mI σ 34 h) (h2 : ∀ sq, sq < 144 → D.2.1 sq = mI σ 39 sq) (h3 : ∀ h, h < 24 → ∀ sq, sq < 144 → (D.2.2 h sq ≠ 0 ↔ trX σ c h sq = true)) : sumI (fun h => sumI (trG σ c s h) 16) 24 = hap σ D (fun _ => false) (nI s) := by
  rw [sumI_comm]
  unfold hap
  refine sumI_congr 16 (fun k hk => ?_)
  obtain ⟨p, f, t, w, s', hp, hf, ht, hw, hs', p1, p2, f1, f2, t1, t2, w1, w2, s1, s2⟩ := hI.2.2.2.2.1.2 k hk
  have eM : kpM σ D false k = kpt D false p f t s' := by
    unfold kpM
    rw [p1, f1, t1, s1, nI_clamp (by omega), nI_clamp (by omega), nI_clamp (by omega), nI_clamp (by omega)]
  by_cases q : (stands (mI σ 56 0) k && decide (mI σ 60 k = nI s)) = true
  · rw [if_pos q]
    simp only [Bool.and_eq_true, decide_eq_true_eq] at q
    obtain ⟨q1, q2⟩ := q
    unfold kcn
    rw [eM, mul_cnt]
    refine sumI_congr 24 (fun h hh => ?_)
    have es : s' = s := (nI_eq (by omega) (by omega)).mp (s1.symm.trans q2)
    subst es
    unfold trG kpt
    rw [q1, p1, f1, t1, nI_clamp (by omega), nI_clamp (by omega), nI_clamp (by omega), h1 h hh, h2 p hp]
    have hx : trX σ c h p = decide (D.2.2 h p ≠ 0) := by
      have := h3 h hh p hp
      cases hX : trX σ c h p with
      | true => rw [hX] at this; simp [this]
      | false => rw [hX] at this; simpa using this
    rw [hx]
    simp [q2, Bool.and_assoc]
  · rw [if_neg q]
    refine sumI_zero 24 (fun h hh => ?_)
    unfold trG
    rw [if_neg]
    intro z
    apply q
    simp only [Bool.and_eq_true] at z ⊢
    exact ⟨z.1.1, z.2.1⟩
theorem st_storey {N : Nat} (hN : 70000 ≤ N) : St_storey N := by
  intro σ a1 a2 hI
  unfold f_Sh_storey f_Mo_storey
  rcases stOf_eq hI a1 0 with ⟨h1, h2⟩ | ⟨h1, h2, c, n, hn, hc, e6, rfl, hk, hk', hs⟩
  · refine ⟨-100000, σ, σ, by rw [h1]; rfl, ?_, hI⟩
    rcases h2 with h2 | ⟨c, n, hn, hc, rfl, h2, h3⟩
    · rw [h2]; rfl
    · rw [h2]
      simp only [bnd1_s, if_neg ne10]
      rw [grd_t (inb_j (show c < 17 by omega) (by decide)), nI_clamp (by omega), if_neg h3]
  have g := inb_j (show c < 17 by omega) (show 17 < 2 ^ 31 by decide)
  have hcl : (nI c).toNatClampNeg = c := nI_clamp (by omega)
  rw [h1]
  simp only [bnd1_s, if_neg ne10, grd_t g, hcl]
  rcases in_casesB a2 1 (by decide) with ⟨w, w'⟩ | ⟨w, w1, w2, a, ha, rfl⟩
  · have w : f_Mo_in a2 0 1 = some 0 := w
    refine ⟨-100000, σ, σ, ?_, ?_, hI⟩
    · rcases w' with w' | ⟨w', w2⟩
      · rw [if_pos w']
      · rw [if_neg w', if_neg (show ¬ a2 ≤ 1 from w2)]
    · rw [h2]
      simp only [bnd1_s, if_neg ne10]
      rw [if_pos hk, w]
      rfl
  have w : f_Mo_in (nI a) 0 1 = some 1 := w
  rw [if_neg w1, if_pos (show nI a ≤ 1 from w2), jm_min]
  simp only [bnd1_s]
  obtain ⟨nt, hnt, e6', e0, e1, e2, e3, ec, hzz, hT⟩ := hI.mtown
  have hnn : n = nt := (nI_eq (by omega) (by omega)).mp (e6.symm.trans e6')
  subst hnn
  -- the new height
  have hnew : (minI 99 (mI σ 22 c + 12)).toNatClampNeg < 100 := by
    unfold minI
    by_cases q : mI σ 22 c + 12 < 99
    · rw [if_pos q]
      rcases cl_cases (mI σ 22 c + 12) with ⟨-, q2⟩ | ⟨m, hm, q1, q2⟩
      · omega
      · rw [q2]
        rw [q1] at q
        have := (nI_ltI (b := 99) (by omega) (by decide)).mp q
        omega
    · rw [if_neg q]
      decide
  rw [to_trial hn e6' hc]
  simp only [bnd1_s]
  have FT := trM_fr σ c (mI σ 21 c) (minI 99 (mI σ 22 c + 12))
  obtain ⟨T1, T2, T3, T4, T5⟩ := trM_at σ c (mI σ 21 c) (minI 99 (mI σ 22 c + 12))
  generalize trM σ c (mI σ 21 c) (minI 99 (mI σ 22 c + 12)) = σt at FT T1 T2 T3 T4 T5
  have It := hI.row16 FT T1
  obtain ⟨σ2, t2, I2, R2⟩ := today_ok hN It
  have F2 := fm_Sh_today t2
  rw [t2]
  simp only [bnd1_s]
  have hz16 : (mI σ2 22 16).toNatClampNeg < 100 := by
    rw [F2.I 22 16 (by decide) (by decide), T4]
    exact hnew
  have ey : (if nI a = 1 then some 1 else some 0 : Option Int32) = some (nI a) := by
    rcases (show a = 0 ∨ a = 1 by omega) with rfl | rfl <;> rfl
  simp only [ey, bnd1_s]
  obtain ⟨⟨r, σ3⟩, p3, v3, F3⟩ := wi_onTrial (N := N) (σ := σ2) (c := c) (s := a) (by omega) I2 R2 (by omega) hz16
  change r = _ at v3
  change Fr _ _ σ2 σ3 at F3
  have I3 := I2.k (F3.keeps (by decide))
  have R3 := R2.k (F3.keeps (by decide))
  rw [p3]
  simp only [bnd2_s]
  rw [wi_happiness (by omega) I3 R3]
  simp only [bnd1_s, letv]
  -- the reference
  obtain ⟨σ4, p4, D4, I4, R4, F4⟩ := mo_laysDay hN I3 R3
  obtain ⟨σ5, hσ5⟩ : ∃ s, s = sI σ4 65 62 0 := ⟨_, rfl⟩
  have F5 : Fr [] [(65, 62)] σ4 σ5 := by rw [hσ5]; exact frI _ _ _ _
  have h62 : mI σ5 65 62 = 0 := by rw [hσ5]; exact sI_s _ _ _ _
  have F03 : Fr [8, 9, 20, 21, 22, 23, 34, 35, 36, 37, 38, 39, 40] [(33, 6), (33, 9)] σ σ3 := ((FT.mono (by decide) (by simp)).c F2 (by decide) (by decide)).c F3 (by decide) (by simp)
  have F35 : Fr [84, 85, 86, 87, 88] [(65, 37), (65, 62)] σ3 σ5 := (F4.mono (fun _ z => z) (by decide)).c F5 (by simp) (by decide)
  have F25 : Fr [40, 84, 85, 86, 87, 88] [(65, 37), (65, 62)] σ2 σ5 := (F3.mono (by decide) (by simp)).c F35 (by decide) (fun _ z => z)
  have I5 := I4.k (F5.keeps (by decide))
  have R5 := R4.k (F5.keeps (by decide))
  have D5 := D4.k (F5.keeps (by decide))
  obtain ⟨W, L5⟩ := I5.dayL R5
  have F15 : Fr [8, 9, 20, 21, 22, 23, 34, 35, 36, 37, 38, 39, 40, 84, 85, 86, 87, 88] [(33, 6), (33, 9), (65, 37), (65, 62)] σ σ5 := (F03.mono (by decide) (by decide)).c F35 (by decide) (by decide)
  have hwas := mo_happyBy (N := N) (by omega) I5.2.2.2.2.1 D5.g (b := fun _ => false) (fun k _ => mo_noBesides (by omega) h62 _) (nI a)
  have r66 : mI σ5 66 = mI σ 66 := F15.rowI 66 (by decide) (by decide)
  have r67 : mI σ5 67 = mI σ 67 := F15.rowI 67 (by decide) (by decide)
  have r68 : mI σ5 68 = mI σ 68 := F15.rowI 68 (by decide) (by decide)
  have r69 : mI σ5 69 = mI σ 69 := F15.rowI 69 (by decide) (by decide)
  have s20 : ∀ j, mI σ5 20 j = mI σt 20 j := fun j => by rw [F25.I 20 j (by decide) (by simp), F2.I 20 j (by decide) (by simp)]
  have s21 : ∀ j, mI σ5 21 j = mI σt 21 j := fun j => by rw [F25.I 21 j (by decide) (by simp), F2.I 21 j (by decide) (by simp)]
  have s22 : ∀ j, mI σ5 22 j = mI σt 22 j := fun j => by rw [F25.I 22 j (by decide) (by simp), F2.I 22 j (by decide) (by simp)]
  have s23 : ∀ j, mI σ5 23 j = mI σt 23 j := fun j => by rw [F25.I 23 j (by decide) (by simp), F2.I 23 j (by decide) (by simp)]
  have e6_5 : mI σ5 19 6 = nI n := (F15.I 19 6 (by decide) (by decide)).trans e6'
  have e7_5 : mI σ5 19 7 = mI σ 19 7 := F15.I 19 7 (by decide) (by decide)
  have hst5 : stands (mI σ5 19 7) c = true := by rw [e7_5]; exact hs
  have ez : mI σ5 68 c = mI σ 22 c := by rw [r68]; exact (ec c (by omega)).2.2.1
  have FM : Fr [68] [] σ5 (sI σ5 68 c (minI 99 (mI σ 22 c + 12))) := frA _ _ _ _
  obtain ⟨σ6, p6, u1, u2, u3⟩ := mo_trial (N := N) (σ := σ5) (σm := sI σ5 68 c (minI 99 (mI σ 22 c + 12))) (c := c) (nt := n) hN I5 R5 L5 (L5.2.2.1.k (FM.keeps (by decide))) hn e6_5 hc hst5 ((FM.I 65 0 (by decide) (by simp)).trans ((F15.I 65 0 (by decide) (by decide)).trans e0)) (by rw [FM.I 65 1 (by decide) (by simp), F15.I 65 1 (by decide) (by decide), e1, e7_5]) (by rw [FM.I 65 2 (by decide) (by simp), F15.I 65 2 (by decide) (by decide), e2, F15.I 19 8 (by decide) (by decide)]) (fun j hj hne => by
      rw [FM.I 66 j (by decide) (by simp), FM.I 67 j (by decide) (by simp), FM.I 69 j (by decide) (by simp), rdI, if_neg (fun z => hne z.2), r66, r67, r68, r69, s20, s21, s22, s23, (T1 j hj).1, (T1 j hj).2.1, (T1 j hj).2.2.1, (T1 j hj).2.2.2]
      obtain ⟨q1, q2, q3, q4, -⟩ := ec j hj
      exact ⟨q1, q2, q3, q4⟩) (by
      rw [FM.I 66 c (by decide) (by simp), FM.I 67 c (by decide) (by simp), FM.I 69 c (by decide) (by simp), rdI, if_pos ⟨rfl, rfl⟩, r66, r67, r69, s20, s21, s22, s23, T2, T3, T4, T5]
      obtain ⟨q1, q2, q3, q4, -⟩ := ec c (by omega)
      exact ⟨q1, q2, rfl, q4⟩) (by rw [s20, s20, T2, (T1 c (by omega)).1]) (Or.inr (by rw [s21, s21, T3, (T1 c (by omega)).2.1])) (fun j hj => by
      rw [rdI]
      by_cases e : j = c
      · rw [if_pos ⟨rfl, e⟩]; exact hnew
      · rw [if_neg (fun z => e z.2), r68]; exact hzz j hj)
  have F6 := fm_Mo_laysDay p6
  have F56 : Fr [68, 84, 85, 86, 87, 88] [(65, 37)] σ5 σ6 := (FM.mono (by decide) (by simp)).c F6 (by decide) (fun _ z => z)
  have W6 : IWish σ6 := I5.2.2.2.2.1.k (F56.keeps (by decide))
  have D6 : DayG σ6 (mI σ5 34, mI σ5 39, fun h sq => mI σ6 86 (144 * h + sq)) := ⟨u1, u2, fun h hh sq hs => rfl⟩
  have h62' : mI σ6 65 62 = 0 := (F56.I 65 62 (by decide) (by decide)).trans h62
  have hnow := mo_happyBy (N := N) (by omega) W6 D6 (b := fun _ => false) (fun k _ => mo_noBesides (by omega) h62' _) (nI a)
  rw [hap_k (F56.keeps (by decide)), ← trial_hap (c := c) (s := a) I5 (by omega) (fun _ _ => rfl) (fun _ _ => rfl) u3] at hnow
  have eT : (fun h => sumI (trG σ5 c a h) 16) = fun h => sumI (trG σ2 c a h) 16 := funext fun h => by rw [trG_k (F25.keeps (by decide))]
  rw [eT, ← v3] at hnow
  rw [hap_k (F35.keeps (by decide)), dC_k (F35.keeps (by decide))] at hwas
  have FF : Fr [68, 84, 85, 86, 87, 88] [(65, 37)] σ5 (sI σ6 68 c (mI σ5 68 c)) := F56.aI rfl (by decide)
  have r68f : mI (sI σ6 68 c (mI σ5 68 c)) 68 = mI σ5 68 := by
    rw [mI_sI, F6.rowI 68 (by decide) (by simp), mI_sI, up1_back]
  have IF : Inv N (sI σ6 68 c (mI σ5 68 c)) := I5.k (FF.keeps1 68 r68f (by decide))
  generalize hap σ3 (dC σ3) (fun _ => false) (nI a) = H at hwas
  have hm3 : f_Mo_stands σ3 (nI c) = some 1 := by
    rw [moStands_k (F03.I 65 0 (by decide) (by decide)) (F03.I 65 1 (by decide) (by decide)), h2]
  refine ⟨if nI a = 0 then r - H else -(r - H), σ3, sI σ6 68 c (mI σ5 68 c), ?_, ?_, IF⟩
  · by_cases q : nI a = 0
    · rw [if_pos q, if_pos q]
    · rw [if_neg q, if_neg q]
  · rw [hm3]
    simp only [bnd1_s, if_neg ne10]
    rw [F03.I 66 c (by decide) (by simp), if_pos hk, w]
    simp only [bnd1_s, if_neg ne10]
    rw [p4]
    simp only [bnd1_s]
    rw [← hσ5, hwas]
    simp only [bnd1_s]
    rw [mo_min, ez]
    simp only [bnd1_s]
    rw [p6]
    simp only [bnd1_s]
    rw [hnow, ← ez]
    simp only [bnd1_s]
    by_cases q : nI a = 0
    · rw [if_pos q, if_pos q]
    · rw [if_neg q, if_neg q, Int32.neg_sub]
