-- part oo: the reference reads the best sale off
theorem mo_l189 {N m B : Nat} {σ : Mem} {T : Nat → Option Nat} (hN : 1000 < N) (hm : m < 256) (hB : B < 10000) (hT : Bd m B T) (hT0 : T 0 = some 0) (h97 : ∀ b, b < 8 → m.testBit b = true → mL σ 97 b = lN (PR (RM m) (7 - b))) (h95 : ∀ S, S < 256 → sbs S m → RT σ m S (T S)) (h53 : mI σ 65 53 = -1) : ∃ σ', L_Mo_laysSale_l189 N (nI m) N 0 σ = some σ' ∧ ((∃ v, BV T m v ∧ mI σ' 65 53 = nI (v / MM) ∧ mL σ' 65 54 = lN (UF m m - v % MM)) ∧ Fr [] [(65, 53), (65, 54)] σ σ') := by
  refine loopR (L := fun z (x : Int32 × Mem) => L_Mo_laysSale_l189 N (nI m) z x.1 x.2) (P := fun i x => x.1 = nI i ∧ Fr [] [(65, 53), (65, 54)] σ x.2 ∧ ((mI x.2 65 53 = -1 ∧ ∀ S y, S < i → sbs S m → T S ≠ some y) ∨ ∃ v, mI x.2 65 53 = nI (v / MM) ∧ mL x.2 65 54 = lN (UF m m - v % MM) ∧ (∃ S, S < i ∧ sbs S m ∧ T S = some v) ∧ ∀ S y, S < i → sbs S m → T S = some y → y ≤ v)) (a := (0, σ)) (m + 1) ?_ ?_ (by omega) ⟨rfl, Fr.rf _ _ _, Or.inl ⟨h53, fun S y h => absurd h (Nat.not_lt_zero S)⟩⟩
  · rintro z i ⟨x, s⟩ hi ⟨h1, h2, h3⟩
    change x = _ at h1
    change Fr _ _ σ s at h2
    change (mI s 65 53 = -1 ∧ _) ∨ ∃ v, mI s 65 53 = nI (v / MM) ∧ mL s 65 54 = lN (UF m m - v % MM) ∧ _ at h3
    subst h1
    right
    have gi := inb_j (show i < 256 by omega) (show 256 < 2 ^ 31 by decide)
    have stp : ∀ s' : Mem, (B_Mo_laysSale_l189 N (nI m) (L_Mo_laysSale_l189 N (nI m) z) (nI i) s = L_Mo_laysSale_l189 N (nI m) z (nI (i + 1)) s') → Fr [] [(65, 53), (65, 54)] σ s' → ((mI s' 65 53 = -1 ∧ ∀ S y, S < i + 1 → sbs S m → T S ≠ some y) ∨ ∃ v, mI s' 65 53 = nI (v / MM) ∧ mL s' 65 54 = lN (UF m m - v % MM) ∧ (∃ S, S < i + 1 ∧ sbs S m ∧ T S = some v) ∧ ∀ S y, S < i + 1 → sbs S m → T S = some y → y ≤ v) → ∃ a' : Int32 × Mem, L_Mo_laysSale_l189 N (nI m) (z + 1) (nI i) s = L_Mo_laysSale_l189 N (nI m) z a'.1 a'.2 ∧ (a'.1 = nI (i + 1) ∧ Fr [] [(65, 53), (65, 54)] σ a'.2 ∧ ((mI a'.2 65 53 = -1 ∧ ∀ S y, S < i + 1 → sbs S m → T S ≠ some y) ∨ ∃ v, mI a'.2 65 53 = nI (v / MM) ∧ mL a'.2 65 54 = lN (UF m m - v % MM) ∧ (∃ S, S < i + 1 ∧ sbs S m ∧ T S = some v) ∧ ∀ S y, S < i + 1 → sbs S m → T S = some y → y ≤ v)) := fun s' g1 g2 g3 => ⟨(nI (i + 1), s'), g1, rfl, g2, g3⟩
    unfold B_Mo_laysSale_l189 at stp
    rw [if_neg (show ¬ (nI m < nI i) from fun q => absurd ((nI_ltI (by omega) (by omega)).mp q) (by omega))] at stp
    simp only [letv, nI_1] at stp
    have hskip : (∀ y, sbs i m → T i = some y → ∃ v, mI s 65 53 = nI (v / MM) ∧ mL s 65 54 = lN (UF m m - v % MM) ∧ (∃ S, S < i ∧ sbs S m ∧ T S = some v) ∧ (∀ S y, S < i → sbs S m → T S = some y → y ≤ v) ∧ y ≤ v) → ((mI s 65 53 = -1 ∧ ∀ S y, S < i + 1 → sbs S m → T S ≠ some y) ∨ ∃ v, mI s 65 53 = nI (v / MM) ∧ mL s 65 54 = lN (UF m m - v % MM) ∧ (∃ S, S < i + 1 ∧ sbs S m ∧ T S = some v) ∧ ∀ S y, S < i + 1 → sbs S m → T S = some y → y ≤ v) := fun hq => by
      by_cases cc : ∃ y, sbs i m ∧ T i = some y
      · obtain ⟨y, c1, c2⟩ := cc
        obtain ⟨v, v1, v2, ⟨S, v3, v4⟩, v5, v6⟩ := hq y c1 c2
        refine Or.inr ⟨v, v1, v2, ⟨S, by omega, v4⟩, fun S' y' g1 g2 g3 => ?_⟩
        by_cases d : S' = i
        · subst d; rw [c2] at g3; cases g3; exact v6
        · exact v5 S' y' (by omega) g2 g3
      · have hno : ∀ S y, S < i + 1 → ¬ S < i → sbs S m → T S ≠ some y := fun S y g1 g2 g3 g4 => by
          have : S = i := by omega
          subst this; exact cc ⟨y, g3, g4⟩
        rcases h3 with ⟨q1, q2⟩ | ⟨v, v1, v2, ⟨S, v3, v4⟩, v5⟩
        · refine Or.inl ⟨q1, fun S y g1 g2 => ?_⟩
          by_cases d : S < i
          · exact q2 S y d g2
          · exact hno S y g1 d g2
        · refine Or.inr ⟨v, v1, v2, ⟨S, by omega, v4⟩, fun S' y' g1 g2 g3 => ?_⟩
          by_cases d : S' < i
          · exact v5 S' y' d g2 g3
          · exact absurd g3 (hno S' y' g1 d g2)
    by_cases c : sbs i m
    · rw [if_pos ((andn0 (by omega)).mpr c), grd_t gi, nI_clamp (by omega)] at stp
      have e95 := (h95 i (by omega) c).k (σ' := s) (h2.I 95 i (by simp) (by simp)) (h2.L 96 i (by simp) (by simp))
      cases eT : T i with
      | none =>
        rw [eT, RT_n] at e95
        rw [e95, if_neg (by decide)] at stp
        simp only [bnd1_s, q2, if_true] at stp
        exact stp s rfl h2 (hskip (fun y _ g => by rw [eT] at g; cases g))
      | some cv =>
        rw [eT] at e95
        obtain ⟨f1, f2⟩ := RT_s.mp e95
        obtain ⟨b1, b2⟩ := hT i cv c eT
        have hk := mo_keyOf (N := N) (σ := s) hN hm (show i < 256 by omega) c b2 f2 (fun b hb hbm => (h2.L 97 b (by simp) (by simp)).trans (h97 b hb hbm))
        have hUF := UF_lt (m := m) (S := m) (fun _ h => h)
        have hUM : UF m m < 2 ^ 63 := Nat.lt_trans hUF (by decide)
        have hUle : UF m i ≤ UF m m := by
          rw [UF_HR, UF_HR]
          exact HR_mono 8 (fun j _ => by
            unfold dF
            by_cases q : i.testBit j = true
            · rw [if_pos q, if_pos (c j q)]; exact Nat.le_refl _
            · rw [if_neg q]; exact Nat.zero_le _)
        rw [f1, if_pos (show (0 : Int32) ≤ nI (cv / MM) from nI_le (a := 0) (Nat.zero_le _) (by omega)), hk] at stp
        simp only [bnd1_s] at stp
        rw [grd_t gi] at stp
        have hnew : ∀ s', s' = sL (sI s 65 53 (nI (cv / MM))) 65 54 (lN (UF m m - cv % MM)) → (∀ S y, S < i → sbs S m → T S = some y → y ≤ cv) → Fr [] [(65, 53), (65, 54)] σ s' ∧ ((mI s' 65 53 = -1 ∧ ∀ S y, S < i + 1 → sbs S m → T S ≠ some y) ∨ ∃ v, mI s' 65 53 = nI (v / MM) ∧ mL s' 65 54 = lN (UF m m - v % MM) ∧ (∃ S, S < i + 1 ∧ sbs S m ∧ T S = some v) ∧ ∀ S y, S < i + 1 → sbs S m → T S = some y → y ≤ v) := fun s' e hq => by
          subst e
          refine ⟨(h2.fI rfl (by decide)).fL rfl (by decide), Or.inr ⟨cv, by rw [mI_sL, rdI, if_pos ⟨rfl, rfl⟩], by rw [rdL, if_pos ⟨rfl, rfl⟩], ⟨i, by omega, c, eT⟩, fun S y g1 g2 g3 => ?_⟩⟩
          by_cases d : S = i
          · subst d; rw [eT] at g3; cases g3; exact Nat.le_refl _
          · exact hq S y (by omega) g2 g3
        rcases h3 with ⟨q1, q2'⟩ | ⟨v, v1, v2, v3, v5⟩
        · rw [q1, if_neg (nI_m1 (by omega)), grd_t gi, if_neg (nIm1 (by omega))] at stp
          simp only [bnd1_s, q2, if_neg (show ¬ (1 = 0) by decide)] at stp
          rw [grd_t gi] at stp
          obtain ⟨n1, n2⟩ := hnew _ rfl (fun S y g1 g2 g3 => absurd g3 (q2' S y g1 g2))
          exact stp _ rfl n1 n2
        · obtain ⟨S0, s1, s2, s3⟩ := v3
          obtain ⟨d1, d2⟩ := hT S0 v s2 s3
          have hU0 : UF m S0 ≤ UF m m := by
            rw [UF_HR, UF_HR]
            exact HR_mono 8 (fun j _ => by
              unfold dF
              by_cases q : S0.testBit j = true
              · rw [if_pos q, if_pos (s2 j q)]; exact Nat.le_refl _
              · rw [if_neg q]; exact Nat.zero_le _)
          have hlex := lex_cmp (a := v) (b := cv)
          have hkeep : cv ≤ v → _ := fun q => hskip (fun y _ g => by
            rw [eT] at g; cases g
            exact ⟨v, v1, v2, ⟨S0, s1, s2, s3⟩, v5, q⟩)
          have hrep : v ≤ cv → ∀ S y, S < i → sbs S m → T S = some y → y ≤ cv := fun q S y g1 g2 g3 => Nat.le_trans (v5 S y g1 g2 g3) q
          rw [v1, v2] at stp
          by_cases c1 : cv / MM < v / MM
          · rw [if_pos (nI_lt c1 (by omega))] at stp
            simp only [bnd1_s, q2, if_true] at stp
            exact stp s rfl h2 (hkeep (by omega))
          · rw [if_neg (fun z => c1 ((nI_ltI (by omega) (by omega)).mp z)), grd_t gi] at stp
            by_cases c2 : cv / MM = v / MM
            · rw [if_pos (by rw [c2])] at stp
              by_cases c3 : UF m m - cv % MM < UF m m - v % MM
              · rw [if_pos ((lgc _ _).mpr ((pk_lLT (by omega) (by omega)).mpr c3))] at stp
                simp only [bnd1_s, q2, if_neg (show ¬ (1 = 0) by decide)] at stp
                rw [grd_t gi] at stp
                obtain ⟨n1, n2⟩ := hnew _ rfl (hrep (by omega))
                exact stp _ rfl n1 n2
              · rw [if_neg (fun z => c3 ((pk_lLT (by omega) (by omega)).mp ((lgc _ _).mp z)))] at stp
                simp only [bnd1_s, q2, if_true] at stp
                exact stp s rfl h2 (hkeep (by omega))
            · rw [if_neg (fun z => c2 ((nI_eq (by omega) (by omega)).mp z))] at stp
              simp only [bnd1_s, q2, if_neg (show ¬ (1 = 0) by decide)] at stp
              rw [grd_t gi] at stp
              obtain ⟨n1, n2⟩ := hnew _ rfl (hrep (by omega))
              exact stp _ rfl n1 n2
    · rw [if_neg (fun z => c ((andn0 (by omega)).mp z))] at stp
      simp only [bnd1_s, q2, if_true] at stp
      exact stp s rfl h2 (hskip (fun y g _ => absurd g c))
  · rintro z ⟨x, s⟩ ⟨h1, h2, h3⟩
    change x = _ at h1
    subst h1
    have z0 : sbs 0 m := fun j hj => absurd hj (by rw [Nat.zero_testBit]; decide)
    refine ⟨s, ?_, ?_, h2⟩
    · show B_Mo_laysSale_l189 N (nI m) _ (nI (m + 1)) s = _
      unfold B_Mo_laysSale_l189
      rw [if_pos (nI_lt (by omega) (by omega))]
    · rcases h3 with ⟨-, q⟩ | ⟨v, v1, v2, ⟨S, v3, v4, v6⟩, v5⟩
      · exact absurd hT0 (q 0 0 (by omega) z0)
      · exact ⟨v, ⟨⟨S, by omega, v4, v6⟩, fun S' y g1 g2 g3 => v5 S' y (by have := sbs_le g2; omega) g2 g3⟩, v1, v2⟩
theorem mo_laysSale {N : Nat} {σ0 : Mem} {W : LW} {h m : Nat} (hN : 1000 < N) (hI : Inv N σ0) (hR : Rdy σ0) (hL : DayL N σ0 W) (hD : DayEq σ0) (hh : h < 24) (hm : m < 256) : ∃ σ', f_Mo_laysSale N σ0 (nI h) (nI m) = some σ' ∧ (∃ v, BV (DD (oR m (shF σ0 h) (wF W σ0 h)) 144) m v ∧ mI σ' 65 53 = nI (v / MM) ∧ mL σ' 65 54 = lN (UF m m - v % MM)) ∧ ∀ b, b < 8 → m.testBit b = true → mL σ' 97 b = lN (PR (RM m) (7 - b)) := by
  obtain ⟨s1, a1, a2, a3⟩ := mo_l6 (N := N) (m := m) (σ := σ0) (a1 := nI h) hN hm
  obtain ⟨s2, b1, b2, b3⟩ := mo_l60 (N := N) (m := m) (σ := s1) (a1 := nI h) (a2 := nI m) (o := oR m (shF σ0 h) (wF W σ0 h)) hN
  have F2 : FQ σ0 s2 := (a2.mono (by decide) (by simp)).c b2 (by decide) (by simp)
  obtain ⟨s3, c1, c2, c3⟩ := mo_l102 hN hI hR hL hD hh hm F2 (fun b hb hbm => (b2.L 97 b (by decide) (by simp)).trans (a3 b hb hbm)) (fun S g1 _ => b3 S g1)
  have h97 : ∀ b, b < 8 → m.testBit b = true → mL (sI s3 65 53 (-1)) 97 b = lN (PR (RM m) (7 - b)) := fun b hb hbm => (c2.L 97 b (by decide) (by simp)).trans ((b2.L 97 b (by decide) (by simp)).trans (a3 b hb hbm))
  obtain ⟨s4, d1, d2, d3⟩ := mo_l189 (N := N) (σ := sI s3 65 53 (-1)) (T := DD (oR m (shF σ0 h) (wF W σ0 h)) 144) hN hm (show 7992 < 10000 by decide) (DDR_bd (fun b q => (wF_ok W σ0 h b q).1)) (DD_zero _ 144) h97 (fun S g1 g2 => (c3 S g1 g2).k (by rw [rdI, if_neg (by omega)]) (by rw [mL_sI])) (by rw [rdI, if_pos ⟨rfl, rfl⟩])
  refine ⟨s4, ?_, d2, fun b hb hbm => (d3.L 97 b (by simp) (by simp)).trans (h97 b hb hbm)⟩
  unfold f_Mo_laysSale
  rw [show (7 : Int32) = 7 from rfl, a1]
  simp only [bnd1_s]
  rw [b1]
  simp only [bnd1_s]
  rw [c1]
  simp only [bnd1_s, letv]
  exact d1
