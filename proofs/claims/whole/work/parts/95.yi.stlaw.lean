-- ===== law, on both sides =====
theorem rd_copy {N n u : Nat} (hn : n ≤ 240) (hu : n ≤ u) (hu2 : u ≤ 260) : ∀ (r k i : Nat) (σ : Mem), i + r = n → r < k → mI σ 17 3 = nI n → mI σ 1 1 = nI u → ∃ σ', L_Rd_readLaw_l13 N k (nI i) σ = some σ' ∧ (∀ j, i ≤ j → j < n → mI σ' 18 j = mI σ 2 j) ∧ (∀ j, j < i → mI σ' 18 j = mI σ 18 j) ∧ Fr [18] [] σ σ' := by
  intro r
  induction r with
  | zero =>
    intro k i σ e hk h1 h2
    obtain ⟨k, rfl⟩ : ∃ z, k = z + 1 := ⟨k - 1, by omega⟩
    refine ⟨σ, ?_, fun j a b => by omega, fun j _ => rfl, Fr.rf _ _ _⟩
    show B_Rd_readLaw_l13 N _ _ σ = _
    unfold B_Rd_readLaw_l13
    rw [h1, if_pos (nI_le (by omega) (by omega))]
  | succ r ih =>
    intro k i σ e hk h1 h2
    obtain ⟨k, rfl⟩ : ∃ z, k = z + 1 := ⟨k - 1, by omega⟩
    obtain ⟨σ', a1, a2, a3, a4⟩ := ih k (i + 1) (sI σ 18 i (mI σ 2 i)) (by omega) (by omega) (by rw [mI_sIn _ _ _ (by decide)]; exact h1) (by rw [mI_sIn _ _ _ (by decide)]; exact h2)
    refine ⟨σ', ?_, fun j b1 b2 => ?_, fun j hj => ?_, (frA _ _ _ _).t a4⟩
    · rw [← a1]
      have hb : f_Ta_byteAt σ (nI i) = some (mI σ 2 i) := by
        unfold f_Ta_byteAt
        rw [if_neg (nI_pos (by omega)), h2, if_neg (nI_ge (by omega) (by omega)), grd_t (inb_j (by omega) (by decide)), nI_clamp (by omega)]
      show B_Rd_readLaw_l13 N _ _ σ = _
      unfold B_Rd_readLaw_l13
      rw [h1, if_neg (nI_ge (by omega) (by omega)), hb]
      simp only [bnd1_n]
      rw [grd_t (inb_j (by omega) (by decide)), letv_n, nI_clamp (by omega), letv_n, nI_1]
    · rcases (show i + 1 ≤ j ∨ j = i by omega) with z | rfl
      · rw [a2 j z b2, mI_sIn _ _ _ (by decide)]
      · rw [a3 j (by omega), sI_s]
    · rw [a3 j (by omega), sI_n _ _ (by omega)]
theorem fault_neg : ∀ k : Fin 6, ∀ q : Fin 241, 1 ≤ k.val → (-1000) * nI k.val - nI q.val < 0 := by decide +kernel
theorem nthB_out : ∀ {cs : List Cl} {q : Nat}, cs.length ≤ q → nthB cs q = (0, nul, nul) := by
  intro cs
  induction cs with
  | nil => intro q _; rfl
  | cons cl r ih =>
    intro q h
    rw [List.length_cons] at h
    unfold nthB
    rw [if_neg (by omega)]
    exact ih (by omega)
def ltO (cs : List Cl) (q : Nat) : Int32 := (nthB cs q).1
def hsO (cs : List Cl) (q : Nat) (F : FA) : Int32 := ((nthB cs q).2.2 F).getD 0
def vsO (cs : List Cl) (q : Nat) (F : FA) : Int32 := ((nthB cs q).2.1 F).getD 0
/-- the class's side: read, and where there is no fault taken over -/
def SOut (N : Nat) (σ : Mem) (a1 : Int32) (o : LwO) : Prop := match o with
  | .inl (k, q) => ∃ σ', f_Sh_law N σ a1 = some ((-1000) * nI k - nI q, σ') ∧ mI σ' 1 1 = 0 ∧ Fr [11, 12, 13, 14, 18] [(1, 1), (10, 1), (10, 5), (17, 3), (17, 4), (17, 5)] σ σ'
  | .inr cs => ∃ σ', f_Sh_law N σ a1 = some (nI cs.length, σ') ∧ mI σ' 1 1 = 0 ∧ mI σ' 33 6 = 0 ∧ mI σ' 33 9 = 0 ∧ LawOk cs.length (hsO cs) ∧ LawC N σ' cs.length (ltO cs) (hsO cs) (vsO cs)
theorem sh_law {N n u : Nat} {tx : Nat → Int32} {M : MT} {LW : LWT} (hN : 1000 < N) (hT : TX n tx) (hM : Clo tx M) (hL : CloL tx n M LW) (h1 : 1 ≤ n) (hu : n ≤ u) (hu2 : u ≤ 260) {σ : Mem} (e1 : mI σ 1 1 = nI u) (ht : ∀ j, j < n → mI σ 2 j = tx j) : ∃ o, LW [] 0 o ∧ SOut N σ (nI n) o := by
  have hn := hT.1
  obtain ⟨σb, b1, b2, -, b4⟩ := rd_copy (N := N) hn hu hu2 n N 0 (sI σ 17 3 (nI n)) (by omega) (by omega) (sI_s _ _ _ _) (by rw [mI_sIn _ _ _ (by decide)]; exact e1)
  have b1 : L_Rd_readLaw_l13 N N 0 (sI σ 17 3 (nI n)) = some σb := b1
  have hcl : f_La_clear_b (sI (sI σb 17 4 0) 17 5 0) = some (sI (sI (sI (sI σb 17 4 0) 17 5 0) 10 1 0) 10 5 0) := rfl
  have C0 : CS n tx (sI (sI (sI (sI σb 17 4 0) 17 5 0) 10 1 0) 10 5 0) 0 0 := by
    refine ⟨?_, ?_, fun j hj => ?_, ?_, by omega, by omega⟩
    · rw [mI_sIn _ _ _ (by decide), mI_sIn _ _ _ (by decide), sI_n _ _ (by omega), sI_s]; rfl
    · rw [mI_sIn _ _ _ (by decide), mI_sIn _ _ _ (by decide), sI_n _ _ (by omega), sI_n _ _ (by omega), b4.I 17 3 (by decide) (by simp), sI_s]
    · rw [mI_sIn _ _ _ (by decide), mI_sIn _ _ _ (by decide), mI_sIn _ _ _ (by decide), mI_sIn _ _ _ (by decide), b2 j (by omega) hj, mI_sIn _ _ _ (by decide)]
      exact ht j hj
    · rw [sI_n _ _ (by omega), sI_s]; rfl
  obtain ⟨o, q1, q2⟩ := cl_clauses hN hT hM hL n N 0 _ 0 0 [] (by omega) (by omega) (by omega) C0 (sI_s _ _ _ _) (by simp) True.intro
  refine ⟨o, q1, ?_⟩
  have q2 : WOut n tx (f_Rd_readClauses N (sI (sI (sI (sI σb 17 4 0) 17 5 0) 10 1 0) 10 5 0)) o := q2
  have hmin : f_JM_min_7cf53 (nI n) 240 = some (nI n) := by
    unfold f_JM_min_7cf53
    rw [if_neg (show ¬ (240 : Int32) < nI n from nI_nlt (a := 240) hn (by decide))]
  have hlen : f_Ta_length σ = some (nI u) := by unfold f_Ta_length; rw [e1]
  have hg : f_Sh_law N σ (nI n) = bnd2 (f_Rd_readLaw N σ (nI n)) fun r30 σ30 => bnd1 (f_Ta_empty σ30) fun σ38 => if r30 < 0 then (some (r30, σ38)) else (bnd1 (f_La_copyFrom σ38) fun σ53 => bnd1 (f_Da_forgetSky σ53) fun σ60 => some (r30, σ60)) := by
    unfold f_Sh_law
    rw [if_neg (show ¬ nI n < 1 from nI_nlt (b := 1) h1 (by omega)), if_neg (show ¬ (240 : Int32) < nI n from nI_nlt (a := 240) hn (by decide)), hlen]
    simp only [bnd1_n]
    rw [if_pos (nI_le hu (by omega))]
  match o, q2 with
  | .inl (k, q), q2 =>
    obtain ⟨σe, f1, f2, f3, f4, f5⟩ := q2
    have hr : f_Rd_readLaw N σ (nI n) = some ((-1000) * nI k - nI q, σe) := by
      unfold f_Rd_readLaw
      rw [hmin]
      simp only [bnd1_n]
      rw [letv_n, b1]
      simp only [bnd1_n]
      rw [letv_n, letv_n, hcl]
      simp only [bnd1_n]
      rw [f1]
      simp only [bnd2_n, if_true]
      rw [f2]
    have Fr1 := fm_Rd_readLaw hr
    refine ⟨sI σe 1 1 0, ?_, sI_s _ _ _ _, (Fr1.mono (by decide) (by decide)).t ((frI _ _ _ _).mono (by simp) (by simp))⟩
    rw [hg, hr]
    simp only [bnd2_n]
    rw [show f_Ta_empty σe = some (sI σe 1 1 0) from rfl]
    simp only [bnd1_n]
    rw [if_pos (fault_neg ⟨k, by omega⟩ ⟨q, by omega⟩ f3)]
  | .inr cs, q2 =>
    obtain ⟨σe, c, f1, f2, f3, f4, f5⟩ := q2
    have hr : f_Rd_readLaw N σ (nI n) = some (nI cs.length, σe) := by
      unfold f_Rd_readLaw
      rw [hmin]
      simp only [bnd1_n]
      rw [letv_n, b1]
      simp only [bnd1_n]
      rw [letv_n, letv_n, hcl]
      simp only [bnd1_n]
      rw [f1]
      simp only [bnd2_n, if_neg ne10]
      unfold f_La_clauses_b
      simp only [bnd1_n]
      rw [f3]
    have hcp : f_La_copyFrom (sI σe 1 1 0) = some (sI (sI (cpI (cpI (cpI (cpI (sI σe 1 1 0) 11 4 0 0 513) 12 5 0 0 16) 13 6 0 0 16) 14 7 0 0 16) 3 1 (mI (cpI (cpI (cpI (cpI (sI σe 1 1 0) 11 4 0 0 513) 12 5 0 0 16) 13 6 0 0 16) 14 7 0 0 16) 10 1)) 3 5 (mI (sI (cpI (cpI (cpI (cpI (sI σe 1 1 0) 11 4 0 0 513) 12 5 0 0 16) 13 6 0 0 16) 14 7 0 0 16) 3 1 (mI (cpI (cpI (cpI (cpI (sI σe 1 1 0) 11 4 0 0 513) 12 5 0 0 16) 13 6 0 0 16) 14 7 0 0 16) 10 1)) 10 5)) := rfl
    obtain ⟨σg, eg⟩ : ∃ z, z = (sI (sI (cpI (cpI (cpI (cpI (sI σe 1 1 0) 11 4 0 0 513) 12 5 0 0 16) 13 6 0 0 16) 14 7 0 0 16) 3 1 (mI (cpI (cpI (cpI (cpI (sI σe 1 1 0) 11 4 0 0 513) 12 5 0 0 16) 13 6 0 0 16) 14 7 0 0 16) 10 1)) 3 5 (mI (sI (cpI (cpI (cpI (cpI (sI σe 1 1 0) 11 4 0 0 513) 12 5 0 0 16) 13 6 0 0 16) 14 7 0 0 16) 3 1 (mI (cpI (cpI (cpI (cpI (sI σe 1 1 0) 11 4 0 0 513) 12 5 0 0 16) 13 6 0 0 16) 14 7 0 0 16) 10 1)) 10 5)) := ⟨_, rfl⟩
    rw [← eg] at hcp
    have r4 : ∀ j, j < 513 → mI σg 4 j = mI σe 11 j := fun j hj => by
      have : mI σg 4 = va_cpy (mI σe 11) (mI σe 4) 0 0 513 := by rw [eg]; rfl
      rw [this]
      exact cp_in (σ := σe) (k := 11) (j := 4) hj
    have r5 : ∀ j, j < 16 → mI σg 5 j = mI σe 12 j := fun j hj => by
      have : mI σg 5 = va_cpy (mI σe 12) (mI σe 5) 0 0 16 := by rw [eg]; rfl
      rw [this]
      exact cp_in (σ := σe) (k := 12) (j := 5) hj
    have r6 : ∀ j, j < 16 → mI σg 6 j = mI σe 13 j := fun j hj => by
      have : mI σg 6 = va_cpy (mI σe 13) (mI σe 6) 0 0 16 := by rw [eg]; rfl
      rw [this]
      exact cp_in (σ := σe) (k := 13) (j := 6) hj
    have r7 : ∀ j, j < 16 → mI σg 7 j = mI σe 14 j := fun j hj => by
      have : mI σg 7 = va_cpy (mI σe 14) (mI σe 7) 0 0 16 := by rw [eg]; rfl
      rw [this]
      exact cp_in (σ := σe) (k := 14) (j := 7) hj
    have r35 : mI σg 3 5 = nI cs.length := by
      have : mI σg 3 5 = mI σe 10 5 := by rw [eg]; rfl
      rw [this, f3]
    have r11 : mI σg 1 1 = 0 := by rw [eg]; rfl
    have hfk : f_Da_forgetSky σg = some (sI (sI σg 33 6 0) 33 9 0) := rfl
    have K : Keeps [4, 5, 6, 7] [(3, 5)] σg (sI (sI σg 33 6 0) 33 9 0) := (((Fr.rf [] [(33, 6), (33, 9)] σg).fI (σ2 := sI σg 33 6 0) rfl (by decide)).fI rfl (by decide)).keeps (by decide)
    refine ⟨sI (sI σg 33 6 0) 33 9 0, ?_, ?_, ?_, sI_s _ _ _ _, ⟨f2, fun q F => ?_⟩, ?_⟩
    · rw [hg, hr]
      simp only [bnd2_n]
      rw [show f_Ta_empty σe = some (sI σe 1 1 0) from rfl]
      simp only [bnd1_n]
      rw [if_neg (nI_pos (by omega)), hcp]
      simp only [bnd1_n]
      rw [hfk]
      simp only [bnd1_n]
    · rw [mI_sIn _ _ _ (by decide), mI_sIn _ _ _ (by decide)]; exact r11
    · rw [sI_n _ _ (by omega), sI_s]
    · show ((nthB cs q).2.2 F).getD 0 = 0 ∨ ((nthB cs q).2.2 F).getD 0 = 1
      rcases Nat.lt_or_ge q cs.length with z | z
      · have hb := (f5.at q z).2.2.2
        cases hv : (nthB cs q).2.2 F with
        | none => exact Or.inl rfl
        | some v => exact hb F v hv
      · rw [nthB_out z]
        exact Or.inl rfl
    · refine LawC.k (σ := σg) ⟨r35, fun q hq => ?_, fun σ' hk q hq F hF => ?_⟩ K
      · rw [r5 q (by omega)]
        exact (f5.at q hq).1
      · obtain ⟨-, ⟨s, e, a1, a2, a3, a4, a5⟩, h3, -⟩ := f5.at q hq
        have k4 : ∀ j, j < 513 → mI σ' 4 j = mI σe 11 j := fun j hj => by rw [hk.r 4 (by decide)]; exact r4 j hj
        refine ⟨?_, fun hl => ?_⟩
        · rw [r7 q (by omega), a1]
          exact la_run_sem hN a4 (fun j _ hj => k4 j (by omega)) (by rw [k4 e (by omega)]; exact a5) (by omega) (by decide) hF
        · obtain ⟨s, e, d1, d2, d3, d4, d5⟩ := h3 hl
          rw [r6 q (by omega), d1]
          exact la_run_sem hN d4 (fun j _ hj => k4 j (by omega)) (by rw [k4 e (by omega)]; exact d5) (by omega) (by decide) hF
/-- the reference's side -/
theorem mo_law {N n u : Nat} {tx : Nat → Int32} {o : LwO} (hN : 1000 < N) (hT : TX n tx) (hR : RSim N n tx [] 0 o) (h1 : 1 ≤ n) (hu : n ≤ u) (hu2 : u ≤ 260) {σ : Mem} (e1 : mI σ 65 11 = nI u) (ht : ∀ j, j < n → mI σ 72 j &&& 255 = tx j) : match o with
  | .inl (k, q) => ∃ σ', f_Mo_law N σ (nI n) = some ((-1000) * nI k - nI q, σ') ∧ mI σ' 65 11 = 0 ∧ Fr [73, 74, 75, 76, 77, 78] [(65, 11), (65, 12), (65, 13), (65, 14), (65, 15), (65, 16), (65, 17), (65, 18), (65, 19)] σ σ'
  | .inr cs => cs.length ≤ 16 → ∃ σ', f_Mo_law N σ (nI n) = some (nI cs.length, σ') ∧ mI σ' 65 11 = 0 ∧ LawM N σ' cs.length (ltO cs) (hsO cs) (vsO cs) := by
  have hn := hT.1
  have F0 : Fr [73, 74, 75, 76, 77, 78] [(65, 11), (65, 12), (65, 13), (65, 14), (65, 15), (65, 16), (65, 17), (65, 18), (65, 19)] σ (sI (sI (sI (sI σ 65 12 0) 65 13 (nI n)) 65 16 0) 65 18 0) := ((((Fr.rf _ _ σ).fI (σ2 := sI σ 65 12 0) rfl (by decide)).fI (σ2 := sI (sI σ 65 12 0) 65 13 (nI n)) rfl (by decide)).fI (σ2 := sI (sI (sI σ 65 12 0) 65 13 (nI n)) 65 16 0) rfl (by decide)).fI rfl (by decide)
  have M0 : MS0 n tx (sI (sI (sI (sI σ 65 12 0) 65 13 (nI n)) 65 16 0) 65 18 0) 0 0 := by
    refine ⟨?_, ?_, fun j hj => ?_, ?_, by omega⟩
    · rw [sI_n _ _ (by omega), sI_n _ _ (by omega), sI_n _ _ (by omega), sI_s]; rfl
    · rw [sI_n _ _ (by omega), sI_n _ _ (by omega), sI_s]
    · rw [mI_sIn _ _ _ (by decide), mI_sIn _ _ _ (by decide), mI_sIn _ _ _ (by decide), mI_sIn _ _ _ (by decide)]
      exact ht j hj
    · rw [sI_n _ _ (by omega), sI_s]; rfl
  have V := hR _ 0 N M0 (Nat.le_refl _) (sI_s _ _ _ _) (by simp) True.intro (by omega)
  have hg : f_Mo_law N σ (nI n) = bnd1 (bnd2 (f_Mo_readsClause N (sI (sI (sI (sI σ 65 12 0) 65 13 (nI n)) 65 16 0) 65 18 0)) fun r s => L_Mo_law_l46 N N r s) fun x46_ => q2 x46_ fun z46_2 σ46_ => letv (sI σ46_ 65 11 0) fun σ88 => if z46_2 = 0 then (some (mI σ88 65 14, σ88)) else (letv (sI σ88 65 20 (mI σ88 65 18)) fun σ105 => bnd1 (L_Mo_law_l110 N N 0 σ105) fun σ110_ => L_Mo_law_l138 N N 0 σ110_) := by
    unfold f_Mo_law
    rw [mo_in, if_neg (show ¬ nI n < 1 from nI_nlt (b := 1) h1 (by omega)), if_neg (show ¬ (240 : Int32) < nI n from nI_nlt (a := 240) hn (by decide))]
    simp only [bnd1_n, if_neg ne10]
    rw [e1, if_pos (nI_le hu (by omega)), letv_n, letv_n, letv_n, letv_n]
    cases f_Mo_readsClause N (sI (sI (sI (sI σ 65 12 0) 65 13 (nI n)) 65 16 0) 65 18 0) with
    | none => rfl
    | some z => rfl
  match o, V with
  | .inl (k, q), V =>
    obtain ⟨σ1, a1, a2, a3⟩ := V
    refine ⟨sI σ1 65 11 0, ?_, sI_s _ _ _ _, (F0.t (Fr.mono a3 (by decide) (by decide))).fI rfl (by decide)⟩
    rw [hg, a1]
    simp only [bnd1_n, q2_n]
    rw [letv_n, if_pos True.intro, sI_n _ _ (by omega), a2]
  | .inr cs, V =>
    obtain ⟨σ1, c, a1, a2, a3, a4, a5, a6⟩ := V
    intro hl
    have e16 : mI (sI (sI σ1 65 11 0) 65 20 (mI (sI σ1 65 11 0) 65 18)) 65 16 = nI c := by rw [sI_n _ _ (by omega), sI_n _ _ (by omega)]; exact a3
    have e18 : mI (sI σ1 65 11 0) 65 18 = nI cs.length := by rw [sI_n _ _ (by omega)]; exact a2
    obtain ⟨σ2, b1, b2, -, b4⟩ := mo_l110 (N := N) a4 c N 0 _ (by omega) (by omega) e16
    have e18' : mI σ2 65 18 = nI cs.length := by rw [b4.I 65 18 (by decide) (by simp), sI_n _ _ (by omega)]; exact e18
    obtain ⟨σ3, d1, d2, -, d4⟩ := mo_l138 (N := N) hl cs.length N 0 σ2 (by omega) (by omega) e18'
    refine ⟨σ3, ?_, ?_, ?_⟩
    · rw [hg, a1]
      simp only [bnd1_n, q2_n]
      rw [letv_n, if_neg ne10, letv_n]
      have b1 : L_Mo_law_l110 N N 0 (sI (sI σ1 65 11 0) 65 20 (mI (sI σ1 65 11 0) 65 18)) = some σ2 := b1
      rw [b1]
      simp only [bnd1_n]
      exact d1
    · rw [d4.I 65 11 (by decide) (by simp), b4.I 65 11 (by decide) (by simp), sI_n _ _ (by omega), sI_s]
    · have r : ∀ k, k ≠ 65 → k ≠ 79 → k ≠ 80 → k ≠ 81 → k ≠ 82 → k ≠ 83 → mI σ3 k = mI σ1 k := fun k h0 h1 h2 h3 h4 h5 => by
        rw [d4.rowI k (by simp [h2, h3, h4, h5]) (by simp), b4.rowI k (by simp [h1]) (by simp), mI_sIn _ _ _ h0, mI_sIn _ _ _ h0]
      have w2 : ∀ k j, k ≠ 65 → k ≠ 79 → mI σ2 k j = mI σ1 k j := fun k j h0 h1 => by rw [b4.I k j (by simp [h1]) (by simp), mI_sIn _ _ _ h0, mI_sIn _ _ _ h0]
      have c79 : ∀ j, j < c → mI σ3 79 j = mI σ1 73 j := fun j hj => by rw [d4.I 79 j (by decide) (by simp), b2 j (by omega) hj, mI_sIn _ _ _ (by decide), mI_sIn _ _ _ (by decide)]
      refine ⟨?_, fun q hq => ?_, fun σ' hk q hq F hF => ?_⟩
      · rw [d4.I 65 20 (by decide) (by simp), b4.I 65 20 (by decide) (by simp), sI_s]; exact e18
      · rw [(d2 q (by omega) hq).1, w2 75 q (by decide) (by decide)]
        exact (a5.at q hq).1
      · obtain ⟨-, s, e, e2, g1, g2, g3, g4, g5, g6, g7, g8⟩ := a5.at q hq
        obtain ⟨-, i2, i3, i4⟩ := d2 q (by omega) hq
        rw [i2, i3, i4, w2 76 q (by decide) (by decide), w2 77 q (by decide) (by decide), w2 78 q (by decide) (by decide), g1, g2, g3]
        have k79 : ∀ j, j < c → mI σ' 79 j = mI σ1 73 j := fun j hj => by rw [hk.r 79 (by decide)]; exact c79 j hj
        exact ⟨mo_run_sem hN g7 (fun j _ hj => k79 j (by omega)) g5 (by omega) (by decide) hF, fun hl => mo_run_sem hN (g8 hl) (fun j _ hj => k79 j (by omega)) g4 (by omega) (by decide) hF⟩
theorem st_law {N : Nat} (hN : 70000 ≤ N) : St_law N := by
  intro σ a1 hI
  have hI' := hI
  obtain ⟨k0, k1, ⟨u, u0, u1, u2, u3⟩, k3, k4, k5, k6⟩ := hI
  by_cases c1 : a1 < 1
  · refine ⟨-1, σ, σ, ?_, ?_, hI'⟩
    · unfold f_Sh_law; rw [if_pos c1]
    · unfold f_Mo_law; rw [mo_in, if_pos c1]; simp only [bnd1_n, if_true]
  by_cases c2 : (240 : Int32) < a1
  · refine ⟨-1, σ, σ, ?_, ?_, hI'⟩
    · unfold f_Sh_law; rw [if_neg c1, if_pos c2]
    · unfold f_Mo_law; rw [mo_in, if_neg c1, if_pos c2]; simp only [bnd1_n, if_true]
  have hin : f_Mo_in a1 1 240 = some 1 := by rw [mo_in, if_neg c1, if_neg c2]
  obtain ⟨n, n1, n2, rfl⟩ : ∃ n : Nat, 1 ≤ n ∧ n ≤ 240 ∧ a1 = nI n := by
    rcases in1_cases a1 1 240 (by decide) (by decide) with q | ⟨-, n, n1, n2, n3⟩
    · have q : f_Mo_in a1 1 240 = some 0 := q
      rw [hin] at q
      injection q with q
      exact absurd q ne10
    · exact ⟨n, n1, n2, n3⟩
  rcases Nat.lt_or_ge u n with z | z
  · have c3 : ¬ nI n ≤ nI u := nI_ge z (by omega)
    refine ⟨-1, σ, σ, ?_, ?_, hI'⟩
    · unfold f_Sh_law f_Ta_length
      rw [if_neg c1, if_neg c2, u1]
      simp only [bnd1_n]
      rw [if_neg c3]
    · unfold f_Mo_law
      rw [hin]
      simp only [bnd1_n, if_neg ne10]
      rw [u2, if_neg c3]
  · have hT : TX n (fun j => if j < n then mI σ 2 j else -1) := by
      refine ⟨n2, fun j hj => ?_, fun j hj => if_neg (by omega)⟩
      obtain ⟨b, b1, b2, b3⟩ := u3 j (by omega)
      exact ⟨b, b1, (if_pos hj).trans b2⟩
    obtain ⟨o, q1, q2⟩ := sh_law (N := N) (σ := σ) (by omega) hT (sim_clo (N := N) (by omega) hT) (rsim_clo (N := N) (by omega) hT) n1 z u0 u1 (fun j hj => (if_pos hj).symm)
    match o, q1, q2 with
    | .inl (k, q), q1, q2 =>
      obtain ⟨σ1, a1, a2, F1⟩ := q2
      obtain ⟨σ2, d1, d2, F2⟩ := mo_law (by omega) hT q1 n1 z u0 (σ := σ1) (by rw [F1.I 65 11 (by decide) (by decide)]; exact u2) (fun j hj => by
        rw [F1.I 72 j (by decide) (by simp)]
        obtain ⟨b, b1, b2, b3⟩ := u3 j (by omega)
        exact b3.trans (b2.symm.trans (if_pos hj).symm))
      have F : Fr [11, 12, 13, 14, 18, 73, 74, 75, 76, 77, 78] [(1, 1), (10, 1), (10, 5), (17, 3), (17, 4), (17, 5), (65, 11), (65, 12), (65, 13), (65, 14), (65, 15), (65, 16), (65, 17), (65, 18), (65, 19)] σ σ2 := (F1.mono (by decide) (by decide)).t (F2.mono (by decide) (by decide))
      refine ⟨_, σ1, σ2, a1, d1, k0.k (F.keeps (by decide)), k1.k (F.keeps (by decide)), ⟨0, by omega, ?_, d2, fun j hj => absurd hj (Nat.not_lt_zero j)⟩, k3.k (F.keeps (by decide)), k4.k (F.keeps (by decide)), k5.k (F.keeps (by decide)), k6.k (F.keeps (by decide))⟩
      rw [F2.I 1 1 (by decide) (by decide)]
      exact a2
    | .inr cs, q1, q2 =>
      obtain ⟨σ1, a1, a2, a3, a4, a5, a6⟩ := q2
      have F1 := fm_Sh_law a1
      obtain ⟨σ2, d1, d2, d3⟩ := mo_law (by omega) hT q1 n1 z u0 (σ := σ1) (by rw [F1.I 65 11 (by decide) (by decide)]; exact u2) (fun j hj => by
        rw [F1.I 72 j (by decide) (by simp)]
        obtain ⟨b, b1, b2, b3⟩ := u3 j (by omega)
        exact b3.trans (b2.symm.trans (if_pos hj).symm)) a5.1
      have F2 := fm_Mo_law d1
      have F : Fr [4, 5, 6, 7, 11, 12, 13, 14, 18, 73, 74, 75, 76, 77, 78, 79, 80, 81, 82, 83] [(1, 1), (3, 1), (3, 5), (10, 1), (10, 5), (17, 3), (17, 4), (17, 5), (33, 6), (33, 9), (65, 11), (65, 12), (65, 13), (65, 14), (65, 15), (65, 16), (65, 17), (65, 18), (65, 19), (65, 20)] σ σ2 := (F1.mono (by decide) (by decide)).t (F2.mono (by decide) (by decide))
      refine ⟨_, σ1, σ2, a1, d1, k0.k (F.keeps (by decide)), k1.k (F.keeps (by decide)), ⟨0, by omega, ?_, d2, fun j hj => absurd hj (Nat.not_lt_zero j)⟩, k3.k (F.keeps (by decide)), k4.k (F.keeps (by decide)), k5.k (F.keeps (by decide)), ⟨cs.length, ltO cs, hsO cs, vsO cs, a5, a6.k (F2.keeps (by decide)), d3, IDay.off ?_ ?_⟩⟩
      · rw [F2.I 1 1 (by decide) (by decide)]
        exact a2
      · rw [F2.I 33 6 (by decide) (by decide)]
        exact a3
      · rw [F2.I 33 9 (by decide) (by decide)]
        exact a4
