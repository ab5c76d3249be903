set_option maxHeartbeats 4000000 in
theorem fmL_Mo_noon_l72 {N : Nat} {a1 : Int32} {a2 : Int32} {a3 : Int32} : ∀ (k : Nat) (x4 : Int32) (σ : Mem) (res : Mem), L_Mo_noon_l72 N a1 a2 a3 k x4 σ = some res → Fr [84, 85, 86, 87, 88, 108] [(65, 37)] σ (res) := by
  intro k
  induction k with
  | zero => intro x4 σ res h; cases h
  | succ k ih =>
    intro x4 σ res h
    have F := Fr.rf [84, 85, 86, 87, 88, 108] [(65, 37)] σ
    replace h : B_Mo_noon_l72 N a1 a2 a3 (L_Mo_noon_l72 N a1 a2 a3 k) x4 σ = some res := h
    unfold B_Mo_noon_l72 at h
    rcases ite_or h with h | h
    · cases h
      exact F
    · replace h := (grd_e h).2
      obtain ⟨σ86, e_σ86, h⟩ := letv_e h
      have F := F.aI e_σ86 (by decide)
      obtain ⟨v87, -, h⟩ := letv_e h
      exact F.t (ih _ _ _ h)
set_option maxHeartbeats 4000000 in
theorem fmL_Mo_noon_l108 {N : Nat} {a1 : Int32} {a2 : Int32} {a3 : Int32} {a4 : Int32} : ∀ (k : Nat) (x5 : Int32) (x6 : Int32) (σ : Mem) (res : (Int32 × Mem) ⊕ (Int32 × Mem)), L_Mo_noon_l108 N a1 a2 a3 a4 k x5 x6 σ = some res → Fr [84, 85, 86, 87, 88, 108] [(65, 37)] σ (sm res (fun r => r.2) (fun e => e.2)) := by
  intro k
  induction k with
  | zero => intro x5 x6 σ res h; cases h
  | succ k ih =>
    intro x5 x6 σ res h
    have F := Fr.rf [84, 85, 86, 87, 88, 108] [(65, 37)] σ
    replace h : B_Mo_noon_l108 N a1 a2 a3 a4 (L_Mo_noon_l108 N a1 a2 a3 a4 k) x5 x6 σ = some res := h
    unfold B_Mo_noon_l108 at h
    rcases ite_or h with h | h
    · cases h
      exact F
    · obtain ⟨r117, h1, h⟩ := bnd1_e h
      rcases ite_or h with h | h
      · cases h
        exact F
      · obtain ⟨v138, e_v138, h⟩ := letv_e h
        obtain ⟨v140, -, h⟩ := letv_e h
        exact F.t (ih _ _ _ _ h)
set_option maxHeartbeats 4000000 in
theorem fmL_Mo_noon_l149 {N : Nat} {a1 : Int32} {a2 : Int32} {a3 : Int32} {a4 : Int32} {a5 : Int32} : ∀ (k : Nat) (x6 : Int32) (σ : Mem) (res : Mem), L_Mo_noon_l149 N a1 a2 a3 a4 a5 k x6 σ = some res → Fr [84, 85, 86, 87, 88, 108] [(65, 37)] σ (res) := by
  intro k
  induction k with
  | zero => intro x6 σ res h; cases h
  | succ k ih =>
    intro x6 σ res h
    have F := Fr.rf [84, 85, 86, 87, 88, 108] [(65, 37)] σ
    replace h : B_Mo_noon_l149 N a1 a2 a3 a4 a5 (L_Mo_noon_l149 N a1 a2 a3 a4 a5 k) x6 σ = some res := h
    unfold B_Mo_noon_l149 at h
    rcases ite_or h with h | h
    · cases h
      exact F
    · replace h := (grd_e h).2
      replace h := (grd_e h).2
      obtain ⟨σ177, e_σ177, h⟩ := letv_e h
      have F := F.aI e_σ177 (by decide)
      obtain ⟨v178, -, h⟩ := letv_e h
      exact F.t (ih _ _ _ h)
set_option maxHeartbeats 4000000 in
theorem fmL_Mo_noon_l96 {N : Nat} {a1 : Int32} {a2 : Int32} {a3 : Int32} : ∀ (k : Nat) (x4 : Int32) (σ : Mem) (res : Int32 × Mem), L_Mo_noon_l96 N a1 a2 a3 k x4 σ = some res → Fr [84, 85, 86, 87, 88, 108] [(65, 37)] σ (res.2) := by
  intro k
  induction k with
  | zero => intro x4 σ res h; cases h
  | succ k ih =>
    intro x4 σ res h
    have F := Fr.rf [84, 85, 86, 87, 88, 108] [(65, 37)] σ
    replace h : B_Mo_noon_l96 N a1 a2 a3 (L_Mo_noon_l96 N a1 a2 a3 k) x4 σ = some res := h
    unfold B_Mo_noon_l96 at h
    rcases ite_or h with h | h
    · replace h := (grd_e h).2
      cases h
      exact F
    · obtain ⟨x108_, h1, h⟩ := bnd1_e h
      have F := F.t (fmL_Mo_noon_l108 _ _ _ _ _ h1)
      rcases x108_ with r108_ | e108
      · replace h := sm_l h
        cases h
        exact F
      · replace h := sm_r h
        obtain ⟨z108_5, σ108_⟩ := e108
        replace h := q2_e h
        have F : Fr [84, 85, 86, 87, 88, 108] [(65, 37)] σ σ108_ := F
        obtain ⟨σ149_, h1, h⟩ := bnd1_e h
        have F := F.t (fmL_Mo_noon_l149 _ _ _ _ h1)
        have F : Fr [84, 85, 86, 87, 88, 108] [(65, 37)] σ σ149_ := F
        obtain ⟨v184, -, h⟩ := letv_e h
        exact F.t (ih _ _ _ h)
set_option maxHeartbeats 4000000 in
theorem fm_Mo_noon {N : Nat} {σ : Mem} {a1 : Int32} {a2 : Int32} {r : Int32} {σ' : Mem} (h : f_Mo_noon N σ a1 a2 = some (r, σ')) : Fr [84, 85, 86, 87, 88, 108] [(65, 37)] σ σ' := by
  have F := Fr.rf [84, 85, 86, 87, 88, 108] [(65, 37)] σ
  unfold f_Mo_noon at h
  obtain ⟨r4, h1, h⟩ := bnd1_e h
  rcases ite_or h with h | h
  · cases h
    exact F
  · obtain ⟨r12, h1, h⟩ := bnd1_e h
    rcases ite_or h with h | h
    · cases h
      exact F
    · obtain ⟨σ21, h1, h⟩ := bnd1_e h
      have F := F.c (fm_Mo_laysDay h1) (by decide) (by decide)
      obtain ⟨z29_3, h1, h⟩ := bnd1_e h
      obtain ⟨r65, h1, h⟩ := bnd1_e h
      obtain ⟨σ72_, h1, h⟩ := bnd1_e h
      have F := F.t (fmL_Mo_noon_l72 _ _ _ _ h1)
      have F : Fr [84, 85, 86, 87, 88, 108] [(65, 37)] σ σ72_ := F
      exact F.t (fmL_Mo_noon_l96 _ _ _ _ h)
set_option maxHeartbeats 4000000 in
theorem fmL_Mo_year_l4 {N : Nat} {a1 : Int32} : ∀ (k : Nat) (x2 : Int32) (σ : Mem) (res : Mem), L_Mo_year_l4 N a1 k x2 σ = some res → Fr [68, 84, 85, 109] [] σ (res) := by
  intro k
  induction k with
  | zero => intro x2 σ res h; cases h
  | succ k ih =>
    intro x2 σ res h
    have F := Fr.rf [68, 84, 85, 109] [] σ
    replace h : B_Mo_year_l4 N a1 (L_Mo_year_l4 N a1 k) x2 σ = some res := h
    unfold B_Mo_year_l4 at h
    rcases ite_or h with h | h
    · cases h
      exact F
    · replace h := (grd_e h).2
      obtain ⟨σ18, e_σ18, h⟩ := letv_e h
      have F := F.aI e_σ18 (by decide)
      obtain ⟨r24, h1, h⟩ := bnd1_e h
      obtain ⟨s27, h1, h⟩ := bnd1_e h
      have J27_101 : ∀ (σ27_ : Mem), s27 = σ27_ → Fr [68, 84, 85, 109] [] σ σ27_ → Fr [68, 84, 85, 109] [] σ (res) := by
        intro σ27_ he F
        rw [he] at h
        obtain ⟨v101, -, h⟩ := letv_e h
        exact F.t (ih _ _ _ h)
      replace h := h1
      rcases ite_or h with h | h
      · exact J27_101 _ (Option.some.inj h).symm F
      · replace h := (grd_e h).2
        rcases ite_or h with h | h
        · obtain ⟨σ45, h1, h⟩ := bnd1_e h
          have F := F.c (fm_Mo_feels h1) (by decide) (by decide)
          replace h := (grd_e h).2
          obtain ⟨σ60, e_σ60, h⟩ := letv_e h
          have F := F.aI e_σ60 (by decide)
          replace h := (grd_e h).2
          obtain ⟨σ73, e_σ73, h⟩ := letv_e h
          have F := F.aI e_σ73 (by decide)
          replace h := (grd_e h).2
          obtain ⟨r94, σ94, h1, h⟩ := bnd2_e h
          have F := F.c (fm_Mo_byLaw h1) (by decide) (by decide)
          obtain ⟨r97, h1, h⟩ := bnd1_e h
          replace h := (grd_e h).2
          obtain ⟨σ100, e_σ100, h⟩ := letv_e h
          have F := F.aI e_σ100 (by decide)
          exact J27_101 _ (Option.some.inj h).symm F
        · exact J27_101 _ (Option.some.inj h).symm F
set_option maxHeartbeats 4000000 in
theorem fmL_Mo_year_l109 {N : Nat} : ∀ (k : Nat) (x1 : Int32) (x2 : Int32) (σ : Mem) (res : Int32 × Mem), L_Mo_year_l109 N k x1 x2 σ = some res → Fr [68, 84, 85, 109] [] σ (res.2) := by
  intro k
  induction k with
  | zero => intro x1 x2 σ res h; cases h
  | succ k ih =>
    intro x1 x2 σ res h
    have F := Fr.rf [68, 84, 85, 109] [] σ
    replace h : B_Mo_year_l109 N (L_Mo_year_l109 N k) x1 x2 σ = some res := h
    unfold B_Mo_year_l109 at h
    rcases ite_or h with h | h
    · cases h
      exact F
    · replace h := (grd_e h).2
      replace h := (grd_e h).2
      replace h := (grd_e h).2
      obtain ⟨σ135, e_σ135, h⟩ := letv_e h
      have F := F.aI e_σ135 (by decide)
      replace h := (grd_e h).2
      obtain ⟨v144, e_v144, h⟩ := letv_e h
      obtain ⟨v145, -, h⟩ := letv_e h
      exact F.t (ih _ _ _ _ h)
set_option maxHeartbeats 4000000 in
theorem fm_Mo_year {N : Nat} {σ : Mem} {r : Int32} {σ' : Mem} (h : f_Mo_year N σ = some (r, σ')) : Fr [68, 84, 85, 109] [] σ σ' := by
  have F := Fr.rf [68, 84, 85, 109] [] σ
  unfold f_Mo_year at h
  obtain ⟨σ4_, h1, h⟩ := bnd1_e h
  have F := F.t (fmL_Mo_year_l4 _ _ _ _ h1)
  have F : Fr [68, 84, 85, 109] [] σ σ4_ := F
  exact F.t (fmL_Mo_year_l109 _ _ _ _ _ h)
set_option maxHeartbeats 4000000 in
theorem fmL_Mo_years_l16 {N : Nat} {a1 : Int32} : ∀ (k : Nat) (x2 : Int32) (x3 : Int32) (σ : Mem) (res : Int32 × Mem), L_Mo_years_l16 N a1 k x2 x3 σ = some res → Fr [68, 84, 85, 109] [] σ (res.2) := by
  intro k
  induction k with
  | zero => intro x2 x3 σ res h; cases h
  | succ k ih =>
    intro x2 x3 σ res h
    have F := Fr.rf [68, 84, 85, 109] [] σ
    replace h : B_Mo_years_l16 N a1 (L_Mo_years_l16 N a1 k) x2 x3 σ = some res := h
    unfold B_Mo_years_l16 at h
    rcases ite_or h with h | h
    · cases h
      exact F
    · obtain ⟨r23, σ23, h1, h⟩ := bnd2_e h
      have F := F.c (fm_Mo_year h1) (by decide) (by decide)
      obtain ⟨v27, e_v27, h⟩ := letv_e h
      obtain ⟨v28, -, h⟩ := letv_e h
      exact F.t (ih _ _ _ _ h)
set_option maxHeartbeats 4000000 in
theorem fm_Mo_years {N : Nat} {σ : Mem} {a1 : Int32} {r : Int32} {σ' : Mem} (h : f_Mo_years N σ a1 = some (r, σ')) : Fr [68, 84, 85, 109] [] σ σ' := by
  have F := Fr.rf [68, 84, 85, 109] [] σ
  unfold f_Mo_years at h
  obtain ⟨r4, h1, h⟩ := bnd1_e h
  rcases ite_or h with h | h
  · cases h
    exact F
  · exact F.t (fmL_Mo_years_l16 _ _ _ _ _ h)
set_option maxHeartbeats 4000000 in
theorem fmL_Mo_pays_l29 {N : Nat} {a3 : Int32} {a4 : Int32} : ∀ (k : Nat) (x5 : Int32) (σ : Mem) (res : Int32 × Mem), L_Mo_pays_l29 N a3 a4 k x5 σ = some res → Fr [71, 84, 85] [] σ (res.2) := by
  intro k
  induction k with
  | zero => intro x5 σ res h; cases h
  | succ k ih =>
    intro x5 σ res h
    have F := Fr.rf [71, 84, 85] [] σ
    replace h : B_Mo_pays_l29 N a3 a4 (L_Mo_pays_l29 N a3 a4 k) x5 σ = some res := h
    unfold B_Mo_pays_l29 at h
    rcases ite_or h with h | h
    · obtain ⟨r83, h1, h⟩ := bnd1_e h
      cases h
      exact F
    · obtain ⟨r41, h1, h⟩ := bnd1_e h
      obtain ⟨s44, h1, h⟩ := bnd1_e h
      have J44_74 : ∀ (σ44_ : Mem), s44 = σ44_ → Fr [71, 84, 85] [] σ σ44_ → Fr [71, 84, 85] [] σ (res.2) := by
        intro σ44_ he F
        rw [he] at h
        obtain ⟨v74, -, h⟩ := letv_e h
        exact F.t (ih _ _ _ h)
      replace h := h1
      rcases ite_or h with h | h
      · exact J44_74 _ (Option.some.inj h).symm F
      · replace h := (grd_e h).2
        replace h := (grd_e h).2
        replace h := (grd_e h).2
        replace h := (grd_e h).2
        obtain ⟨σ73, e_σ73, h⟩ := letv_e h
        have F := F.aI e_σ73 (by decide)
        exact J44_74 _ (Option.some.inj h).symm F
set_option maxHeartbeats 4000000 in
theorem fm_Mo_pays {N : Nat} {σ : Mem} {a1 : Int32} {a2 : Int32} {r : Int32} {σ' : Mem} (h : f_Mo_pays N σ a1 a2 = some (r, σ')) : Fr [71, 84, 85] [] σ σ' := by
  have F := Fr.rf [71, 84, 85] [] σ
  unfold f_Mo_pays at h
  obtain ⟨r3, h1, h⟩ := bnd1_e h
  rcases ite_or h with h | h
  · cases h
    exact F
  · obtain ⟨r16, σ16, h1, h⟩ := bnd2_e h
    have F := F.c (fm_Mo_priceOf h1) (by decide) (by decide)
    obtain ⟨r20, h1, h⟩ := bnd1_e h
    replace h := (grd_e h).2
    obtain ⟨v24, e_v24, h⟩ := letv_e h
    exact F.t (fmL_Mo_pays_l29 _ _ _ _ h)
set_option maxHeartbeats 4000000 in
theorem fmL_Mo_dayPays_l59 {N : Nat} {a2 : Int32} : ∀ (k : Nat) (x1 : Int32) (x3 : Int32) (σ : Mem) (res : Int32 × Mem), L_Mo_dayPays_l59 N a2 k x1 x3 σ = some res → Fr [71, 84, 85] [(65, 3)] σ (res.2) := by
  intro k
  induction k with
  | zero => intro x1 x3 σ res h; cases h
  | succ k ih =>
    intro x1 x3 σ res h
    have F := Fr.rf [71, 84, 85] [(65, 3)] σ
    replace h : B_Mo_dayPays_l59 N a2 (L_Mo_dayPays_l59 N a2 k) x1 x3 σ = some res := h
    unfold B_Mo_dayPays_l59 at h
    rcases ite_or h with h | h
    · cases h
      exact F
    · obtain ⟨r70, σ70, h1, h⟩ := bnd2_e h
      have F := F.c (fm_Mo_pays h1) (by decide) (by decide)
      obtain ⟨v74, e_v74, h⟩ := letv_e h
      obtain ⟨v75, -, h⟩ := letv_e h
      exact F.t (ih _ _ _ _ h)
set_option maxHeartbeats 4000000 in
theorem fmL_Mo_dayPays_l4 {N : Nat} : ∀ (k : Nat) (x1 : Int32) (x2 : Int32) (σ : Mem) (res : Int32 × Mem), L_Mo_dayPays_l4 N k x1 x2 σ = some res → Fr [71, 84, 85] [(65, 3)] σ (res.2) := by
  intro k
  induction k with
  | zero => intro x1 x2 σ res h; cases h
  | succ k ih =>
    intro x1 x2 σ res h
    have F := Fr.rf [71, 84, 85] [(65, 3)] σ
    replace h : B_Mo_dayPays_l4 N (L_Mo_dayPays_l4 N k) x1 x2 σ = some res := h
    unfold B_Mo_dayPays_l4 at h
    rcases ite_or h with h | h
    · cases h
      exact F
    · obtain ⟨σ27, e_σ27, h⟩ := letv_e h
      have F := F.fI e_σ27 (by decide)
      replace h := (grd_e h).2
      obtain ⟨s36, h1, h⟩ := bnd1_e h
      have J36_81 : ∀ (y36_1 : Int32) (σ36_ : Mem), s36 = (y36_1, σ36_) → Fr [71, 84, 85] [(65, 3)] σ σ36_ → Fr [71, 84, 85] [(65, 3)] σ (res.2) := by
        intro y36_1 σ36_ he F
        rw [he] at h
        replace h := q2_e h
        obtain ⟨v81, -, h⟩ := letv_e h
        exact F.t (ih _ _ _ _ h)
      replace h := h1
      rcases ite_or h with h | h
      · exact J36_81 _ _ (Option.some.inj h).symm F
      · obtain ⟨r48, σ48, h1, h⟩ := bnd2_e h
        have F := F.c (fm_Mo_cloudsIn h1) (by decide) (by decide)
        rcases ite_or h with h | h
        · obtain ⟨x59_, h1, h⟩ := bnd1_e h
          have F := F.t (fmL_Mo_dayPays_l59 _ _ _ _ _ h1)
          obtain ⟨z59_1, σ59_⟩ := x59_
          replace h := q2_e h
          have F : Fr [71, 84, 85] [(65, 3)] σ σ59_ := F
          exact J36_81 _ _ (Option.some.inj h).symm F
        · exact J36_81 _ _ (Option.some.inj h).symm F
set_option maxHeartbeats 4000000 in
theorem fm_Mo_dayPays {N : Nat} {σ : Mem} {r : Int32} {σ' : Mem} (h : f_Mo_dayPays N σ = some (r, σ')) : Fr [71, 84, 85] [(65, 3)] σ σ' := by
  have F := Fr.rf [71, 84, 85] [(65, 3)] σ
  unfold f_Mo_dayPays at h
  exact F.t (fmL_Mo_dayPays_l4 _ _ _ _ _ h)
set_option maxHeartbeats 4000000 in
theorem fmL_Mo_days_l20 {N : Nat} {a1 : Int32} : ∀ (k : Nat) (x2 : Int32) (x3 : Int32) (σ : Mem) (res : Int32 × Mem), L_Mo_days_l20 N a1 k x2 x3 σ = some res → Fr [71, 84, 85, 86, 87, 88] [(65, 3), (65, 37)] σ (res.2) := by
  intro k
  induction k with
  | zero => intro x2 x3 σ res h; cases h
  | succ k ih =>
    intro x2 x3 σ res h
    have F := Fr.rf [71, 84, 85, 86, 87, 88] [(65, 3), (65, 37)] σ
    replace h : B_Mo_days_l20 N a1 (L_Mo_days_l20 N a1 k) x2 x3 σ = some res := h
    unfold B_Mo_days_l20 at h
    rcases ite_or h with h | h
    · cases h
      exact F
    · obtain ⟨r27, σ27, h1, h⟩ := bnd2_e h
      have F := F.c (fm_Mo_dayPays h1) (by decide) (by decide)
      obtain ⟨v31, e_v31, h⟩ := letv_e h
      obtain ⟨v32, -, h⟩ := letv_e h
      exact F.t (ih _ _ _ _ h)
set_option maxHeartbeats 4000000 in
theorem fm_Mo_days {N : Nat} {σ : Mem} {a1 : Int32} {r : Int32} {σ' : Mem} (h : f_Mo_days N σ a1 = some (r, σ')) : Fr [71, 84, 85, 86, 87, 88] [(65, 3), (65, 37)] σ σ' := by
  have F := Fr.rf [71, 84, 85, 86, 87, 88] [(65, 3), (65, 37)] σ
  unfold f_Mo_days at h
  obtain ⟨r4, h1, h⟩ := bnd1_e h
  rcases ite_or h with h | h
  · cases h
    exact F
  · obtain ⟨σ13, h1, h⟩ := bnd1_e h
    have F := F.c (fm_Mo_laysDay h1) (by decide) (by decide)
    exact F.t (fmL_Mo_days_l20 _ _ _ _ _ h)
set_option maxHeartbeats 4000000 in
theorem fmL_Mo_odds_l49 {N : Nat} {a2 : Int32} {a3 : Int32} : ∀ (k : Nat) (x4 : Int64) (x6 : Int64) (x8 : Int32) (σ : Mem) (res : Int64 × Int64 × Mem), L_Mo_odds_l49 N a2 a3 k x4 x6 x8 σ = some res → Fr [84, 85] [] σ (res.2.2) := by
  intro k
  induction k with
  | zero => intro x4 x6 x8 σ res h; cases h
  | succ k ih =>
    intro x4 x6 x8 σ res h
    have F := Fr.rf [84, 85] [] σ
    replace h : B_Mo_odds_l49 N a2 a3 (L_Mo_odds_l49 N a2 a3 k) x4 x6 x8 σ = some res := h
    unfold B_Mo_odds_l49 at h
    rcases ite_or h with h | h
    · cases h
      exact F
    · obtain ⟨r58, σ58, h1, h⟩ := bnd2_e h
      have F := F.c (fm_Mo_isUp h1) (by decide) (by decide)
      obtain ⟨s61, h1, h⟩ := bnd1_e h
      have J61_90 : ∀ (y61_4 : Int64) (y61_6 : Int64) (σ61_ : Mem), s61 = (y61_4, y61_6, σ61_) → Fr [84, 85] [] σ σ61_ → Fr [84, 85] [] σ (res.2.2) := by
        intro y61_4 y61_6 σ61_ he F
        rw [he] at h
        replace h := q3_e h
        obtain ⟨v90, -, h⟩ := letv_e h
        exact F.t (ih _ _ _ _ _ h)
      replace h := h1
      rcases ite_or h with h | h
      · exact J61_90 _ _ _ (Option.some.inj h).symm F
      · obtain ⟨r74, σ74, h1, h⟩ := bnd2_e h
        have F := F.c (fm_Mo_cloudsIn h1) (by decide) (by decide)
        obtain ⟨v80, e_v80, h⟩ := letv_e h
        obtain ⟨v88, e_v88, h⟩ := letv_e h
        exact J61_90 _ _ _ (Option.some.inj h).symm F
set_option maxHeartbeats 4000000 in
theorem fm_Mo_odds {N : Nat} {σ : Mem} {a1 : Int32} {a2 : Int32} {a3 : Int32} {r : Int64} {σ' : Mem} (h : f_Mo_odds N σ a1 a2 a3 = some (r, σ')) : Fr [84, 85] [] σ σ' := by
  have F := Fr.rf [84, 85] [] σ
  unfold f_Mo_odds at h
  obtain ⟨r1, h1, h⟩ := bnd1_e h
  rcases ite_or h with h | h
  · cases h
    exact F
  · obtain ⟨r13, h1, h⟩ := bnd1_e h
    rcases ite_or h with h | h
    · cases h
      exact F
    · rcases ite_or h with h | h
      · cases h
        exact F
      · obtain ⟨r30, h1, h⟩ := bnd1_e h
        rcases ite_or h with h | h
        · cases h
          exact F
        · obtain ⟨x49_, h1, h⟩ := bnd1_e h
          have F := F.t (fmL_Mo_odds_l49 _ _ _ _ _ _ h1)
          obtain ⟨z49_4, z49_6, σ49_⟩ := x49_
          replace h := q3_e h
          have F : Fr [84, 85] [] σ σ49_ := F
          obtain ⟨r100, h1, h⟩ := bnd1_e h
          rcases ite_or h with h | h
          · replace h := (grd_e h).2
            cases h
            exact F
          · replace h := (grd_e h).2
            cases h
            exact F
set_option maxHeartbeats 4000000 in
theorem fm_Mo_seed {σ : Mem} {a1 : Int32} {r : Int32} {σ' : Mem} (h : f_Mo_seed σ a1 = some (r, σ')) : Fr [] [(65, 3)] σ σ' := by
  have F := Fr.rf [] [(65, 3)] σ
  unfold f_Mo_seed at h
  obtain ⟨r5, h1, h⟩ := bnd1_e h
  rcases ite_or h with h | h
  · cases h
    exact F
  · obtain ⟨σ15, e_σ15, h⟩ := letv_e h
    have F := F.fI e_σ15 (by decide)
    cases h
    exact F
set_option maxHeartbeats 4000000 in
theorem fmL_Mo_copies_l2 {N : Nat} {g0 n0 : Nat} {g1 n1 : Nat} {a2 : Int32} : ∀ (k : Nat) (x3 : Int32) (σ : Mem) (res : Mem), L_Mo_copies_l2 N g0 n0 g1 n1 a2 k x3 σ = some res → Fr [g1] [] σ (res) := by
  intro k
  induction k with
  | zero => intro x3 σ res h; cases h
  | succ k ih =>
    intro x3 σ res h
    have F := Fr.rf [g1] [] σ
    replace h : B_Mo_copies_l2 N g0 n0 g1 n1 a2 (L_Mo_copies_l2 N g0 n0 g1 n1 a2 k) x3 σ = some res := h
    unfold B_Mo_copies_l2 at h
    rcases ite_or h with h | h
    · cases h
      exact F
    · replace h := (grd_e h).2
      replace h := (grd_e h).2
      obtain ⟨σ12, e_σ12, h⟩ := letv_e h
      have F := F.aI e_σ12 List.mem_cons_self
      obtain ⟨v13, -, h⟩ := letv_e h
      exact F.t (ih _ _ _ h)
set_option maxHeartbeats 4000000 in
theorem fm_Mo_copies {N : Nat} {σ : Mem} {g0 : Nat} {n0 : Nat} {g1 : Nat} {n1 : Nat} {a2 : Int32} {σ' : Mem} (h : f_Mo_copies N σ g0 n0 g1 n1 a2 = some σ') : Fr [g1] [] σ σ' := by
  have F := Fr.rf [g1] [] σ
  unfold f_Mo_copies at h
  exact F.t (fmL_Mo_copies_l2 _ _ _ _ h)
set_option maxHeartbeats 4000000 in
theorem fm_Mo_keep {N : Nat} {σ : Mem} {r : Int32} {σ' : Mem} (h : f_Mo_keep N σ = some (r, σ')) : Fr [110, 111, 112, 113, 114, 115] [(65, 68), (65, 69), (65, 70), (65, 71), (65, 72)] σ σ' := by
  have F := Fr.rf [110, 111, 112, 113, 114, 115] [(65, 68), (65, 69), (65, 70), (65, 71), (65, 72)] σ
  unfold f_Mo_keep at h
  obtain ⟨σ2, e_σ2, h⟩ := letv_e h
  have F := F.fI e_σ2 (by decide)
  obtain ⟨σ10, e_σ10, h⟩ := letv_e h
  have F := F.fI e_σ10 (by decide)
  obtain ⟨σ18, e_σ18, h⟩ := letv_e h
  have F := F.fI e_σ18 (by decide)
  obtain ⟨σ26, e_σ26, h⟩ := letv_e h
  have F := F.fI e_σ26 (by decide)
  obtain ⟨σ34, e_σ34, h⟩ := letv_e h
  have F := F.fI e_σ34 (by decide)
  obtain ⟨σ47, h1, h⟩ := bnd1_e h
  have F := F.c (fm_Mo_copies h1) (by decide) (by decide)
  obtain ⟨σ60, h1, h⟩ := bnd1_e h
  have F := F.c (fm_Mo_copies h1) (by decide) (by decide)
  obtain ⟨σ73, h1, h⟩ := bnd1_e h
  have F := F.c (fm_Mo_copies h1) (by decide) (by decide)
  obtain ⟨σ86, h1, h⟩ := bnd1_e h
  have F := F.c (fm_Mo_copies h1) (by decide) (by decide)
  obtain ⟨σ99, h1, h⟩ := bnd1_e h
  have F := F.c (fm_Mo_copies h1) (by decide) (by decide)
  obtain ⟨σ112, h1, h⟩ := bnd1_e h
  have F := F.c (fm_Mo_copies h1) (by decide) (by decide)
  obtain ⟨r119, h1, h⟩ := bnd1_e h
  cases h
  exact F
set_option maxHeartbeats 4000000 in
theorem fm_Mo_undo {N : Nat} {σ : Mem} {r : Int32} {σ' : Mem} (h : f_Mo_undo N σ = some (r, σ')) : Fr [66, 67, 68, 69, 70, 71] [(65, 0), (65, 1), (65, 2), (65, 3)] σ σ' := by
  have F := Fr.rf [66, 67, 68, 69, 70, 71] [(65, 0), (65, 1), (65, 2), (65, 3)] σ
  unfold f_Mo_undo at h
  rcases ite_or h with h | h
  · cases h
    exact F
  · obtain ⟨σ14, e_σ14, h⟩ := letv_e h
    have F := F.fI e_σ14 (by decide)
    obtain ⟨σ22, e_σ22, h⟩ := letv_e h
    have F := F.fI e_σ22 (by decide)
    obtain ⟨σ30, e_σ30, h⟩ := letv_e h
    have F := F.fI e_σ30 (by decide)
    obtain ⟨σ38, e_σ38, h⟩ := letv_e h
    have F := F.fI e_σ38 (by decide)
    obtain ⟨σ51, h1, h⟩ := bnd1_e h
    have F := F.c (fm_Mo_copies h1) (by decide) (by decide)
    obtain ⟨σ64, h1, h⟩ := bnd1_e h
    have F := F.c (fm_Mo_copies h1) (by decide) (by decide)
    obtain ⟨σ77, h1, h⟩ := bnd1_e h
    have F := F.c (fm_Mo_copies h1) (by decide) (by decide)
    obtain ⟨σ90, h1, h⟩ := bnd1_e h
    have F := F.c (fm_Mo_copies h1) (by decide) (by decide)
    obtain ⟨σ103, h1, h⟩ := bnd1_e h
    have F := F.c (fm_Mo_copies h1) (by decide) (by decide)
    obtain ⟨σ116, h1, h⟩ := bnd1_e h
    have F := F.c (fm_Mo_copies h1) (by decide) (by decide)
    cases h
    exact F
set_option maxHeartbeats 4000000 in
theorem fmL_Mo_check_l52 {N : Nat} {a1 : Int32} {a2 : Int32} {a3 : Int32} : ∀ (k : Nat) (x4 : Int32) (σ : Mem) (res : Int32 × Mem), L_Mo_check_l52 N a1 a2 a3 k x4 σ = some res → Fr [84, 85, 86, 87, 88] [(65, 11), (65, 37)] σ (res.2) := by
  intro k
  induction k with
  | zero => intro x4 σ res h; cases h
  | succ k ih =>
    intro x4 σ res h
    have F := Fr.rf [84, 85, 86, 87, 88] [(65, 11), (65, 37)] σ
    replace h : B_Mo_check_l52 N a1 a2 a3 (L_Mo_check_l52 N a1 a2 a3 k) x4 σ = some res := h
    unfold B_Mo_check_l52 at h
    rcases ite_or h with h | h
    · cases h
      exact F
    · obtain ⟨r61, h1, h⟩ := bnd1_e h
      obtain ⟨r73, h1, h⟩ := bnd1_e h
      obtain ⟨r76, h1, h⟩ := bnd1_e h
      rcases ite_or h with h | h
      · obtain ⟨v85, -, h⟩ := letv_e h
        exact F.t (ih _ _ _ h)
      · cases h
        exact F
set_option maxHeartbeats 4000000 in
theorem fm_Mo_check {N : Nat} {σ : Mem} {a1 : Int32} {a2 : Int32} {a3 : Int32} {r : Int32} {σ' : Mem} (h : f_Mo_check N σ a1 a2 a3 = some (r, σ')) : Fr [84, 85, 86, 87, 88] [(65, 11), (65, 37)] σ σ' := by
  have F := Fr.rf [84, 85, 86, 87, 88] [(65, 11), (65, 37)] σ
  unfold f_Mo_check at h
  obtain ⟨r1, h1, h⟩ := bnd1_e h
  rcases ite_or h with h | h
  · cases h
    exact F
  · obtain ⟨r11, h1, h⟩ := bnd1_e h
    rcases ite_or h with h | h
    · cases h
      exact F
    · obtain ⟨r21, h1, h⟩ := bnd1_e h
      rcases ite_or h with h | h
      · cases h
        exact F
      · rcases ite_or h with h | h
        · obtain ⟨σ42, e_σ42, h⟩ := letv_e h
          have F := F.fI e_σ42 (by decide)
          obtain ⟨σ46, h1, h⟩ := bnd1_e h
          have F := F.c (fm_Mo_laysDay h1) (by decide) (by decide)
          exact F.t (fmL_Mo_check_l52 _ _ _ _ h)
        · cases h
          exact F
set_option maxHeartbeats 4000000 in
theorem fm_Mo_count {N : Nat} {σ : Mem} {a1 : Int32} {r : Int32} {σ' : Mem} (h : f_Mo_count N σ a1 = some (r, σ')) : Fr [88] [(65, 37)] σ σ' := by
  have F := Fr.rf [88] [(65, 37)] σ
  unfold f_Mo_count at h
  rcases ite_or h with h | h
  · cases h
    exact F
  · rcases ite_or h with h | h
    · cases h
      exact F
    · rcases ite_or h with h | h
      · cases h
        exact F
      · rcases ite_or h with h | h
        · cases h
          exact F
        · rcases ite_or h with h | h
          · cases h
            exact F
          · rcases ite_or h with h | h
            · cases h
              exact F
            · rcases ite_or h with h | h
              · obtain ⟨r86, h1, h⟩ := bnd1_e h
                cases h
                exact F
              · rcases ite_or h with h | h
                · cases h
                  exact F
                · rcases ite_or h with h | h
                  · obtain ⟨σ96, h1, h⟩ := bnd1_e h
                    have F := F.c (fm_Mo_laysFree h1) (by decide) (by decide)
                    cases h
                    exact F
                  · cases h
                    exact F
